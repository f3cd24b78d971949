set_option maxHeartbeats 4000000 in
set_option maxRecDepth 100000 in
theorem lp_law_18 (l : Launch) (D : va_G) (cB cI cZ cM : ClassId) (K V : Nat → Nat) (xa : Nat) (ta : Nat) (yb : Nat) (ga : Nat) (la : Nat) (fa : Nat) (ua : Nat) (ma : Nat) (im : Nat) (bma : Nat) (cma : Nat) (o0 : Nat) (o1 : Nat) (o2 : Nat) (o3 : Nat) (o4 : Nat) (o5 : Nat) (o6 : Nat) (o7 : Nat) (o8 : Nat) (o9 : Nat) (oz : Nat) (sb : Nat) (Ln : Nat) (xs : Nat → Int32)  {pg : Program} {ev : Env} {sx : State} {mm : MethodId} {below : List Frame} {meth : Method} {cd : Code} (M : MX pg sx mm #[Value.ref sb] meth cd cL_law 4 ret RL wsL_law) (hK : va_K D vwCl (TYS cB cI cZ cM) sx) {A : Nat → Prop} (hA : ∀ q : Nat, sx.heap.size ≤ q → A q) (hX : va_X sb Ln xs sx sx.heap) (hbl : sb < sx.heap.size) (hbA : ¬ A sb) (hL : Ln ≤ 256) (hE : ENV K V A sx sx.heap) (hAs : ∀ q : Nat, A q → sx.heap.size ≤ q) : ∀ N : Nat, LWI l D cB cI cZ cM K V xa ta yb ga la fa ua ma im bma cma o0 o1 o2 o3 o4 o5 o6 o7 o8 o9 oz sb Ln xs pg ev sx mm below meth cd A N := by
  intro N
  induction N with
  | zero => intro n i kc pa sa ba qpa qsa qba tr tr2 tx ln ax ts tk vl dt ht lw d F m sv hm dy ac lk cl li da kp bhm bdy bac blk bcl bli bda bkp chm cdy cac clk ccl cli cda ckp so bm P TH B ra su vw no dn ha qso qbm qP qTH qB qra qsu qvw qno qdn qha td g1 g2 g3 g4 g5 g6 g7 f1 f2 f3 f4 f5 f6 f7 f8 f9 fz hN; exact absurd hN (Nat.not_lt_zero _)
  | succ N ih =>
    intro n i kc pa sa ba qpa qsa qba tr tr2 tx ln ax ts tk vl dt ht lw d F m sv hm dy ac lk cl li da kp bhm bdy bac blk bcl bli bda bkp chm cdy cac clk ccl cli cda ckp so bm P TH B ra su vw no dn ha qso qbm qP qTH qB qra qsu qvw qno qdn qha td g1 g2 g3 g4 g5 g6 g7 f1 f2 f3 f4 f5 f6 f7 f8 f9 fz hN iA iB iP iI0 iI1 iX iD iF iT iN iK H locs hP hD hS ls hl
    obtain ⟨hx, hb, hr, hml, hown, hts, hlk, hN0⟩ := id M
    have hs1 := sc_rng xs (i + 1)
    have hs2 := sc_rng xs (i + 2)
    have hs3 := sc_rng xs (i + 3)
    refine lv_iload_n hx hb dL_law_18 rfl (lv_at hl 3 rfl) ?_
    refine lv_aload_n hx hb dL_law_19 rfl (lv_at hl 0 rfl) ?_
    refine z_slen hx hb hX hbl hbA hS dL_law_20 ?_
    refine lv_iconst (v := zI 4) hx hb dL_law_21 rfl ?_
    refine z_isub hx hb dL_law_22 ?_
    refine z_icmp_gt (tgt := 787) hx hb dL_law_23 (by decide) (by omega) (fun c_23 => ?_) (fun c_23 => ?_)
    · skip
      refine lv_iconst (v := 1) hx hb dL_law_787 (by decide) ?_
      refine va_forget (fun q hq => hAs _ (hS.2.2 q hq)) ?_
      exact lw_ret hx hb hr hlk dL_law_788
    obtain ⟨n, rfl⟩ : ∃ x : Nat, n = x + 1 := ⟨n - 1, by omega⟩
    have hiL : i + 3 < (Ln : Int) := by omega
    refine lv_aload_n hx hb dL_law_26 rfl (lv_at hl 0 rfl) ?_
    refine lv_iload_n hx hb dL_law_27 rfl (lv_at hl 3 rfl) ?_
    refine z_sld hx hb hX hbl hbA hS hL (by omega) dL_law_28 ?_
    refine lv_bipush (v := zI 31) hx hb dL_law_29 (by decide) ?_
    refine lv_iand hx hb dL_law_31 ?_
    obtain ⟨op, hop, eop⟩ := op_31 (sc xs i)
    refine z_top (y := zI op) (eop) ?_
    by_cases c_32_0 : op = 0
    · skip
      refine lv_tableIn (tgt := 152) hx hb dL_law_32 (by rw [zI_toInt (by omega)]; omega) (by rw [zI_toInt (by omega)]; omega) (by rw [zI_toInt (by omega), c_32_0]; rfl) (by decide) ?_
      exact lw_case_0 l D cB cI cZ cM K V xa ta yb ga la fa ua ma im bma cma o0 o1 o2 o3 o4 o5 o6 o7 o8 o9 oz sb Ln xs M hK hA hX hbl hbA hL hE N ih n i kc pa sa ba qpa qsa qba tr tr2 tx ln ax ts tk vl dt ht lw d F m sv hm dy ac lk cl li da kp bhm bdy bac blk bcl bli bda bkp chm cdy cac clk ccl cli cda ckp so bm P TH B ra su vw no dn ha qso qbm qP qTH qB qra qsu qvw qno qdn qha td g1 g2 g3 g4 g5 g6 g7 f1 f2 f3 f4 f5 f6 f7 f8 f9 fz hN iA iB iP iI0 iI1 iX iD iF iT iN iK hiL H locs hP hD hS ls hl
    by_cases c_32_1 : op = 1
    · skip
      refine lv_tableIn (tgt := 215) hx hb dL_law_32 (by rw [zI_toInt (by omega)]; omega) (by rw [zI_toInt (by omega)]; omega) (by rw [zI_toInt (by omega), c_32_1]; rfl) (by decide) ?_
      exact lw_case_1 l D cB cI cZ cM K V xa ta yb ga la fa ua ma im bma cma o0 o1 o2 o3 o4 o5 o6 o7 o8 o9 oz sb Ln xs M hK hA hX hbl hbA hL hE N ih n i kc pa sa ba qpa qsa qba tr tr2 tx ln ax ts tk vl dt ht lw d F m sv hm dy ac lk cl li da kp bhm bdy bac blk bcl bli bda bkp chm cdy cac clk ccl cli cda ckp so bm P TH B ra su vw no dn ha qso qbm qP qTH qB qra qsu qvw qno qdn qha td g1 g2 g3 g4 g5 g6 g7 f1 f2 f3 f4 f5 f6 f7 f8 f9 fz hN iA iB iP iI0 iI1 iX iD iF iT iN iK hiL H locs hP hD hS ls hl
    by_cases c_32_2 : op = 2
    · skip
      refine lv_tableIn (tgt := 228) hx hb dL_law_32 (by rw [zI_toInt (by omega)]; omega) (by rw [zI_toInt (by omega)]; omega) (by rw [zI_toInt (by omega), c_32_2]; rfl) (by decide) ?_
      exact lw_case_2 l D cB cI cZ cM K V xa ta yb ga la fa ua ma im bma cma o0 o1 o2 o3 o4 o5 o6 o7 o8 o9 oz sb Ln xs M hK hA hX hbl hbA hL hE N ih n i kc pa sa ba qpa qsa qba tr tr2 tx ln ax ts tk vl dt ht lw d F m sv hm dy ac lk cl li da kp bhm bdy bac blk bcl bli bda bkp chm cdy cac clk ccl cli cda ckp so bm P TH B ra su vw no dn ha qso qbm qP qTH qB qra qsu qvw qno qdn qha td g1 g2 g3 g4 g5 g6 g7 f1 f2 f3 f4 f5 f6 f7 f8 f9 fz hN iA iB iP iI0 iI1 iX iD iF iT iN iK hiL H locs hP hD hS ls hl
    by_cases c_32_3 : op = 3
    · skip
      refine lv_tableIn (tgt := 241) hx hb dL_law_32 (by rw [zI_toInt (by omega)]; omega) (by rw [zI_toInt (by omega)]; omega) (by rw [zI_toInt (by omega), c_32_3]; rfl) (by decide) ?_
      exact lw_case_3 l D cB cI cZ cM K V xa ta yb ga la fa ua ma im bma cma o0 o1 o2 o3 o4 o5 o6 o7 o8 o9 oz sb Ln xs M hK hA hX hbl hbA hL hE N ih n i kc pa sa ba qpa qsa qba tr tr2 tx ln ax ts tk vl dt ht lw d F m sv hm dy ac lk cl li da kp bhm bdy bac blk bcl bli bda bkp chm cdy cac clk ccl cli cda ckp so bm P TH B ra su vw no dn ha qso qbm qP qTH qB qra qsu qvw qno qdn qha td g1 g2 g3 g4 g5 g6 g7 f1 f2 f3 f4 f5 f6 f7 f8 f9 fz hN iA iB iP iI0 iI1 iX iD iF iT iN iK hiL H locs hP hD hS ls hl
    by_cases c_32_4 : op = 4
    · skip
      refine lv_tableIn (tgt := 274) hx hb dL_law_32 (by rw [zI_toInt (by omega)]; omega) (by rw [zI_toInt (by omega)]; omega) (by rw [zI_toInt (by omega), c_32_4]; rfl) (by decide) ?_
      exact lw_case_4 l D cB cI cZ cM K V xa ta yb ga la fa ua ma im bma cma o0 o1 o2 o3 o4 o5 o6 o7 o8 o9 oz sb Ln xs M hK hA hX hbl hbA hL hE N ih n i kc pa sa ba qpa qsa qba tr tr2 tx ln ax ts tk vl dt ht lw d F m sv hm dy ac lk cl li da kp bhm bdy bac blk bcl bli bda bkp chm cdy cac clk ccl cli cda ckp so bm P TH B ra su vw no dn ha qso qbm qP qTH qB qra qsu qvw qno qdn qha td g1 g2 g3 g4 g5 g6 g7 f1 f2 f3 f4 f5 f6 f7 f8 f9 fz hN iA iB iP iI0 iI1 iX iD iF iT iN iK hiL H locs hP hD hS ls hl
    by_cases c_32_5 : op = 5
    · skip
      refine lv_tableIn (tgt := 307) hx hb dL_law_32 (by rw [zI_toInt (by omega)]; omega) (by rw [zI_toInt (by omega)]; omega) (by rw [zI_toInt (by omega), c_32_5]; rfl) (by decide) ?_
      exact lw_case_5 l D cB cI cZ cM K V xa ta yb ga la fa ua ma im bma cma o0 o1 o2 o3 o4 o5 o6 o7 o8 o9 oz sb Ln xs M hK hA hX hbl hbA hL hE N ih n i kc pa sa ba qpa qsa qba tr tr2 tx ln ax ts tk vl dt ht lw d F m sv hm dy ac lk cl li da kp bhm bdy bac blk bcl bli bda bkp chm cdy cac clk ccl cli cda ckp so bm P TH B ra su vw no dn ha qso qbm qP qTH qB qra qsu qvw qno qdn qha td g1 g2 g3 g4 g5 g6 g7 f1 f2 f3 f4 f5 f6 f7 f8 f9 fz hN iA iB iP iI0 iI1 iX iD iF iT iN iK hiL H locs hP hD hS ls hl
    by_cases c_32_6 : op = 6
    · skip
      refine lv_tableIn (tgt := 330) hx hb dL_law_32 (by rw [zI_toInt (by omega)]; omega) (by rw [zI_toInt (by omega)]; omega) (by rw [zI_toInt (by omega), c_32_6]; rfl) (by decide) ?_
      exact lw_case_6 l D cB cI cZ cM K V xa ta yb ga la fa ua ma im bma cma o0 o1 o2 o3 o4 o5 o6 o7 o8 o9 oz sb Ln xs M hK hA hX hbl hbA hL hE N ih n i kc pa sa ba qpa qsa qba tr tr2 tx ln ax ts tk vl dt ht lw d F m sv hm dy ac lk cl li da kp bhm bdy bac blk bcl bli bda bkp chm cdy cac clk ccl cli cda ckp so bm P TH B ra su vw no dn ha qso qbm qP qTH qB qra qsu qvw qno qdn qha td g1 g2 g3 g4 g5 g6 g7 f1 f2 f3 f4 f5 f6 f7 f8 f9 fz hN iA iB iP iI0 iI1 iX iD iF iT iN iK hiL H locs hP hD hS ls hl
    by_cases c_32_7 : op = 7
    · skip
      refine lv_tableIn (tgt := 353) hx hb dL_law_32 (by rw [zI_toInt (by omega)]; omega) (by rw [zI_toInt (by omega)]; omega) (by rw [zI_toInt (by omega), c_32_7]; rfl) (by decide) ?_
      exact lw_case_7 l D cB cI cZ cM K V xa ta yb ga la fa ua ma im bma cma o0 o1 o2 o3 o4 o5 o6 o7 o8 o9 oz sb Ln xs M hK hA hX hbl hbA hL hE N ih n i kc pa sa ba qpa qsa qba tr tr2 tx ln ax ts tk vl dt ht lw d F m sv hm dy ac lk cl li da kp bhm bdy bac blk bcl bli bda bkp chm cdy cac clk ccl cli cda ckp so bm P TH B ra su vw no dn ha qso qbm qP qTH qB qra qsu qvw qno qdn qha td g1 g2 g3 g4 g5 g6 g7 f1 f2 f3 f4 f5 f6 f7 f8 f9 fz hN iA iB iP iI0 iI1 iX iD iF iT iN iK hiL H locs hP hD hS ls hl
    by_cases c_32_8 : op = 8
    · skip
      refine lv_tableIn (tgt := 376) hx hb dL_law_32 (by rw [zI_toInt (by omega)]; omega) (by rw [zI_toInt (by omega)]; omega) (by rw [zI_toInt (by omega), c_32_8]; rfl) (by decide) ?_
      exact lw_case_8 l D cB cI cZ cM K V xa ta yb ga la fa ua ma im bma cma o0 o1 o2 o3 o4 o5 o6 o7 o8 o9 oz sb Ln xs M hK hA hX hbl hbA hL hE N ih n i kc pa sa ba qpa qsa qba tr tr2 tx ln ax ts tk vl dt ht lw d F m sv hm dy ac lk cl li da kp bhm bdy bac blk bcl bli bda bkp chm cdy cac clk ccl cli cda ckp so bm P TH B ra su vw no dn ha qso qbm qP qTH qB qra qsu qvw qno qdn qha td g1 g2 g3 g4 g5 g6 g7 f1 f2 f3 f4 f5 f6 f7 f8 f9 fz hN iA iB iP iI0 iI1 iX iD iF iT iN iK hiL H locs hP hD hS ls hl
    by_cases c_32_9 : op = 9
    · skip
      refine lv_tableIn (tgt := 409) hx hb dL_law_32 (by rw [zI_toInt (by omega)]; omega) (by rw [zI_toInt (by omega)]; omega) (by rw [zI_toInt (by omega), c_32_9]; rfl) (by decide) ?_
      exact lw_case_9 l D cB cI cZ cM K V xa ta yb ga la fa ua ma im bma cma o0 o1 o2 o3 o4 o5 o6 o7 o8 o9 oz sb Ln xs M hK hA hX hbl hbA hL hE N ih n i kc pa sa ba qpa qsa qba tr tr2 tx ln ax ts tk vl dt ht lw d F m sv hm dy ac lk cl li da kp bhm bdy bac blk bcl bli bda bkp chm cdy cac clk ccl cli cda ckp so bm P TH B ra su vw no dn ha qso qbm qP qTH qB qra qsu qvw qno qdn qha td g1 g2 g3 g4 g5 g6 g7 f1 f2 f3 f4 f5 f6 f7 f8 f9 fz hN iA iB iP iI0 iI1 iX iD iF iT iN iK hiL H locs hP hD hS ls hl
    by_cases c_32_10 : op = 10
    · skip
      refine lv_tableIn (tgt := 422) hx hb dL_law_32 (by rw [zI_toInt (by omega)]; omega) (by rw [zI_toInt (by omega)]; omega) (by rw [zI_toInt (by omega), c_32_10]; rfl) (by decide) ?_
      exact lw_case_10 l D cB cI cZ cM K V xa ta yb ga la fa ua ma im bma cma o0 o1 o2 o3 o4 o5 o6 o7 o8 o9 oz sb Ln xs M hK hA hX hbl hbA hL hE N ih n i kc pa sa ba qpa qsa qba tr tr2 tx ln ax ts tk vl dt ht lw d F m sv hm dy ac lk cl li da kp bhm bdy bac blk bcl bli bda bkp chm cdy cac clk ccl cli cda ckp so bm P TH B ra su vw no dn ha qso qbm qP qTH qB qra qsu qvw qno qdn qha td g1 g2 g3 g4 g5 g6 g7 f1 f2 f3 f4 f5 f6 f7 f8 f9 fz hN iA iB iP iI0 iI1 iX iD iF iT iN iK hiL H locs hP hD hS ls hl
    by_cases c_32_11 : op = 11
    · skip
      refine lv_tableIn (tgt := 445) hx hb dL_law_32 (by rw [zI_toInt (by omega)]; omega) (by rw [zI_toInt (by omega)]; omega) (by rw [zI_toInt (by omega), c_32_11]; rfl) (by decide) ?_
      exact lw_case_11 l D cB cI cZ cM K V xa ta yb ga la fa ua ma im bma cma o0 o1 o2 o3 o4 o5 o6 o7 o8 o9 oz sb Ln xs M hK hA hX hbl hbA hL hE N ih n i kc pa sa ba qpa qsa qba tr tr2 tx ln ax ts tk vl dt ht lw d F m sv hm dy ac lk cl li da kp bhm bdy bac blk bcl bli bda bkp chm cdy cac clk ccl cli cda ckp so bm P TH B ra su vw no dn ha qso qbm qP qTH qB qra qsu qvw qno qdn qha td g1 g2 g3 g4 g5 g6 g7 f1 f2 f3 f4 f5 f6 f7 f8 f9 fz hN iA iB iP iI0 iI1 iX iD iF iT iN iK hiL H locs hP hD hS ls hl
    by_cases c_32_12 : op = 12
    · skip
      refine lv_tableIn (tgt := 468) hx hb dL_law_32 (by rw [zI_toInt (by omega)]; omega) (by rw [zI_toInt (by omega)]; omega) (by rw [zI_toInt (by omega), c_32_12]; rfl) (by decide) ?_
      exact lw_case_12 l D cB cI cZ cM K V xa ta yb ga la fa ua ma im bma cma o0 o1 o2 o3 o4 o5 o6 o7 o8 o9 oz sb Ln xs M hK hA hX hbl hbA hL hE N ih n i kc pa sa ba qpa qsa qba tr tr2 tx ln ax ts tk vl dt ht lw d F m sv hm dy ac lk cl li da kp bhm bdy bac blk bcl bli bda bkp chm cdy cac clk ccl cli cda ckp so bm P TH B ra su vw no dn ha qso qbm qP qTH qB qra qsu qvw qno qdn qha td g1 g2 g3 g4 g5 g6 g7 f1 f2 f3 f4 f5 f6 f7 f8 f9 fz hN iA iB iP iI0 iI1 iX iD iF iT iN iK hiL H locs hP hD hS ls hl
    by_cases c_32_13 : op = 13
    · skip
      refine lv_tableIn (tgt := 491) hx hb dL_law_32 (by rw [zI_toInt (by omega)]; omega) (by rw [zI_toInt (by omega)]; omega) (by rw [zI_toInt (by omega), c_32_13]; rfl) (by decide) ?_
      exact lw_case_13 l D cB cI cZ cM K V xa ta yb ga la fa ua ma im bma cma o0 o1 o2 o3 o4 o5 o6 o7 o8 o9 oz sb Ln xs M hK hA hX hbl hbA hL hE N ih n i kc pa sa ba qpa qsa qba tr tr2 tx ln ax ts tk vl dt ht lw d F m sv hm dy ac lk cl li da kp bhm bdy bac blk bcl bli bda bkp chm cdy cac clk ccl cli cda ckp so bm P TH B ra su vw no dn ha qso qbm qP qTH qB qra qsu qvw qno qdn qha td g1 g2 g3 g4 g5 g6 g7 f1 f2 f3 f4 f5 f6 f7 f8 f9 fz hN iA iB iP iI0 iI1 iX iD iF iT iN iK hiL H locs hP hD hS ls hl
    by_cases c_32_14 : op = 14
    · skip
      refine lv_tableIn (tgt := 514) hx hb dL_law_32 (by rw [zI_toInt (by omega)]; omega) (by rw [zI_toInt (by omega)]; omega) (by rw [zI_toInt (by omega), c_32_14]; rfl) (by decide) ?_
      exact lw_case_14 l D cB cI cZ cM K V xa ta yb ga la fa ua ma im bma cma o0 o1 o2 o3 o4 o5 o6 o7 o8 o9 oz sb Ln xs M hK hA hX hbl hbA hL hE N ih n i kc pa sa ba qpa qsa qba tr tr2 tx ln ax ts tk vl dt ht lw d F m sv hm dy ac lk cl li da kp bhm bdy bac blk bcl bli bda bkp chm cdy cac clk ccl cli cda ckp so bm P TH B ra su vw no dn ha qso qbm qP qTH qB qra qsu qvw qno qdn qha td g1 g2 g3 g4 g5 g6 g7 f1 f2 f3 f4 f5 f6 f7 f8 f9 fz hN iA iB iP iI0 iI1 iX iD iF iT iN iK hiL H locs hP hD hS ls hl
    by_cases c_32_15 : op = 15
    · skip
      refine lv_tableIn (tgt := 537) hx hb dL_law_32 (by rw [zI_toInt (by omega)]; omega) (by rw [zI_toInt (by omega)]; omega) (by rw [zI_toInt (by omega), c_32_15]; rfl) (by decide) ?_
      exact lw_case_15 l D cB cI cZ cM K V xa ta yb ga la fa ua ma im bma cma o0 o1 o2 o3 o4 o5 o6 o7 o8 o9 oz sb Ln xs M hK hA hX hbl hbA hL hE N ih n i kc pa sa ba qpa qsa qba tr tr2 tx ln ax ts tk vl dt ht lw d F m sv hm dy ac lk cl li da kp bhm bdy bac blk bcl bli bda bkp chm cdy cac clk ccl cli cda ckp so bm P TH B ra su vw no dn ha qso qbm qP qTH qB qra qsu qvw qno qdn qha td g1 g2 g3 g4 g5 g6 g7 f1 f2 f3 f4 f5 f6 f7 f8 f9 fz hN iA iB iP iI0 iI1 iX iD iF iT iN iK hiL H locs hP hD hS ls hl
    by_cases c_32_16 : op = 16
    · skip
      refine lv_tableIn (tgt := 560) hx hb dL_law_32 (by rw [zI_toInt (by omega)]; omega) (by rw [zI_toInt (by omega)]; omega) (by rw [zI_toInt (by omega), c_32_16]; rfl) (by decide) ?_
      exact lw_case_16 l D cB cI cZ cM K V xa ta yb ga la fa ua ma im bma cma o0 o1 o2 o3 o4 o5 o6 o7 o8 o9 oz sb Ln xs M hK hA hX hbl hbA hL hE N ih n i kc pa sa ba qpa qsa qba tr tr2 tx ln ax ts tk vl dt ht lw d F m sv hm dy ac lk cl li da kp bhm bdy bac blk bcl bli bda bkp chm cdy cac clk ccl cli cda ckp so bm P TH B ra su vw no dn ha qso qbm qP qTH qB qra qsu qvw qno qdn qha td g1 g2 g3 g4 g5 g6 g7 f1 f2 f3 f4 f5 f6 f7 f8 f9 fz hN iA iB iP iI0 iI1 iX iD iF iT iN iK hiL H locs hP hD hS ls hl
    by_cases c_32_17 : op = 17
    · skip
      refine lv_tableIn (tgt := 583) hx hb dL_law_32 (by rw [zI_toInt (by omega)]; omega) (by rw [zI_toInt (by omega)]; omega) (by rw [zI_toInt (by omega), c_32_17]; rfl) (by decide) ?_
      exact lw_case_17 l D cB cI cZ cM K V xa ta yb ga la fa ua ma im bma cma o0 o1 o2 o3 o4 o5 o6 o7 o8 o9 oz sb Ln xs M hK hA hX hbl hbA hL hE N ih n i kc pa sa ba qpa qsa qba tr tr2 tx ln ax ts tk vl dt ht lw d F m sv hm dy ac lk cl li da kp bhm bdy bac blk bcl bli bda bkp chm cdy cac clk ccl cli cda ckp so bm P TH B ra su vw no dn ha qso qbm qP qTH qB qra qsu qvw qno qdn qha td g1 g2 g3 g4 g5 g6 g7 f1 f2 f3 f4 f5 f6 f7 f8 f9 fz hN iA iB iP iI0 iI1 iX iD iF iT iN iK hiL H locs hP hD hS ls hl
    by_cases c_32_18 : op = 18
    · skip
      refine lv_tableIn (tgt := 616) hx hb dL_law_32 (by rw [zI_toInt (by omega)]; omega) (by rw [zI_toInt (by omega)]; omega) (by rw [zI_toInt (by omega), c_32_18]; rfl) (by decide) ?_
      exact lw_case_18 l D cB cI cZ cM K V xa ta yb ga la fa ua ma im bma cma o0 o1 o2 o3 o4 o5 o6 o7 o8 o9 oz sb Ln xs M hK hA hX hbl hbA hL hE N ih n i kc pa sa ba qpa qsa qba tr tr2 tx ln ax ts tk vl dt ht lw d F m sv hm dy ac lk cl li da kp bhm bdy bac blk bcl bli bda bkp chm cdy cac clk ccl cli cda ckp so bm P TH B ra su vw no dn ha qso qbm qP qTH qB qra qsu qvw qno qdn qha td g1 g2 g3 g4 g5 g6 g7 f1 f2 f3 f4 f5 f6 f7 f8 f9 fz hN iA iB iP iI0 iI1 iX iD iF iT iN iK hiL H locs hP hD hS ls hl
    by_cases c_32_19 : op = 19
    · skip
      refine lv_tableIn (tgt := 629) hx hb dL_law_32 (by rw [zI_toInt (by omega)]; omega) (by rw [zI_toInt (by omega)]; omega) (by rw [zI_toInt (by omega), c_32_19]; rfl) (by decide) ?_
      exact lw_case_19 l D cB cI cZ cM K V xa ta yb ga la fa ua ma im bma cma o0 o1 o2 o3 o4 o5 o6 o7 o8 o9 oz sb Ln xs M hK hA hX hbl hbA hL hE N ih n i kc pa sa ba qpa qsa qba tr tr2 tx ln ax ts tk vl dt ht lw d F m sv hm dy ac lk cl li da kp bhm bdy bac blk bcl bli bda bkp chm cdy cac clk ccl cli cda ckp so bm P TH B ra su vw no dn ha qso qbm qP qTH qB qra qsu qvw qno qdn qha td g1 g2 g3 g4 g5 g6 g7 f1 f2 f3 f4 f5 f6 f7 f8 f9 fz hN iA iB iP iI0 iI1 iX iD iF iT iN iK hiL H locs hP hD hS ls hl
    by_cases c_32_20 : op = 20
    · skip
      refine lv_tableIn (tgt := 652) hx hb dL_law_32 (by rw [zI_toInt (by omega)]; omega) (by rw [zI_toInt (by omega)]; omega) (by rw [zI_toInt (by omega), c_32_20]; rfl) (by decide) ?_
      exact lw_case_20 l D cB cI cZ cM K V xa ta yb ga la fa ua ma im bma cma o0 o1 o2 o3 o4 o5 o6 o7 o8 o9 oz sb Ln xs M hK hA hX hbl hbA hL hE N ih n i kc pa sa ba qpa qsa qba tr tr2 tx ln ax ts tk vl dt ht lw d F m sv hm dy ac lk cl li da kp bhm bdy bac blk bcl bli bda bkp chm cdy cac clk ccl cli cda ckp so bm P TH B ra su vw no dn ha qso qbm qP qTH qB qra qsu qvw qno qdn qha td g1 g2 g3 g4 g5 g6 g7 f1 f2 f3 f4 f5 f6 f7 f8 f9 fz hN iA iB iP iI0 iI1 iX iD iF iT iN iK hiL H locs hP hD hS ls hl
    by_cases c_32_21 : op = 21
    · skip
      refine lv_tableIn (tgt := 665) hx hb dL_law_32 (by rw [zI_toInt (by omega)]; omega) (by rw [zI_toInt (by omega)]; omega) (by rw [zI_toInt (by omega), c_32_21]; rfl) (by decide) ?_
      exact lw_case_21 l D cB cI cZ cM K V xa ta yb ga la fa ua ma im bma cma o0 o1 o2 o3 o4 o5 o6 o7 o8 o9 oz sb Ln xs M hK hA hX hbl hbA hL hE N ih n i kc pa sa ba qpa qsa qba tr tr2 tx ln ax ts tk vl dt ht lw d F m sv hm dy ac lk cl li da kp bhm bdy bac blk bcl bli bda bkp chm cdy cac clk ccl cli cda ckp so bm P TH B ra su vw no dn ha qso qbm qP qTH qB qra qsu qvw qno qdn qha td g1 g2 g3 g4 g5 g6 g7 f1 f2 f3 f4 f5 f6 f7 f8 f9 fz hN iA iB iP iI0 iI1 iX iD iF iT iN iK hiL H locs hP hD hS ls hl
    by_cases c_32_22 : op = 22
    · skip
      refine lv_tableIn (tgt := 698) hx hb dL_law_32 (by rw [zI_toInt (by omega)]; omega) (by rw [zI_toInt (by omega)]; omega) (by rw [zI_toInt (by omega), c_32_22]; rfl) (by decide) ?_
      exact lw_case_22 l D cB cI cZ cM K V xa ta yb ga la fa ua ma im bma cma o0 o1 o2 o3 o4 o5 o6 o7 o8 o9 oz sb Ln xs M hK hA hX hbl hbA hL hE N ih n i kc pa sa ba qpa qsa qba tr tr2 tx ln ax ts tk vl dt ht lw d F m sv hm dy ac lk cl li da kp bhm bdy bac blk bcl bli bda bkp chm cdy cac clk ccl cli cda ckp so bm P TH B ra su vw no dn ha qso qbm qP qTH qB qra qsu qvw qno qdn qha td g1 g2 g3 g4 g5 g6 g7 f1 f2 f3 f4 f5 f6 f7 f8 f9 fz hN iA iB iP iI0 iI1 iX iD iF iT iN iK hiL H locs hP hD hS ls hl
    by_cases c_32_23 : op = 23
    · skip
      refine lv_tableIn (tgt := 721) hx hb dL_law_32 (by rw [zI_toInt (by omega)]; omega) (by rw [zI_toInt (by omega)]; omega) (by rw [zI_toInt (by omega), c_32_23]; rfl) (by decide) ?_
      exact lw_case_23 l D cB cI cZ cM K V xa ta yb ga la fa ua ma im bma cma o0 o1 o2 o3 o4 o5 o6 o7 o8 o9 oz sb Ln xs M hK hA hX hbl hbA hL hE N ih n i kc pa sa ba qpa qsa qba tr tr2 tx ln ax ts tk vl dt ht lw d F m sv hm dy ac lk cl li da kp bhm bdy bac blk bcl bli bda bkp chm cdy cac clk ccl cli cda ckp so bm P TH B ra su vw no dn ha qso qbm qP qTH qB qra qsu qvw qno qdn qha td g1 g2 g3 g4 g5 g6 g7 f1 f2 f3 f4 f5 f6 f7 f8 f9 fz hN iA iB iP iI0 iI1 iX iD iF iT iN iK hiL H locs hP hD hS ls hl
    by_cases c_32_24 : op = 24
    · skip
      refine lv_tableIn (tgt := 744) hx hb dL_law_32 (by rw [zI_toInt (by omega)]; omega) (by rw [zI_toInt (by omega)]; omega) (by rw [zI_toInt (by omega), c_32_24]; rfl) (by decide) ?_
      exact lw_case_24 l D cB cI cZ cM K V xa ta yb ga la fa ua ma im bma cma o0 o1 o2 o3 o4 o5 o6 o7 o8 o9 oz sb Ln xs M hK hA hX hbl hbA hL hE N ih n i kc pa sa ba qpa qsa qba tr tr2 tx ln ax ts tk vl dt ht lw d F m sv hm dy ac lk cl li da kp bhm bdy bac blk bcl bli bda bkp chm cdy cac clk ccl cli cda ckp so bm P TH B ra su vw no dn ha qso qbm qP qTH qB qra qsu qvw qno qdn qha td g1 g2 g3 g4 g5 g6 g7 f1 f2 f3 f4 f5 f6 f7 f8 f9 fz hN iA iB iP iI0 iI1 iX iD iF iT iN iK hiL H locs hP hD hS ls hl
    by_cases c_32_25 : op = 25
    · skip
      refine lv_tableIn (tgt := 767) hx hb dL_law_32 (by rw [zI_toInt (by omega)]; omega) (by rw [zI_toInt (by omega)]; omega) (by rw [zI_toInt (by omega), c_32_25]; rfl) (by decide) ?_
      exact lw_case_25 l D cB cI cZ cM K V xa ta yb ga la fa ua ma im bma cma o0 o1 o2 o3 o4 o5 o6 o7 o8 o9 oz sb Ln xs M hK hA hX hbl hbA hL hE N ih n i kc pa sa ba qpa qsa qba tr tr2 tx ln ax ts tk vl dt ht lw d F m sv hm dy ac lk cl li da kp bhm bdy bac blk bcl bli bda bkp chm cdy cac clk ccl cli cda ckp so bm P TH B ra su vw no dn ha qso qbm qP qTH qB qra qsu qvw qno qdn qha td g1 g2 g3 g4 g5 g6 g7 f1 f2 f3 f4 f5 f6 f7 f8 f9 fz hN iA iB iP iI0 iI1 iX iD iF iT iN iK hiL H locs hP hD hS ls hl
    refine lv_tableOut (tgt := 781) hx hb dL_law_32 (by rw [zI_toInt (by omega)]; omega) (by decide) ?_
    refine z_iinc (a := i) (k := 3) (lv' := [(3, .int (zI (i + 4))), (0, .ref sb), (1, .ref xa), (2, .ref o0)]) hx hb dL_law_781 hl rfl (by decide) rfl (fun ls hl => ?_)
    refine lv_goto (tgt := 18) hx hb dL_law_784 (by decide) ?_
    exact ih n (i + 4) (kc + 1) pa sa ba qpa qsa qba tr tr2 tx ln ax ts tk vl dt ht lw d F m sv hm dy ac lk cl li da kp bhm bdy bac blk bcl bli bda bkp chm cdy cac clk ccl cli cda ckp so bm P TH B ra su vw no dn ha qso qbm qP qTH qB qra qsu qvw qno qdn qha td g1 g2 g3 g4 g5 g6 g7 f1 f2 f3 f4 f5 f6 f7 f8 f9 fz (by omega) (by assumption) (by exact moS_K (by omega) iB) (by assumption) (by exact relI_K (by omega) iI0) (by exact relI_K (by omega) iI1) (by assumption) (by assumption) (by assumption) (by assumption) (by omega) (by omega) _ _ hP hD hS _ (lv_sub hl [1, 2, 3, 0] rfl)
