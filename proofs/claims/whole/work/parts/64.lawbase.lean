/-! ===== the law's own rows ===== -/
def sc (xs : Nat → Int32) (a : Int) : Int := (xs a.toNat).toInt
theorem sc_rng (xs : Nat → Int32) (a : Int) : -2147483648 ≤ sc xs a ∧ sc xs a < 2147483648 := zI_rng _
section LAWR
variable {p : Program} {l : Launch} {e : Env} {R : Room} {s : State} {m : MethodId} {args : Array Value} {below : List Frame} {meth : Method} {c : Code} {H H0 : Heap} {locs : List Loc} {cells slots : Nat} {Q : State → Prop}
variable {cc : ByteArray} {pc nL : Nat} {ret0 : Option FieldType} {own : String} {Ts : List Cond} {ls : Array Slot} {rest st0 : List Value} {a : Int} {D : va_G} {tys : List (ClassId × FieldType)} {ws : va_W} {A : Nat → Prop}
theorem z_sld (hx : p.tables.exec = Jvm.exec) (hb : c.code = cc) {b L : Nat} {xs : Nat → Int32} (hX : va_X b L xs s H0) (hbl : b < H0.size) (hbA : ¬ A b) (hS : va_S A H0 H locs) (hL : L ≤ 256) (hin : 0 ≤ a ∧ a < L) (hd : decode cc pc = .ok (.iaload, 1))
    (kk : W p l e R s m args below meth c H locs cells slots Q (F0 m (pc + 1) ls (.int (zI (sc xs a)) :: rest))) : W p l e R s m args below meth c H locs cells slots Q (F0 m pc ls (.int (zI a) :: .ref b :: rest)) :=
  va_sld hx hb hX hbl hbA hS (zI_in hin (by omega)) hd (by rw [zI_cl (by omega), ← zI_of (xs a.toNat)]; exact kk)
theorem z_slen (hx : p.tables.exec = Jvm.exec) (hb : c.code = cc) {b L : Nat} {xs : Nat → Int32} (hX : va_X b L xs s H0) (hbl : b < H0.size) (hbA : ¬ A b) (hS : va_S A H0 H locs) (hd : decode cc pc = .ok (.arraylength, 1))
    (kk : W p l e R s m args below meth c H locs cells slots Q (F0 m (pc + 1) ls (.int (zI (L : Int)) :: rest))) : W p l e R s m args below meth c H locs cells slots Q (F0 m pc ls (.ref b :: rest)) :=
  va_slen hx hb hX hbl hbA hS hd (by rw [show Int32.ofNat L = zI (L : Int) from zI_nat L]; exact kk)
theorem pul_call {post : Int64 → Prop} {aa : Array Value} (hr : va_Run p l e R s m args below meth c H locs cells slots 0 0 (F0 m pc ls st0) rest (Qpl H post aa) (fun _ => False))
    (kk : ∀ r : Int64, post r → W p l e R s m args below meth c H locs cells slots Q (F0 m (pc + 3) ls (.long r :: rest))) : W p l e R s m args below meth c H locs cells slots Q (F0 m pc ls st0) := by
  intro T hT X
  obtain ⟨v, st₀, t, T', L, h0, X', hL, e1, e2, ⟨⟨r, u, hv, hp, hb⟩, hz, hk⟩, st⟩ := hr T hT X
  cases hv
  have hLn : L = [] := by
    cases L with
    | nil => rfl
    | cons q L => exact (hL q List.mem_cons_self).elim
  subst hLn
  rw [List.append_nil] at X'
  obtain ⟨t2, a1, b1⟩ := kk r hp T' (e1.trans hb) X'
  exact ⟨t2, st t2 a1, b1⟩
theorem pc_Vl {post : Int64 → Prop} {y : MethodName} {wl wl' : List Cond} {rf rl n maxL index : Nat} {bytes : ByteArray} {ret : Option FieldType} {C : String} {b : Nat} {As : List Value} {wc : va_W}
    (M : MX p s m args meth c cc nL ret0 own Ts) (hM : cPl l y wl rf rl D tys (.ref b :: As) wc H post) (hT : GoodIn Ts (wsV own index C y wl)) (hw : wl = Cond.code y bytes maxL ret :: wl')
    (hd : y.cls = C ∧ y.cls ≠ "java/lang/invoke/MethodHandle" ∧ y.cls ≠ "java/lang/invoke/VarHandle" ∧ (parseMethodDescriptor y.desc).map (fun d => d.parameters.length) = some n) (hR : rf + 1 ≤ R.frames ∧ 8 + (maxL + 11) + rl ≤ R.locals)
    (hK : va_K D vwCl tys s) (hP : va_P D vwCl ws H) (isC : List Nat) (hC : isC.filterMap (fun i => ws[i]?) = wc) (q0 ci : Nat) {fs : List Value} (he : ws[q0]? = some (b, .inr (ci, fs))) {q : vw_C} (hc : vwCl[ci]? = some q) (hq : q.1 = C)
    (hl : ls.size = nL) (hn : As.length = n) (hst : st0 = As.reverse ++ .ref b :: rest) (hW : (rest.map fun v => v.category).sum ≤ 8) (hdg : decode cc pc = .ok (.invokevirtual index, 3)) (hcap : cells ≤ R.cells ∧ slots ≤ R.slots)
    (kk : ∀ r : Int64, post r → W p l e R s m args below meth c H locs cells slots Q (F0 m (pc + 3) ls (.long r :: rest))) : W p l e R s m args below meth c H locs cells slots Q (F0 m pc ls st0) :=
  pul_call (va_runV (As := As) (rest := rest) M.fix hM (cwV n M.2.2.2.2.2.1 hT hw rfl rfl hd hR) ⟨PZ_blind, by rw [← hq]; exact va_recv hK hP hc he, fun U hU hW => ⟨rfl, hU, hP.sub isC hC, va_K.moved hW.alike hK, M.2.2.2.2.2.2.2.warm hW⟩⟩ rfl hn hl hst (lv_room hW) hdg hcap) kk
end LAWR
theorem op_31 (x : Int) : ∃ k : Int, (0 ≤ k ∧ k ≤ 31) ∧ zI x &&& zI 31 = zI k := by
  obtain ⟨n, hn, e⟩ := wb_of32 (zI x)
  have h31 : n &&& 31 = n % 32 := Nat.and_two_pow_sub_one_eq_mod n 5
  refine ⟨((n &&& 31 : Nat) : Int), by rw [h31]; omega, ?_⟩
  rw [e, zI_nn (by omega : (0 : Int) ≤ 31)]
  show nI n &&& nI 31 = _
  rw [pz_and, zI_nat]
theorem lg_same (x : Int64) : lg_cmp x x = 0 := by simp [lg_cmp]
section LAWK
variable {so bm f1 f2 f3 f4 f5 f6 f7 tx : Int → Int} {P TH B ra su vw no dn ha K hm dy ac lk cl li da kp ln td : Int} {bhm bdy bac blk bcl bli bda bkp chm cdy cac clk ccl cli cda ckp : Int}
theorem img_71 (hb : relI f2 f6 f7 K 0 bhm bdy bac blk bcl bli bda bkp) (hc : relI f2 f6 f7 K 1 chm cdy cac clk ccl cli cda ckp) : ∀ i : Int, 0 ≤ i → i < 2 → f7 i = 0 ∨ f7 i = 1 := by
  intro i h1 h2
  rcases (show i = 0 ∨ i = 1 by omega) with rfl | rfl
  · exact hb.2.2.1
  · exact hc.2.2.1
theorem img_ki (hb : relI f2 f6 f7 K 0 bhm bdy bac blk bcl bli bda bkp) (hc : relI f2 f6 f7 K 1 chm cdy cac clk ccl cli cda ckp) : ∀ g : Int, 0 ≤ g → g ≤ 1 → f7 g ≠ 0 → 0 ≤ f6 (21 * (1 + g) + 0) ∧ f6 (21 * (1 + g) + 0) < pw9 (f2 0) := by
  intro g h1 h2 h3
  rcases (show g = 0 ∨ g = 1 by omega) with rfl | rfl
  · exact (img_e hb (by have := hb.2.2.1; omega)).2
  · exact (img_e hc (by have := hc.2.2.1; omega)).2
theorem an_keep {ua : (Int × Int × Int × Int × Int × Int × Int × Int) × (Int × Int × Int × Int × Int × Int × Int × Int)} {ub : (Int → Int) × (Int → Int)} (hA : relP so bm P TH B ra su vw no dn ha f2 f3 f5) (hB : moS f2 f6 K hm dy ac lk cl li da) (hK : K ≤ 900) (hb : relI f2 f6 f7 K 0 bhm bdy bac blk bcl bli bda bkp) (hc : relI f2 f6 f7 K 1 chm cdy cac clk ccl cli cda ckp) {g : Int}
    (ha : ua = (if 0 ≤ g ∧ g < 2 then (if g = 0 then ((hm, dy, ac, lk, cl, li, da, 1), (chm, cdy, cac, clk, ccl, cli, cda, ckp)) else ((bhm, bdy, bac, blk, bcl, bli, bda, bkp), (hm, dy, ac, lk, cl, li, da, 1))) else ((bhm, bdy, bac, blk, bcl, bli, bda, bkp), (chm, cdy, cac, clk, ccl, cli, cda, ckp))))
    (hu : ub = (if 0 ≤ g ∧ g ≤ 1 then (cpF 0 (21 * (1 + g)) 21 0 f6, zup f7 g 1) else (f6, f7))) :
    (if 0 ≤ g ∧ g < 2 then dy else -1) = (if 0 ≤ g ∧ g ≤ 1 then (if 0 ≤ g ∧ g ≤ 1 then (cpF 0 (21 * (1 + g)) 21 0 f6, zup f7 g 1) else (f6, f7)).1 1 else -1) ∧ moS f2 ub.1 K hm dy ac lk cl li da ∧
    relI f2 ub.1 ub.2 K 0 ua.1.1 ua.1.2.1 ua.1.2.2.1 ua.1.2.2.2.1 ua.1.2.2.2.2.1 ua.1.2.2.2.2.2.1 ua.1.2.2.2.2.2.2.1 ua.1.2.2.2.2.2.2.2 ∧ relI f2 ub.1 ub.2 K 1 ua.2.1 ua.2.2.1 ua.2.2.2.1 ua.2.2.2.2.1 ua.2.2.2.2.2.1 ua.2.2.2.2.2.2.1 ua.2.2.2.2.2.2.2.1 ua.2.2.2.2.2.2.2.2 := by
  by_cases e : 0 ≤ g ∧ g < 2
  · rw [if_pos e] at ha
    have e1 : 0 ≤ g ∧ g ≤ 1 := by omega
    rw [if_pos e1] at hu
    obtain ⟨k1, k2⟩ := keep_e hA hB hK e1 (f7 := f7)
    refine ⟨?_, ?_, ?_⟩
    · rw [if_pos e, if_pos e1, if_pos e1]
      exact k1.2.1.2.1
    · rw [hu]; exact k1
    · rcases (show g = 0 ∨ g = 1 by omega) with rfl | rfl
      · rw [if_pos rfl] at ha
        rw [ha, hu]
        exact ⟨k2, keep_o hc e1 (by omega) (by omega)⟩
      · rw [if_neg (by decide)] at ha
        rw [ha, hu]
        exact ⟨keep_o hb e1 (by omega) (by omega), k2⟩
  · rw [if_neg e] at ha
    rw [if_neg (by omega)] at hu
    refine ⟨by rw [if_neg e, if_neg (by omega)], ?_⟩
    rw [ha, hu]
    exact ⟨hB, hb, hc⟩
theorem an_back {ua : Int × Int × Int × Int × Int × Int × Int × Int} {ub : Int → Int} (hB : moS f2 f6 K hm dy ac lk cl li da) (hb : relI f2 f6 f7 K 0 bhm bdy bac blk bcl bli bda bkp) (hc : relI f2 f6 f7 K 1 chm cdy cac clk ccl cli cda ckp) {g : Int}
    (ha : ua = (if ¬ (0 ≤ g ∧ g < 2) then (hm, dy, ac, lk, cl, li, da, kp) else if g = 0 then (if bkp = 0 then (hm, dy, ac, lk, cl, li, da, kp) else (bhm, bdy, bac, blk, bcl, bli, bda, kp)) else (if ckp = 0 then (hm, dy, ac, lk, cl, li, da, kp) else (chm, cdy, cac, clk, ccl, cli, cda, kp))))
    (hu : ub = (if reM f7 g = 0 then cpF (21 * (1 + g)) 0 21 0 f6 else f6)) :
    (if ¬ (0 ≤ g ∧ g < 2) then -1 else if g = 0 then (if bkp = 0 then -2 else bdy) else (if ckp = 0 then -2 else cdy)) = (if reM f7 g = 0 then (if reM f7 g = 0 then cpF (21 * (1 + g)) 0 21 0 f6 else f6) 1 else reM f7 g) ∧ moS f2 ub K ua.1 ua.2.1 ua.2.2.1 ua.2.2.2.1 ua.2.2.2.2.1 ua.2.2.2.2.2.1 ua.2.2.2.2.2.2.1 ∧ (∀ x : Int, 21 ≤ x → ub x = f6 x) ∧ ua.2.2.2.2.2.2.2 = kp := by
  have hr : (0 ≤ g ∧ g < 2) → reM f7 g = if f7 g = 0 then -2 else 0 := fun e => by unfold reM; rw [if_neg (fun w => w (by omega))]
  by_cases e : 0 ≤ g ∧ g < 2
  · rw [if_neg (fun w => w e)] at ha
    rw [if_neg (show ¬ ¬ (0 ≤ g ∧ g < 2) from fun w => w e)]
    have hr := hr e
    rcases (show g = 0 ∨ g = 1 by omega) with rfl | rfl
    · rw [if_pos rfl] at ha
      rw [if_pos rfl]
      by_cases z : bkp = 0
      · rw [if_pos z] at ha
        rw [if_pos (by rw [← hb.2.1]; exact z)] at hr
        rw [if_pos z, hr, if_neg (by decide)]
        rw [hr, if_neg (by decide)] at hu
        rw [ha, hu]
        exact ⟨rfl, hB, fun _ _ => rfl, rfl⟩
      · rw [if_neg z] at ha
        rw [if_neg (by rw [← hb.2.1]; exact z)] at hr
        rw [if_neg z, hr, if_pos rfl, if_pos rfl]
        rw [hr, if_pos rfl] at hu
        obtain ⟨k1, k2, k3⟩ := back_e hb (by omega) (by have h1 := hb.2.1; have h2 := hb.2.2.1; omega)
        rw [ha, hu]
        exact ⟨k3.symm, k1, k2, rfl⟩
    · rw [if_neg (by decide)] at ha
      rw [if_neg (show ¬ (1 : Int) = 0 by decide)]
      by_cases z : ckp = 0
      · rw [if_pos z] at ha
        rw [if_pos (by rw [← hc.2.1]; exact z)] at hr
        rw [if_pos z, hr, if_neg (by decide)]
        rw [hr, if_neg (by decide)] at hu
        rw [ha, hu]
        exact ⟨rfl, hB, fun _ _ => rfl, rfl⟩
      · rw [if_neg z] at ha
        rw [if_neg (by rw [← hc.2.1]; exact z)] at hr
        rw [if_neg z, hr, if_pos rfl, if_pos rfl]
        rw [hr, if_pos rfl] at hu
        obtain ⟨k1, k2, k3⟩ := back_e hc (by omega) (by have h1 := hc.2.1; have h2 := hc.2.2.1; omega)
        rw [ha, hu]
        exact ⟨k3.symm, k1, k2, rfl⟩
  · have e2 : ¬ (0 ≤ g ∧ g ≤ 1) := by omega
    have hr2 : reM f7 g = -1 := by unfold reM; rw [if_pos e2]
    rw [if_pos e] at ha
    rw [if_pos e, hr2, if_neg (by decide)]
    rw [hr2, if_neg (by decide)] at hu
    rw [ha, hu]
    exact ⟨rfl, hB, fun _ _ => rfl, rfl⟩
end LAWK
