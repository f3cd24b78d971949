theorem inc_X2_actsToEmpty_2 : ∀ w ∈ wsX20, w ∈ wsX2_actsToEmpty := by decide +kernel
theorem inc_X2_fewestNights_0 : ∀ w ∈ wsX00, w ∈ wsX2_fewestNights := by decide +kernel
theorem inc_X2_fewestNights_1 : ∀ w ∈ wsX10, w ∈ wsX2_fewestNights := by decide +kernel
theorem inc_X2_fewestNights_2 : ∀ w ∈ wsX20, w ∈ wsX2_fewestNights := by decide +kernel
theorem inc_X2_firstAct_1 : ∀ w ∈ wsX10, w ∈ wsX2_firstAct := by decide +kernel
theorem inc_X2_keepDry_2 : ∀ w ∈ wsX20, w ∈ wsX2_keepDry := by decide +kernel
theorem hd_X1_fitsLetter : yX1_fitsLetter.cls ≠ "java/lang/invoke/MethodHandle" ∧ yX1_fitsLetter.cls ≠ "java/lang/invoke/VarHandle" ∧ (parseMethodDescriptor yX1_fitsLetter.desc).map (fun d => d.parameters.length) = some 2 := by decide +kernel
theorem hd_X1_worthOf : yX1_worthOf.cls ≠ "java/lang/invoke/MethodHandle" ∧ yX1_worthOf.cls ≠ "java/lang/invoke/VarHandle" ∧ (parseMethodDescriptor yX1_worthOf.desc).map (fun d => d.parameters.length) = some 1 := by decide +kernel
theorem hd_X2_keepDry : yX2_keepDry.cls ≠ "java/lang/invoke/MethodHandle" ∧ yX2_keepDry.cls ≠ "java/lang/invoke/VarHandle" ∧ (parseMethodDescriptor yX2_keepDry.desc).map (fun d => d.parameters.length) = some 1 := by decide +kernel
theorem hd_X2_spreadFrom : yX2_spreadFrom.cls ≠ "java/lang/invoke/MethodHandle" ∧ yX2_spreadFrom.cls ≠ "java/lang/invoke/VarHandle" ∧ (parseMethodDescriptor yX2_spreadFrom.desc).map (fun d => d.parameters.length) = some 2 := by decide +kernel
theorem hd_X2_survey : yX2_survey.cls ≠ "java/lang/invoke/MethodHandle" ∧ yX2_survey.cls ≠ "java/lang/invoke/VarHandle" ∧ (parseMethodDescriptor yX2_survey.desc).map (fun d => d.parameters.length) = some 1 := by decide +kernel
set_option maxHeartbeats 4000000 in
set_option maxRecDepth 100000 in
theorem c_X2_fewestActs (l : Launch) (D : va_G) (cB cI cZ cM : ClassId) (Hp : Heap) (ga : Nat) (la : Nat) (fa : Nat) (ua : Nat) (lw : Int → Int) (d : Int → Int) (F : Int → Int) (m : Int) (sv : Int) (pa : Nat) (sa : Nat) (ba : Nat) (so : Int → Int) (bm : Int → Int) (P : Int) (TH : Int) (B : Int) (ra : Int) (su : Int) (vw : Int) (no : Int) (dn : Int) (ha : Int) (h : Int) (to : Int) (hP4 : 0 ≤ P ∧ P ≤ 4) (hso : ∀ i : Int, 0 ≤ i → i < 4 → 0 ≤ so i ∧ so i ≤ 3) (hB2 : 0 ≤ B ∧ B ≤ 2) (hbm : ∀ i : Int, 0 ≤ i → i < 2 → 0 ≤ bm i ∧ bm i < 256) (hdn : 0 ≤ dn ∧ dn ≤ 4) (hsv : (sv = 0 ∨ sv = 1) ∧ (sv = 1 → lwOK lw so bm P B dn)) (hh : 0 ≤ h ∧ h < 6561) (hto0 : -2147483648 ≤ to ∧ to < 2147483648) : cWi l yX2_fewestActs wsX2_fewestActs (rmW 5 0 0 115) D (TYS cB cI cZ cM) [.ref ga, .ref pa, .int (zI h), .int (zI to)] [(ga, .inr (2, [.ref la, .ref fa, .ref ua, .int (zI m), .int (zI sv)])), (la, .inl (cB, 6561, .inl (zia lw))), (fa, .inl (cI, 6561, .inl (zia d))), (ua, .inl (cI, 3394, .inl (zia F))), (pa, .inr (1, [.ref sa, .int (zI P), .int (zI TH), .ref ba, .int (zI B), .int (zI ra), .int (zI su), .int (zI vw), .int (zI no), .int (zI dn), .int (zI ha)])), (sa, .inl (cI, 4, .inl (zia so))), (ba, .inl (cI, 2, .inl (zia bm)))] Hp (fun (r : Int32) (u : BQ) => r = zI (ftA (sprA (lwS so bm P B dn) P (zup F 0 h) 1 6561).2.2 to) ∧ (True)) (fun (u : BQ) => [(ga, .inr (2, [.ref la, .ref fa, .ref ua, .int (zI u.2.1), .int (zI 1)])), (la, .inl (cB, 6561, .inl (zia (lwS so bm P B dn)))), (fa, .inl (cI, 6561, .inl (zia u.2.2))), (ua, .inl (cI, 3394, .inl (zia u.1))), (pa, .inr (1, [.ref sa, .int (zI P), .int (zI TH), .ref ba, .int (zI B), .int (zI ra), .int (zI su), .int (zI vw), .int (zI no), .int (zI dn), .int (zI ha)])), (sa, .inl (cI, 4, .inl (zia so))), (ba, .inl (cI, 2, .inl (zia bm)))]) 0 0 := by
  refine wr_starti (by decide) rfl (Nat.le_of_ble_eq_true rfl) ?_
  intro pg ev sx mm args below meth cd ls A M hP hD hS hA hK hl
  obtain ⟨hx, hb, hr, hml, hown, hts, hlk, hN0⟩ := id M
  have hl : lv_has ls 4 [(0, .ref ga), (1, .ref pa), (2, .int (zI h)), (3, .int (zI to))] := hl
  refine W.widen (k := 0) (n := 0) (Nat.zero_le _) (Nat.zero_le _) ?_
  refine lv_aload_n hx hb dX2_fewestActs_0 rfl (lv_at hl 0 rfl) ?_
  refine lv_aload_n hx hb dX2_fewestActs_1 rfl (lv_at hl 1 rfl) ?_
  refine wc_Vv (As := [.ref pa]) (rest := []) (wr := []) (ws' := (fun _u : Unit => [(ga, .inr (2, [.ref la, .ref fa, .ref ua, .int (zI m), .int (zI 1)])), (la, .inl (cB, 6561, .inl (zia (lwS so bm P B dn)))), (fa, .inl (cI, 6561, .inl (zia d))), (ua, .inl (cI, 3394, .inl (zia F))), (pa, .inr (1, [.ref sa, .int (zI P), .int (zI TH), .ref ba, .int (zI B), .int (zI ra), .int (zI su), .int (zI vw), .int (zI no), .int (zI dn), .int (zI ha)])), (sa, .inl (cI, 4, .inl (zia so))), (ba, .inl (cI, 2, .inl (zia bm)))])) M (c_X2_survey l D cB cI cZ cM _ ga la fa ua lw d F m sv pa sa ba so bm P TH B ra su vw no dn ha (by first | assumption | omega) (by first | assumption | omega) (by first | assumption | omega) (by first | assumption | omega) (by first | assumption | omega) (by first | assumption | omega)) gX2_fewestActs_X2_survey rfl ⟨rfl, hd_X2_survey⟩ ⟨Nat.le_of_ble_eq_true rfl, Nat.le_of_ble_eq_true rfl⟩ hK hP hD hS hA [0, 1, 2, 3, 4, 5, 6] [] [0, 1, 2, 3, 4, 5, 6] rfl rfl (by decide) (by decide) (by decide) (fun _ => rfl) 0 2 rfl rfl rfl hl.1 rfl rfl (Nat.le_of_ble_eq_true rfl) dX2_fewestActs_2 ⟨Nat.le_of_ble_eq_true rfl, Nat.le_of_ble_eq_true rfl⟩ (by decide) (fun _u H locs h_2 hP hD hS => ?_)
  have hlw := lwS_rng so bm P B dn
  refine lv_aload_n hx hb dX2_fewestActs_5 rfl (lv_at hl 0 rfl) ?_
  refine lv_aload_n hx hb dX2_fewestActs_6 rfl (lv_at hl 1 rfl) ?_
  refine lv_iload_n hx hb dX2_fewestActs_7 rfl (lv_at hl 2 rfl) ?_
  refine wc_Vv (As := [.ref pa, .int (zI h)]) (rest := []) (wr := []) (ws' := (fun u_8 : BQ => [(ga, .inr (2, [.ref la, .ref fa, .ref ua, .int (zI u_8.2.1), .int (zI 1)])), (la, .inl (cB, 6561, .inl (zia (lwS so bm P B dn)))), (fa, .inl (cI, 6561, .inl (zia u_8.2.2))), (ua, .inl (cI, 3394, .inl (zia u_8.1))), (pa, .inr (1, [.ref sa, .int (zI P), .int (zI TH), .ref ba, .int (zI B), .int (zI ra), .int (zI su), .int (zI vw), .int (zI no), .int (zI dn), .int (zI ha)])), (sa, .inl (cI, 4, .inl (zia so))), (ba, .inl (cI, 2, .inl (zia bm)))])) M (c_X2_spreadFrom l D cB cI cZ cM _ ga la fa ua (lwS so bm P B dn) d F m 1 pa sa ba so bm P TH B ra su vw no dn ha h (by first | assumption | omega) (by first | assumption | omega) (by first | assumption | omega)) gX2_fewestActs_X2_spreadFrom rfl ⟨rfl, hd_X2_spreadFrom⟩ ⟨Nat.le_of_ble_eq_true rfl, Nat.le_of_ble_eq_true rfl⟩ hK hP hD hS hA [0, 1, 2, 3, 4, 5, 6] [] [0, 1, 2, 3, 4, 5, 6] rfl rfl (by decide) (by decide) (by decide) (fun _ => rfl) 0 2 rfl rfl rfl hl.1 rfl rfl (Nat.le_of_ble_eq_true rfl) dX2_fewestActs_8 ⟨Nat.le_of_ble_eq_true rfl, Nat.le_of_ble_eq_true rfl⟩ (by decide) (fun u_8 H locs h_8 hP hD hS => ?_)
  refine lv_aload_n hx hb dX2_fewestActs_11 rfl (lv_at hl 0 rfl) ?_
  refine lv_iload_n hx hb dX2_fewestActs_12 rfl (lv_at hl 3 rfl) ?_
  refine pc_V (As := [.int (zI to)]) (rest := []) M (c_X2_farTo l D cB cI cZ cM _ ga la fa ua (lwS so bm P B dn) u_8.2.2 u_8.1 u_8.2.1 1 to (by first | assumption | omega)) gX2_fewestActs_X2_farTo rfl ⟨rfl, hd_X2_farTo⟩ ⟨Nat.le_of_ble_eq_true rfl, Nat.le_of_ble_eq_true rfl⟩ hK hP [0, 1, 2, 3] rfl 0 2 rfl rfl rfl hl.1 rfl rfl (Nat.le_of_ble_eq_true rfl) dX2_fewestActs_13 ⟨Nat.le_of_ble_eq_true rfl, Nat.le_of_ble_eq_true rfl⟩ (fun r_13 h_13 => ?_)
  subst h_13
  exact wr_reti M dX2_fewestActs_16 (u := u_8) ⟨(congrArg zI (by rw [h_8])), (by trivial)⟩ hP hD hS
set_option maxHeartbeats 4000000 in
set_option maxRecDepth 100000 in
theorem lp_X2_firstAct_97 (l : Launch) (D : va_G) (cB cI cZ cM : ClassId) (ga : Nat) (la : Nat) (fa : Nat) (ua : Nat) (lw : Int → Int) (d : Int → Int) (F : Int → Int) (m : Int) (sv : Int) (pa : Nat) (sa : Nat) (ba : Nat) (so : Int → Int) (bm : Int → Int) (P : Int) (TH : Int) (B : Int) (ra : Int) (su : Int) (vw : Int) (no : Int) (dn : Int) (ha : Int) (h : Int) (to : Int) (hP4 : 0 ≤ P ∧ P ≤ 4) (hso : ∀ i : Int, 0 ≤ i → i < 4 → 0 ≤ so i ∧ so i ≤ 3) (hB2 : 0 ≤ B ∧ B ≤ 2) (hbm : ∀ i : Int, 0 ≤ i → i < 2 → 0 ≤ bm i ∧ bm i < 256) (hdn : 0 ≤ dn ∧ dn ≤ 4) (hsv : (sv = 0 ∨ sv = 1) ∧ (sv = 1 → lwOK lw so bm P B dn)) (hh : 0 ≤ h ∧ h < 6561) (hto0 : -2147483648 ≤ to ∧ to < 2147483648) {pg : Program} {ev : Env} {sx : State} {mm : MethodId} {args : Array Value} {below : List Frame} {meth : Method} {cd : Code} (M : MX pg sx mm args meth cd cX2_firstAct 12 (some .int) RX2 wsX2_firstAct) (hK : va_K D vwCl (TYS cB cI cZ cM) sx) {A : Nat → Prop} (hA : ∀ q : Nat, sx.heap.size ≤ q → A q) : ∀ (N : Nat) (j : Nat) (k : Int) (p : Int) (s : Int × Int) (S : BQ) (n1 : Nat) (le : Int) (be : Int) (en : Int), (j < N) → (0 ≤ k ∧ k + j = en + 1) → (en ≤ 8) → (0 ≤ p ∧ p + (n1 + 1 : Nat) = P) → (∀ h : Int, 0 ≤ h → h < 6561 → -9 ≤ S.2.2 h ∧ S.2.2 h ≤ 3394) → ((-9 ≤ s.1 ∧ s.1 ≤ 6561) ∧ (-9 ≤ s.2 ∧ s.2 ≤ 100)) → ((outF S.2.2 h n1 (p + 1) (inF S.2.2 h p j k s)).2 = fsA (lwS so bm P B dn) P F h to) → (k_39 : ∀ (n0 : Nat) (p : Int) (s : Int × Int) (S : BQ), (n0 = n1) → (0 ≤ p ∧ p + n0 = P) → (∀ h : Int, 0 ≤ h → h < 6561 → -9 ≤ S.2.2 h ∧ S.2.2 h ≤ 3394) → ((-9 ≤ s.1 ∧ s.1 ≤ 6561) ∧ (-9 ≤ s.2 ∧ s.2 ≤ 100)) → ((outF S.2.2 h n0 p s).2 = fsA (lwS so bm P B dn) P F h to) → ∀ (H : Heap) (locs : List Loc), va_P D vwCl [(ga, .inr (2, [.ref la, .ref fa, .ref ua, .int (zI S.2.1), .int (zI 1)])), (la, .inl (cB, 6561, .inl (zia (lwS so bm P B dn)))), (fa, .inl (cI, 6561, .inl (zia S.2.2))), (ua, .inl (cI, 3394, .inl (zia S.1))), (pa, .inr (1, [.ref sa, .int (zI P), .int (zI TH), .ref ba, .int (zI B), .int (zI ra), .int (zI su), .int (zI vw), .int (zI no), .int (zI dn), .int (zI ha)])), (sa, .inl (cI, 4, .inl (zia so))), (ba, .inl (cI, 2, .inl (zia bm)))] H → va_D A [(ga, .inr (2, [.ref la, .ref fa, .ref ua, .int (zI S.2.1), .int (zI 1)])), (la, .inl (cB, 6561, .inl (zia (lwS so bm P B dn)))), (fa, .inl (cI, 6561, .inl (zia S.2.2))), (ua, .inl (cI, 3394, .inl (zia S.1))), (pa, .inr (1, [.ref sa, .int (zI P), .int (zI TH), .ref ba, .int (zI B), .int (zI ra), .int (zI su), .int (zI vw), .int (zI no), .int (zI dn), .int (zI ha)])), (sa, .inl (cI, 4, .inl (zia so))), (ba, .inl (cI, 2, .inl (zia bm)))] → va_S A sx.heap H locs → ∀ ls : Array Slot, lv_has ls 12 [(0, .ref ga), (1, .ref pa), (2, .int (zI h)), (3, .int (zI to)), (4, .int (zI s.1)), (5, .int (zI s.2)), (6, .int (zI p))] → W pg l ev (rmW 5 0 0 115) sx mm args below meth cd H locs 0 0 (QWi below args sx A D (fun (r : Int32) (u : BQ) => r = zI (fsA (lwS so bm P B dn) P F h to) ∧ (True)) (fun (u : BQ) => [(ga, .inr (2, [.ref la, .ref fa, .ref ua, .int (zI u.2.1), .int (zI 1)])), (la, .inl (cB, 6561, .inl (zia (lwS so bm P B dn)))), (fa, .inl (cI, 6561, .inl (zia u.2.2))), (ua, .inl (cI, 3394, .inl (zia u.1))), (pa, .inr (1, [.ref sa, .int (zI P), .int (zI TH), .ref ba, .int (zI B), .int (zI ra), .int (zI su), .int (zI vw), .int (zI no), .int (zI dn), .int (zI ha)])), (sa, .inl (cI, 4, .inl (zia so))), (ba, .inl (cI, 2, .inl (zia bm)))]) 0 0) (F0 mm 39 ls [])) → ∀ (H : Heap) (locs : List Loc), va_P D vwCl [(ga, .inr (2, [.ref la, .ref fa, .ref ua, .int (zI S.2.1), .int (zI 1)])), (la, .inl (cB, 6561, .inl (zia (lwS so bm P B dn)))), (fa, .inl (cI, 6561, .inl (zia S.2.2))), (ua, .inl (cI, 3394, .inl (zia S.1))), (pa, .inr (1, [.ref sa, .int (zI P), .int (zI TH), .ref ba, .int (zI B), .int (zI ra), .int (zI su), .int (zI vw), .int (zI no), .int (zI dn), .int (zI ha)])), (sa, .inl (cI, 4, .inl (zia so))), (ba, .inl (cI, 2, .inl (zia bm)))] H → va_D A [(ga, .inr (2, [.ref la, .ref fa, .ref ua, .int (zI S.2.1), .int (zI 1)])), (la, .inl (cB, 6561, .inl (zia (lwS so bm P B dn)))), (fa, .inl (cI, 6561, .inl (zia S.2.2))), (ua, .inl (cI, 3394, .inl (zia S.1))), (pa, .inr (1, [.ref sa, .int (zI P), .int (zI TH), .ref ba, .int (zI B), .int (zI ra), .int (zI su), .int (zI vw), .int (zI no), .int (zI dn), .int (zI ha)])), (sa, .inl (cI, 4, .inl (zia so))), (ba, .inl (cI, 2, .inl (zia bm)))] → va_S A sx.heap H locs → ∀ ls : Array Slot, lv_has ls 12 [(0, .ref ga), (1, .ref pa), (2, .int (zI h)), (3, .int (zI to)), (4, .int (zI s.1)), (5, .int (zI s.2)), (6, .int (zI p)), (7, .int (zI le)), (8, .int (zI be)), (9, .int (zI en)), (10, .int (zI k))] → W pg l ev (rmW 5 0 0 115) sx mm args below meth cd H locs 0 0 (QWi below args sx A D (fun (r : Int32) (u : BQ) => r = zI (fsA (lwS so bm P B dn) P F h to) ∧ (True)) (fun (u : BQ) => [(ga, .inr (2, [.ref la, .ref fa, .ref ua, .int (zI u.2.1), .int (zI 1)])), (la, .inl (cB, 6561, .inl (zia (lwS so bm P B dn)))), (fa, .inl (cI, 6561, .inl (zia u.2.2))), (ua, .inl (cI, 3394, .inl (zia u.1))), (pa, .inr (1, [.ref sa, .int (zI P), .int (zI TH), .ref ba, .int (zI B), .int (zI ra), .int (zI su), .int (zI vw), .int (zI no), .int (zI dn), .int (zI ha)])), (sa, .inl (cI, 4, .inl (zia so))), (ba, .inl (cI, 2, .inl (zia bm)))]) 0 0) (F0 mm 97 ls []) := by
  intro N
  induction N with
  | zero => intro j k p s S n1 le be en hN; exact absurd hN (Nat.not_lt_zero _)
  | succ N ih =>
    intro j k p s S n1 le be en hN hk hen hp hdb hsr hv k_39 H locs hP hD hS ls hl
    obtain ⟨hx, hb, hr, hml, hown, hts, hlk, hN0⟩ := id M
    refine lv_iload hx hb dX2_firstAct_97 (lv_at hl 10 rfl) ?_
    refine lv_iload hx hb dX2_firstAct_99 (lv_at hl 9 rfl) ?_
    refine z_icmp_gt (tgt := 152) hx hb dX2_firstAct_101 (by decide) (by omega) (fun c_101 => ?_) (fun c_101 => ?_)
    · skip
      obtain rfl : j = 0 := by omega
      refine z_iinc (a := p) (k := 6) (lv' := [(6, .int (zI (p + 1))), (0, .ref ga), (1, .ref pa), (2, .int (zI h)), (3, .int (zI to)), (4, .int (zI s.1)), (5, .int (zI s.2)), (7, .int (zI le)), (8, .int (zI be)), (9, .int (zI en)), (10, .int (zI k))]) hx hb dX2_firstAct_152 hl rfl (by decide) rfl (fun ls hl => ?_)
      refine lv_goto (tgt := 39) hx hb dX2_firstAct_155 (by decide) ?_
      exact k_39 n1 (p + 1) s S rfl (by omega) (by assumption) (by omega) (by rw [← hv]; rfl) _ _ hP hD hS _ (lv_sub hl [1, 2, 3, 4, 5, 6, 0] rfl)
    obtain ⟨j, rfl⟩ : ∃ x : Nat, j = x + 1 := ⟨j - 1, by omega⟩
    refine lv_aload_n hx hb dX2_firstAct_104 rfl (lv_at hl 0 rfl) ?_
    refine lv_iload_n hx hb dX2_firstAct_105 rfl (lv_at hl 2 rfl) ?_
    refine lv_iload hx hb dX2_firstAct_106 (lv_at hl 6 rfl) ?_
    refine lv_iload hx hb dX2_firstAct_108 (lv_at hl 10 rfl) ?_
    have hmv := mv_rng (p := p) (k := k) hh (by omega)
    refine pc_SN (As := [.int (zI h), .int (zI p), .int (zI k)]) (rest := [.ref ga]) M (c_X4_moved l D cB cI cZ cM _ h p k (by first | assumption | omega) (by first | assumption | omega)) gX2_firstAct_X4_moved_n57 rfl (NW.at hN0 63 rfl) (by decide +kernel) (by decide +kernel) hd_X4_moved ⟨Nat.le_of_ble_eq_true rfl, Nat.le_of_ble_eq_true rfl⟩ hK hP [] rfl hl.1 rfl rfl (Nat.le_of_ble_eq_true rfl) dX2_firstAct_110 ⟨Nat.le_of_ble_eq_true rfl, Nat.le_of_ble_eq_true rfl⟩ (fun r_110 h_110 => ?_)
    subst h_110
    refine pc_V (As := [.int (zI (mv h p k))]) (rest := []) M (c_X2_farTo l D cB cI cZ cM _ ga la fa ua (lwS so bm P B dn) S.2.2 S.1 S.2.1 1 (mv h p k) (by first | assumption | omega)) gX2_firstAct_X2_farTo rfl ⟨rfl, hd_X2_farTo⟩ ⟨Nat.le_of_ble_eq_true rfl, Nat.le_of_ble_eq_true rfl⟩ hK hP [0, 1, 2, 3] rfl 0 2 rfl rfl rfl hl.1 rfl rfl (Nat.le_of_ble_eq_true rfl) dX2_firstAct_113 ⟨Nat.le_of_ble_eq_true rfl, Nat.le_of_ble_eq_true rfl⟩ (fun r_113 h_113 => ?_)
    subst h_113
    refine lv_istore (lv' := [(11, .int (zI (ftA S.2.2 (mv h p k)))), (0, .ref ga), (1, .ref pa), (2, .int (zI h)), (3, .int (zI to)), (4, .int (zI s.1)), (5, .int (zI s.2)), (6, .int (zI p)), (7, .int (zI le)), (8, .int (zI be)), (9, .int (zI en)), (10, .int (zI k))]) hx hb dX2_firstAct_116 hl (by decide) rfl (fun ls hl => ?_)
    have hfr := ftA_rng hdb (mv h p k)
    refine lv_iload hx hb dX2_firstAct_118 (lv_at hl 0 rfl) ?_
    refine lv_bipush (v := zI (-9)) hx hb dX2_firstAct_120 (by decide) ?_
    refine z_icmp_eq (tgt := 146) hx hb dX2_firstAct_122 (by decide) (by omega) (fun c_122 => ?_) (fun c_122 => ?_)
    · skip
      refine z_iinc (a := k) (k := 11) (lv' := [(10, .int (zI (k + 1))), (11, .int (zI (ftA S.2.2 (mv h p k)))), (0, .ref ga), (1, .ref pa), (2, .int (zI h)), (3, .int (zI to)), (4, .int (zI s.1)), (5, .int (zI s.2)), (6, .int (zI p)), (7, .int (zI le)), (8, .int (zI be)), (9, .int (zI en))]) hx hb dX2_firstAct_146 hl rfl (by decide) rfl (fun ls hl => ?_)
      refine lv_goto (tgt := 97) hx hb dX2_firstAct_149 (by decide) ?_
      exact ih j (k + 1) p s S n1 le be en (by omega) (by omega) (by omega) (by omega) (by assumption) (by assumption) (by rw [← hv, inF, if_neg (fun q => q.1 c_122)]) k_39 _ _ hP hD hS _ (lv_sub hl [2, 3, 4, 5, 6, 7, 8, 9, 10, 11, 0] rfl)
    refine lv_iload hx hb dX2_firstAct_125 (lv_at hl 0 rfl) ?_
    refine lv_iload hx hb dX2_firstAct_127 (lv_at hl 5 rfl) ?_
    refine z_icmp_ge (tgt := 146) hx hb dX2_firstAct_129 (by decide) (by omega) (fun c_129 => ?_) (fun c_129 => ?_)
    · skip
      refine z_iinc (a := k) (k := 11) (lv' := [(10, .int (zI (k + 1))), (11, .int (zI (ftA S.2.2 (mv h p k)))), (0, .ref ga), (1, .ref pa), (2, .int (zI h)), (3, .int (zI to)), (4, .int (zI s.1)), (5, .int (zI s.2)), (6, .int (zI p)), (7, .int (zI le)), (8, .int (zI be)), (9, .int (zI en))]) hx hb dX2_firstAct_146 hl rfl (by decide) rfl (fun ls hl => ?_)
      refine lv_goto (tgt := 97) hx hb dX2_firstAct_149 (by decide) ?_
      exact ih j (k + 1) p s S n1 le be en (by omega) (by omega) (by omega) (by omega) (by assumption) (by assumption) (by rw [← hv, inF, if_neg (fun q => by have := q.2; omega)]) k_39 _ _ hP hD hS _ (lv_sub hl [2, 3, 4, 5, 6, 7, 8, 9, 10, 11, 0] rfl)
    refine lv_iload hx hb dX2_firstAct_132 (lv_at hl 0 rfl) ?_
    refine lv_istore (lv' := [(4, .int (zI (ftA S.2.2 (mv h p k)))), (11, .int (zI (ftA S.2.2 (mv h p k)))), (0, .ref ga), (1, .ref pa), (2, .int (zI h)), (3, .int (zI to)), (5, .int (zI s.2)), (6, .int (zI p)), (7, .int (zI le)), (8, .int (zI be)), (9, .int (zI en)), (10, .int (zI k))]) hx hb dX2_firstAct_134 hl (by decide) rfl (fun ls hl => ?_)
    refine lv_bipush (v := zI 10) hx hb dX2_firstAct_136 (by decide) ?_
    refine lv_iload hx hb dX2_firstAct_138 (lv_at hl 7 rfl) ?_
    refine z_imul hx hb dX2_firstAct_140 ?_
    refine lv_iload hx hb dX2_firstAct_141 (lv_at hl 11 rfl) ?_
    refine z_iadd hx hb dX2_firstAct_143 ?_
    refine lv_istore (lv' := [(5, .int (zI ((10 * p) + k))), (4, .int (zI (ftA S.2.2 (mv h p k)))), (11, .int (zI (ftA S.2.2 (mv h p k)))), (0, .ref ga), (1, .ref pa), (2, .int (zI h)), (3, .int (zI to)), (6, .int (zI p)), (7, .int (zI le)), (8, .int (zI be)), (9, .int (zI en)), (10, .int (zI k))]) hx hb dX2_firstAct_144 hl (by decide) rfl (fun ls hl => ?_)
    refine z_iinc (a := k) (k := 11) (lv' := [(10, .int (zI (k + 1))), (5, .int (zI ((10 * p) + k))), (4, .int (zI (ftA S.2.2 (mv h p k)))), (11, .int (zI (ftA S.2.2 (mv h p k)))), (0, .ref ga), (1, .ref pa), (2, .int (zI h)), (3, .int (zI to)), (6, .int (zI p)), (7, .int (zI le)), (8, .int (zI be)), (9, .int (zI en))]) hx hb dX2_firstAct_146 hl rfl (by decide) rfl (fun ls hl => ?_)
    refine lv_goto (tgt := 97) hx hb dX2_firstAct_149 (by decide) ?_
    exact ih j (k + 1) p (ftA S.2.2 (mv h p k), 10 * p + k) S n1 le be en (by omega) (by omega) (by omega) (by omega) (by assumption) (by dsimp only; omega) (by rw [← hv, inF, if_pos ⟨c_122, c_129⟩]) k_39 _ _ hP hD hS _ (lv_sub hl [4, 5, 6, 7, 2, 1, 8, 9, 10, 11, 0] rfl)
set_option maxHeartbeats 4000000 in
set_option maxRecDepth 100000 in
theorem lp_X2_firstAct_39 (l : Launch) (D : va_G) (cB cI cZ cM : ClassId) (ga : Nat) (la : Nat) (fa : Nat) (ua : Nat) (lw : Int → Int) (d : Int → Int) (F : Int → Int) (m : Int) (sv : Int) (pa : Nat) (sa : Nat) (ba : Nat) (so : Int → Int) (bm : Int → Int) (P : Int) (TH : Int) (B : Int) (ra : Int) (su : Int) (vw : Int) (no : Int) (dn : Int) (ha : Int) (h : Int) (to : Int) (hP4 : 0 ≤ P ∧ P ≤ 4) (hso : ∀ i : Int, 0 ≤ i → i < 4 → 0 ≤ so i ∧ so i ≤ 3) (hB2 : 0 ≤ B ∧ B ≤ 2) (hbm : ∀ i : Int, 0 ≤ i → i < 2 → 0 ≤ bm i ∧ bm i < 256) (hdn : 0 ≤ dn ∧ dn ≤ 4) (hsv : (sv = 0 ∨ sv = 1) ∧ (sv = 1 → lwOK lw so bm P B dn)) (hh : 0 ≤ h ∧ h < 6561) (hto0 : -2147483648 ≤ to ∧ to < 2147483648) {pg : Program} {ev : Env} {sx : State} {mm : MethodId} {args : Array Value} {below : List Frame} {meth : Method} {cd : Code} (M : MX pg sx mm args meth cd cX2_firstAct 12 (some .int) RX2 wsX2_firstAct) (hK : va_K D vwCl (TYS cB cI cZ cM) sx) {A : Nat → Prop} (hA : ∀ q : Nat, sx.heap.size ≤ q → A q) : ∀ (N : Nat) (n0 : Nat) (p : Int) (s : Int × Int) (S : BQ), (n0 < N) → (0 ≤ p ∧ p + n0 = P) → (∀ h : Int, 0 ≤ h → h < 6561 → -9 ≤ S.2.2 h ∧ S.2.2 h ≤ 3394) → ((-9 ≤ s.1 ∧ s.1 ≤ 6561) ∧ (-9 ≤ s.2 ∧ s.2 ≤ 100)) → ((outF S.2.2 h n0 p s).2 = fsA (lwS so bm P B dn) P F h to) → ∀ (H : Heap) (locs : List Loc), va_P D vwCl [(ga, .inr (2, [.ref la, .ref fa, .ref ua, .int (zI S.2.1), .int (zI 1)])), (la, .inl (cB, 6561, .inl (zia (lwS so bm P B dn)))), (fa, .inl (cI, 6561, .inl (zia S.2.2))), (ua, .inl (cI, 3394, .inl (zia S.1))), (pa, .inr (1, [.ref sa, .int (zI P), .int (zI TH), .ref ba, .int (zI B), .int (zI ra), .int (zI su), .int (zI vw), .int (zI no), .int (zI dn), .int (zI ha)])), (sa, .inl (cI, 4, .inl (zia so))), (ba, .inl (cI, 2, .inl (zia bm)))] H → va_D A [(ga, .inr (2, [.ref la, .ref fa, .ref ua, .int (zI S.2.1), .int (zI 1)])), (la, .inl (cB, 6561, .inl (zia (lwS so bm P B dn)))), (fa, .inl (cI, 6561, .inl (zia S.2.2))), (ua, .inl (cI, 3394, .inl (zia S.1))), (pa, .inr (1, [.ref sa, .int (zI P), .int (zI TH), .ref ba, .int (zI B), .int (zI ra), .int (zI su), .int (zI vw), .int (zI no), .int (zI dn), .int (zI ha)])), (sa, .inl (cI, 4, .inl (zia so))), (ba, .inl (cI, 2, .inl (zia bm)))] → va_S A sx.heap H locs → ∀ ls : Array Slot, lv_has ls 12 [(0, .ref ga), (1, .ref pa), (2, .int (zI h)), (3, .int (zI to)), (4, .int (zI s.1)), (5, .int (zI s.2)), (6, .int (zI p))] → W pg l ev (rmW 5 0 0 115) sx mm args below meth cd H locs 0 0 (QWi below args sx A D (fun (r : Int32) (u : BQ) => r = zI (fsA (lwS so bm P B dn) P F h to) ∧ (True)) (fun (u : BQ) => [(ga, .inr (2, [.ref la, .ref fa, .ref ua, .int (zI u.2.1), .int (zI 1)])), (la, .inl (cB, 6561, .inl (zia (lwS so bm P B dn)))), (fa, .inl (cI, 6561, .inl (zia u.2.2))), (ua, .inl (cI, 3394, .inl (zia u.1))), (pa, .inr (1, [.ref sa, .int (zI P), .int (zI TH), .ref ba, .int (zI B), .int (zI ra), .int (zI su), .int (zI vw), .int (zI no), .int (zI dn), .int (zI ha)])), (sa, .inl (cI, 4, .inl (zia so))), (ba, .inl (cI, 2, .inl (zia bm)))]) 0 0) (F0 mm 39 ls []) := by
  intro N
  induction N with
  | zero => intro n0 p s S hN; exact absurd hN (Nat.not_lt_zero _)
  | succ N ih =>
    intro n0 p s S hN hp hdb hsr hv H locs hP hD hS ls hl
    obtain ⟨hx, hb, hr, hml, hown, hts, hlk, hN0⟩ := id M
    refine lv_iload hx hb dX2_firstAct_39 (lv_at hl 6 rfl) ?_
    refine lv_aload_n hx hb dX2_firstAct_41 rfl (lv_at hl 1 rfl) ?_
    refine va_getN (D := D) (ci := 1) (C := RX1) (T := TX1) (N := 11) hx hb hts inc_X2_firstAct_1 hown hK hP 4 rfl rfl 1 (by decide) ((NW.at hN0 15 rfl).use rfl) (fun _ h9 => h9) rfl dX2_firstAct_42 ?_
    refine z_icmp_ge (tgt := 158) hx hb dX2_firstAct_45 (by decide) (by omega) (fun c_45 => ?_) (fun c_45 => ?_)
    · skip
      refine lv_iload hx hb dX2_firstAct_158 (lv_at hl 5 rfl) ?_
      obtain rfl : n0 = 0 := by omega
      exact wr_reti M dX2_firstAct_160 (u := S) ⟨(congrArg zI (by rw [← hv]; rfl)), (by trivial)⟩ hP hD hS
    obtain ⟨n1, rfl⟩ : ∃ x : Nat, n0 = x + 1 := ⟨n0 - 1, by omega⟩
    refine lv_iload_n hx hb dX2_firstAct_48 rfl (lv_at hl 2 rfl) ?_
    refine lv_iload hx hb dX2_firstAct_49 (lv_at hl 6 rfl) ?_
    have hpl := pl_rng h p
    refine pc_SN (As := [.int (zI h), .int (zI p)]) (rest := []) M (c_X4_placeIn l D cB cI cZ cM _ h p (by first | assumption | omega) (by first | assumption | omega)) gX2_firstAct_X4_placeIn_n53 rfl (NW.at hN0 62 rfl) (by decide +kernel) (by decide +kernel) hd_X4_placeIn ⟨Nat.le_of_ble_eq_true rfl, Nat.le_of_ble_eq_true rfl⟩ hK hP [] rfl hl.1 rfl rfl (Nat.le_of_ble_eq_true rfl) dX2_firstAct_51 ⟨Nat.le_of_ble_eq_true rfl, Nat.le_of_ble_eq_true rfl⟩ (fun r_51 h_51 => ?_)
    subst h_51
    refine lv_bipush (v := zI 8) hx hb dX2_firstAct_54 (by decide) ?_
    refine z_icmp_ne (tgt := 63) hx hb dX2_firstAct_56 (by decide) (by omega) (fun c_56 => ?_) (fun c_56 => ?_)
    · skip
      refine lv_iconst (v := zI 0) hx hb dX2_firstAct_63 rfl ?_
      refine lv_istore (lv' := [(7, .int (zI 0)), (0, .ref ga), (1, .ref pa), (2, .int (zI h)), (3, .int (zI to)), (4, .int (zI s.1)), (5, .int (zI s.2)), (6, .int (zI p))]) hx hb dX2_firstAct_64 hl (by decide) rfl (fun ls hl => ?_)
      refine lv_iload hx hb dX2_firstAct_66 (lv_at hl 0 rfl) ?_
      refine z_if_eq (tgt := 75) hx hb dX2_firstAct_68 (by decide) (by omega) (fun c_68 => ?_) (fun c_68 => ?_)
      · skip
        refine lv_bipush (v := zI 8) hx hb dX2_firstAct_75 (by decide) ?_
        refine lv_istore (lv' := [(8, .int (zI 8)), (7, .int (zI 0)), (0, .ref ga), (1, .ref pa), (2, .int (zI h)), (3, .int (zI to)), (4, .int (zI s.1)), (5, .int (zI s.2)), (6, .int (zI p))]) hx hb dX2_firstAct_77 hl (by decide) rfl (fun ls hl => ?_)
        refine lv_iload hx hb dX2_firstAct_79 (lv_at hl 1 rfl) ?_
        refine z_if_eq (tgt := 89) hx hb dX2_firstAct_81 (by decide) (by omega) (fun c_81 => ?_) (fun c_81 => ?_)
        · skip
          refine lv_bipush (v := zI 8) hx hb dX2_firstAct_89 (by decide) ?_
          refine lv_istore (lv' := [(9, .int (zI 8)), (8, .int (zI 8)), (7, .int (zI 0)), (0, .ref ga), (1, .ref pa), (2, .int (zI h)), (3, .int (zI to)), (4, .int (zI s.1)), (5, .int (zI s.2)), (6, .int (zI p))]) hx hb dX2_firstAct_91 hl (by decide) rfl (fun ls hl => ?_)
          refine lv_iload hx hb dX2_firstAct_93 (lv_at hl 1 rfl) ?_
          refine lv_istore (lv' := [(10, .int (zI 8)), (9, .int (zI 8)), (8, .int (zI 8)), (7, .int (zI 0)), (0, .ref ga), (1, .ref pa), (2, .int (zI h)), (3, .int (zI to)), (4, .int (zI s.1)), (5, .int (zI s.2)), (6, .int (zI p))]) hx hb dX2_firstAct_95 hl (by decide) rfl (fun ls hl => ?_)
          exact lp_X2_firstAct_97 l D cB cI cZ cM ga la fa ua lw d F m sv pa sa ba so bm P TH B ra su vw no dn ha h to hP4 hso hB2 hbm hdn hsv hh hto0 M hK hA (1 + 1) 1 8 p s S n1 0 8 8 (Nat.lt_succ_self _) (by omega) (by omega) (by omega) (by assumption) (by omega) (by rw [← hv, outF, if_neg c_56]) (fun n0 p s S hg hp hdb hsr hv H locs hP hD hS ls hl => ih n0 p s S (by omega) hp hdb hsr hv H locs hP hD hS ls hl) _ _ hP hD hS _ (lv_sub hl [4, 5, 6, 7, 8, 9, 10, 3, 2, 1, 0] rfl)
        exfalso; omega
      exfalso; omega
    refine lv_iconst (v := zI 1) hx hb dX2_firstAct_59 rfl ?_
    refine lv_goto (tgt := 64) hx hb dX2_firstAct_60 (by decide) ?_
    refine lv_istore (lv' := [(7, .int (zI 1)), (0, .ref ga), (1, .ref pa), (2, .int (zI h)), (3, .int (zI to)), (4, .int (zI s.1)), (5, .int (zI s.2)), (6, .int (zI p))]) hx hb dX2_firstAct_64 hl (by decide) rfl (fun ls hl => ?_)
    refine lv_iload hx hb dX2_firstAct_66 (lv_at hl 0 rfl) ?_
    refine z_if_eq (tgt := 75) hx hb dX2_firstAct_68 (by decide) (by omega) (fun c_68 => ?_) (fun c_68 => ?_)
    · skip
      exfalso; omega
    refine lv_iconst (v := zI 0) hx hb dX2_firstAct_71 rfl ?_
    refine lv_goto (tgt := 77) hx hb dX2_firstAct_72 (by decide) ?_
    refine lv_istore (lv' := [(8, .int (zI 0)), (7, .int (zI 1)), (0, .ref ga), (1, .ref pa), (2, .int (zI h)), (3, .int (zI to)), (4, .int (zI s.1)), (5, .int (zI s.2)), (6, .int (zI p))]) hx hb dX2_firstAct_77 hl (by decide) rfl (fun ls hl => ?_)
    refine lv_iload hx hb dX2_firstAct_79 (lv_at hl 1 rfl) ?_
    refine z_if_eq (tgt := 89) hx hb dX2_firstAct_81 (by decide) (by omega) (fun c_81 => ?_) (fun c_81 => ?_)
    · skip
      exfalso; omega
    refine lv_bipush (v := zI 7) hx hb dX2_firstAct_84 (by decide) ?_
    refine lv_goto (tgt := 91) hx hb dX2_firstAct_86 (by decide) ?_
    refine lv_istore (lv' := [(9, .int (zI 7)), (8, .int (zI 0)), (7, .int (zI 1)), (0, .ref ga), (1, .ref pa), (2, .int (zI h)), (3, .int (zI to)), (4, .int (zI s.1)), (5, .int (zI s.2)), (6, .int (zI p))]) hx hb dX2_firstAct_91 hl (by decide) rfl (fun ls hl => ?_)
    refine lv_iload hx hb dX2_firstAct_93 (lv_at hl 1 rfl) ?_
    refine lv_istore (lv' := [(10, .int (zI 0)), (9, .int (zI 7)), (8, .int (zI 0)), (7, .int (zI 1)), (0, .ref ga), (1, .ref pa), (2, .int (zI h)), (3, .int (zI to)), (4, .int (zI s.1)), (5, .int (zI s.2)), (6, .int (zI p))]) hx hb dX2_firstAct_95 hl (by decide) rfl (fun ls hl => ?_)
    exact lp_X2_firstAct_97 l D cB cI cZ cM ga la fa ua lw d F m sv pa sa ba so bm P TH B ra su vw no dn ha h to hP4 hso hB2 hbm hdn hsv hh hto0 M hK hA (8 + 1) 8 0 p s S n1 1 0 7 (Nat.lt_succ_self _) (by omega) (by omega) (by omega) (by assumption) (by omega) (by rw [← hv, outF, if_pos c_56]) (fun n0 p s S hg hp hdb hsr hv H locs hP hD hS ls hl => ih n0 p s S (by omega) hp hdb hsr hv H locs hP hD hS ls hl) _ _ hP hD hS _ (lv_sub hl [4, 5, 6, 7, 8, 9, 10, 3, 2, 1, 0] rfl)
set_option maxHeartbeats 4000000 in
set_option maxRecDepth 100000 in
theorem c_X2_firstAct (l : Launch) (D : va_G) (cB cI cZ cM : ClassId) (Hp : Heap) (ga : Nat) (la : Nat) (fa : Nat) (ua : Nat) (lw : Int → Int) (d : Int → Int) (F : Int → Int) (m : Int) (sv : Int) (pa : Nat) (sa : Nat) (ba : Nat) (so : Int → Int) (bm : Int → Int) (P : Int) (TH : Int) (B : Int) (ra : Int) (su : Int) (vw : Int) (no : Int) (dn : Int) (ha : Int) (h : Int) (to : Int) (hP4 : 0 ≤ P ∧ P ≤ 4) (hso : ∀ i : Int, 0 ≤ i → i < 4 → 0 ≤ so i ∧ so i ≤ 3) (hB2 : 0 ≤ B ∧ B ≤ 2) (hbm : ∀ i : Int, 0 ≤ i → i < 2 → 0 ≤ bm i ∧ bm i < 256) (hdn : 0 ≤ dn ∧ dn ≤ 4) (hsv : (sv = 0 ∨ sv = 1) ∧ (sv = 1 → lwOK lw so bm P B dn)) (hh : 0 ≤ h ∧ h < 6561) (hto0 : -2147483648 ≤ to ∧ to < 2147483648) : cWi l yX2_firstAct wsX2_firstAct (rmW 5 0 0 115) D (TYS cB cI cZ cM) [.ref ga, .ref pa, .int (zI h), .int (zI to)] [(ga, .inr (2, [.ref la, .ref fa, .ref ua, .int (zI m), .int (zI sv)])), (la, .inl (cB, 6561, .inl (zia lw))), (fa, .inl (cI, 6561, .inl (zia d))), (ua, .inl (cI, 3394, .inl (zia F))), (pa, .inr (1, [.ref sa, .int (zI P), .int (zI TH), .ref ba, .int (zI B), .int (zI ra), .int (zI su), .int (zI vw), .int (zI no), .int (zI dn), .int (zI ha)])), (sa, .inl (cI, 4, .inl (zia so))), (ba, .inl (cI, 2, .inl (zia bm)))] Hp (fun (r : Int32) (u : BQ) => r = zI (fsA (lwS so bm P B dn) P F h to) ∧ (True)) (fun (u : BQ) => [(ga, .inr (2, [.ref la, .ref fa, .ref ua, .int (zI u.2.1), .int (zI 1)])), (la, .inl (cB, 6561, .inl (zia (lwS so bm P B dn)))), (fa, .inl (cI, 6561, .inl (zia u.2.2))), (ua, .inl (cI, 3394, .inl (zia u.1))), (pa, .inr (1, [.ref sa, .int (zI P), .int (zI TH), .ref ba, .int (zI B), .int (zI ra), .int (zI su), .int (zI vw), .int (zI no), .int (zI dn), .int (zI ha)])), (sa, .inl (cI, 4, .inl (zia so))), (ba, .inl (cI, 2, .inl (zia bm)))]) 0 0 := by
  refine wr_starti (by decide) rfl (Nat.le_of_ble_eq_true rfl) ?_
  intro pg ev sx mm args below meth cd ls A M hP hD hS hA hK hl
  obtain ⟨hx, hb, hr, hml, hown, hts, hlk, hN0⟩ := id M
  have hl : lv_has ls 12 [(0, .ref ga), (1, .ref pa), (2, .int (zI h)), (3, .int (zI to))] := hl
  refine W.widen (k := 0) (n := 0) (Nat.zero_le _) (Nat.zero_le _) ?_
  refine lv_aload_n hx hb dX2_firstAct_0 rfl (lv_at hl 0 rfl) ?_
  refine lv_aload_n hx hb dX2_firstAct_1 rfl (lv_at hl 1 rfl) ?_
  refine wc_Vv (As := [.ref pa]) (rest := []) (wr := []) (ws' := (fun _u : Unit => [(ga, .inr (2, [.ref la, .ref fa, .ref ua, .int (zI m), .int (zI 1)])), (la, .inl (cB, 6561, .inl (zia (lwS so bm P B dn)))), (fa, .inl (cI, 6561, .inl (zia d))), (ua, .inl (cI, 3394, .inl (zia F))), (pa, .inr (1, [.ref sa, .int (zI P), .int (zI TH), .ref ba, .int (zI B), .int (zI ra), .int (zI su), .int (zI vw), .int (zI no), .int (zI dn), .int (zI ha)])), (sa, .inl (cI, 4, .inl (zia so))), (ba, .inl (cI, 2, .inl (zia bm)))])) M (c_X2_survey l D cB cI cZ cM _ ga la fa ua lw d F m sv pa sa ba so bm P TH B ra su vw no dn ha (by first | assumption | omega) (by first | assumption | omega) (by first | assumption | omega) (by first | assumption | omega) (by first | assumption | omega) (by first | assumption | omega)) gX2_firstAct_X2_survey rfl ⟨rfl, hd_X2_survey⟩ ⟨Nat.le_of_ble_eq_true rfl, Nat.le_of_ble_eq_true rfl⟩ hK hP hD hS hA [0, 1, 2, 3, 4, 5, 6] [] [0, 1, 2, 3, 4, 5, 6] rfl rfl (by decide) (by decide) (by decide) (fun _ => rfl) 0 2 rfl rfl rfl hl.1 rfl rfl (Nat.le_of_ble_eq_true rfl) dX2_firstAct_2 ⟨Nat.le_of_ble_eq_true rfl, Nat.le_of_ble_eq_true rfl⟩ (by decide) (fun _u H locs h_2 hP hD hS => ?_)
  have hlw := lwS_rng so bm P B dn
  refine lv_iload_n hx hb dX2_firstAct_5 rfl (lv_at hl 2 rfl) ?_
  refine lv_iload_n hx hb dX2_firstAct_6 rfl (lv_at hl 3 rfl) ?_
  refine z_icmp_eq (tgt := 18) hx hb dX2_firstAct_7 (by decide) (by omega) (fun c_7 => ?_) (fun c_7 => ?_)
  · skip
    refine lv_bipush (v := zI (-9)) hx hb dX2_firstAct_18 (by decide) ?_
    exact wr_reti M dX2_firstAct_20 (u := (F, m, d)) ⟨(congrArg zI (by unfold fsA; rw [if_pos (Or.inl c_7)])), (by trivial)⟩ hP hD hS
  refine lv_aload_n hx hb dX2_firstAct_10 rfl (lv_at hl 0 rfl) ?_
  refine lv_iload_n hx hb dX2_firstAct_11 rfl (lv_at hl 3 rfl) ?_
  refine pc_V (As := [.int (zI to)]) (rest := []) M (c_X2_isLawful l D cB cI cZ cM _ ga la fa ua (lwS so bm P B dn) d F m 1 to (by first | assumption | omega) (by first | assumption | omega)) gX2_firstAct_X2_isLawful rfl ⟨rfl, hd_X2_isLawful⟩ ⟨Nat.le_of_ble_eq_true rfl, Nat.le_of_ble_eq_true rfl⟩ hK hP [0, 1, 2, 3] rfl 0 2 rfl rfl rfl hl.1 rfl rfl (Nat.le_of_ble_eq_true rfl) dX2_firstAct_12 ⟨Nat.le_of_ble_eq_true rfl, Nat.le_of_ble_eq_true rfl⟩ (fun r_12 h_12 => ?_)
  subst h_12
  refine z_if_ne (tgt := 21) hx hb dX2_firstAct_15 (by decide) (zb_bd _) (fun c_15 => ?_) (fun c_15 => ?_)
  · skip
    have c_15 := zb_t c_15
    refine lv_aload_n hx hb dX2_firstAct_21 rfl (lv_at hl 0 rfl) ?_
    refine lv_aload_n hx hb dX2_firstAct_22 rfl (lv_at hl 1 rfl) ?_
    refine lv_iload_n hx hb dX2_firstAct_23 rfl (lv_at hl 3 rfl) ?_
    refine wc_Vv (As := [.ref pa, .int (zI to)]) (rest := []) (wr := []) (ws' := (fun u_24 : BQ => [(ga, .inr (2, [.ref la, .ref fa, .ref ua, .int (zI u_24.2.1), .int (zI 1)])), (la, .inl (cB, 6561, .inl (zia (lwS so bm P B dn)))), (fa, .inl (cI, 6561, .inl (zia u_24.2.2))), (ua, .inl (cI, 3394, .inl (zia u_24.1))), (pa, .inr (1, [.ref sa, .int (zI P), .int (zI TH), .ref ba, .int (zI B), .int (zI ra), .int (zI su), .int (zI vw), .int (zI no), .int (zI dn), .int (zI ha)])), (sa, .inl (cI, 4, .inl (zia so))), (ba, .inl (cI, 2, .inl (zia bm)))])) M (c_X2_spreadFrom l D cB cI cZ cM _ ga la fa ua (lwS so bm P B dn) d F m 1 pa sa ba so bm P TH B ra su vw no dn ha to (by first | assumption | omega) (by first | assumption | omega) (by omega)) gX2_firstAct_X2_spreadFrom rfl ⟨rfl, hd_X2_spreadFrom⟩ ⟨Nat.le_of_ble_eq_true rfl, Nat.le_of_ble_eq_true rfl⟩ hK hP hD hS hA [0, 1, 2, 3, 4, 5, 6] [] [0, 1, 2, 3, 4, 5, 6] rfl rfl (by decide) (by decide) (by decide) (fun _ => rfl) 0 2 rfl rfl rfl hl.1 rfl rfl (Nat.le_of_ble_eq_true rfl) dX2_firstAct_24 ⟨Nat.le_of_ble_eq_true rfl, Nat.le_of_ble_eq_true rfl⟩ (by decide) (fun u_24 H locs h_24 hP hD hS => ?_)
    have hqs := sprA_qok (lw := lwS so bm P B dn) (P := P) (F := zup F 0 to) (st := 1) (acts := 6561) (by omega) (fun j h1 h2 => by rw [show j = 0 by omega, zup_s]; omega)
    have hqd := hqs.2.2
    rw [show sprA (lwS so bm P B dn) P (zup F 0 to) 1 6561 = u_24 from h_24.symm] at hqd
    have hnn : ¬ (h = to ∨ ¬ ((0 ≤ to ∧ to < 6561) ∧ lwS so bm P B dn to = 1)) := fun q => q.elim c_7 (fun w => w c_15)
    refine lv_sipush (v := zI 6561) hx hb dX2_firstAct_27 (by decide) ?_
    refine lv_istore (lv' := [(4, .int (zI 6561)), (0, .ref ga), (1, .ref pa), (2, .int (zI h)), (3, .int (zI to))]) hx hb dX2_firstAct_30 hl (by decide) rfl (fun ls hl => ?_)
    refine lv_bipush (v := zI (-9)) hx hb dX2_firstAct_32 (by decide) ?_
    refine lv_istore (lv' := [(5, .int (zI (-9))), (4, .int (zI 6561)), (0, .ref ga), (1, .ref pa), (2, .int (zI h)), (3, .int (zI to))]) hx hb dX2_firstAct_34 hl (by decide) rfl (fun ls hl => ?_)
    refine lv_iconst (v := zI 0) hx hb dX2_firstAct_36 rfl ?_
    refine lv_istore (lv' := [(6, .int (zI 0)), (5, .int (zI (-9))), (4, .int (zI 6561)), (0, .ref ga), (1, .ref pa), (2, .int (zI h)), (3, .int (zI to))]) hx hb dX2_firstAct_37 hl (by decide) rfl (fun ls hl => ?_)
    exact lp_X2_firstAct_39 l D cB cI cZ cM ga la fa ua lw d F m sv pa sa ba so bm P TH B ra su vw no dn ha h to hP4 hso hB2 hbm hdn hsv hh hto0 M hK hA (P.toNat + 1) P.toNat 0 (6561, -9) u_24 (Nat.lt_succ_self _) (by omega) (by exact hqd) (by dsimp only; omega) (by unfold fsA; rw [h_24, if_neg hnn]) _ _ hP hD hS _ (lv_sub hl [3, 4, 5, 6, 2, 1, 0] rfl)
  have c_15 := zb_f c_15
  refine lv_bipush (v := zI (-9)) hx hb dX2_firstAct_18 (by decide) ?_
  exact wr_reti M dX2_firstAct_20 (u := (F, m, d)) ⟨(congrArg zI (by unfold fsA; rw [if_pos (Or.inr c_15)])), (by trivial)⟩ hP hD hS
set_option maxHeartbeats 4000000 in
set_option maxRecDepth 100000 in
theorem lp_X2_keepDry_4 (l : Launch) (D : va_G) (cB cI cZ cM : ClassId) (ga : Nat) (la : Nat) (fa : Nat) (ua : Nat) (lw : Int → Int) (d : Int → Int) (F : Int → Int) (m : Int) (sv : Int) (pa : Nat) (sa : Nat) (ba : Nat) (so : Int → Int) (bm : Int → Int) (P : Int) (TH : Int) (B : Int) (ra : Int) (su : Int) (vw : Int) (no : Int) (dn : Int) (ha : Int) (hP4 : 0 ≤ P ∧ P ≤ 4) (hso : ∀ i : Int, 0 ≤ i → i < 4 → 0 ≤ so i ∧ so i ≤ 3) (hra : 0 ≤ ra ∧ ra < 256) (hm : 0 ≤ m ∧ m ≤ 3394) (hFm : ∀ j : Int, 0 ≤ j → j < m → 0 ≤ F j ∧ F j < 6561) {pg : Program} {ev : Env} {sx : State} {mm : MethodId} {args : Array Value} {below : List Frame} {meth : Method} {cd : Code} (M : MX pg sx mm args meth cd cX2_keepDry 4 (some .int) RX2 wsX2_keepDry) (hK : va_K D vwCl (TYS cB cI cZ cM) sx) {A : Nat → Prop} (hA : ∀ q : Nat, sx.heap.size ≤ q → A q) : ∀ (N : Nat) (n : Nat) (i : Int) (s : (Int → Int) × Int), (n < N) → (0 ≤ i ∧ i + n = m) → (0 ≤ s.2 ∧ s.2 ≤ i) → (∀ j : Int, 0 ≤ j → j < m → 0 ≤ s.1 j ∧ s.1 j < 6561) → (kdF so P ra n i s = kdF so P ra m.toNat 0 (F, 0)) → ∀ (H : Heap) (locs : List Loc), va_P D vwCl [(ga, .inr (2, [.ref la, .ref fa, .ref ua, .int (zI m), .int (zI sv)])), (la, .inl (cB, 6561, .inl (zia lw))), (fa, .inl (cI, 6561, .inl (zia d))), (ua, .inl (cI, 3394, .inl (zia s.1))), (pa, .inr (1, [.ref sa, .int (zI P), .int (zI TH), .ref ba, .int (zI B), .int (zI ra), .int (zI su), .int (zI vw), .int (zI no), .int (zI dn), .int (zI ha)])), (sa, .inl (cI, 4, .inl (zia so))), (ba, .inl (cI, 2, .inl (zia bm)))] H → va_D A [(ga, .inr (2, [.ref la, .ref fa, .ref ua, .int (zI m), .int (zI sv)])), (la, .inl (cB, 6561, .inl (zia lw))), (fa, .inl (cI, 6561, .inl (zia d))), (ua, .inl (cI, 3394, .inl (zia s.1))), (pa, .inr (1, [.ref sa, .int (zI P), .int (zI TH), .ref ba, .int (zI B), .int (zI ra), .int (zI su), .int (zI vw), .int (zI no), .int (zI dn), .int (zI ha)])), (sa, .inl (cI, 4, .inl (zia so))), (ba, .inl (cI, 2, .inl (zia bm)))] → va_S A sx.heap H locs → ∀ ls : Array Slot, lv_has ls 4 [(0, .ref ga), (1, .ref pa), (2, .int (zI s.2)), (3, .int (zI i))] → W pg l ev (rmW 3 0 0 67) sx mm args below meth cd H locs 0 0 (QWi below args sx A D (fun (r : Int32) (u : (Int → Int) × Int) => r = zI u.2 ∧ (u = kdF so P ra m.toNat 0 (F, 0))) (fun (u : (Int → Int) × Int) => [(ga, .inr (2, [.ref la, .ref fa, .ref ua, .int (zI m), .int (zI sv)])), (la, .inl (cB, 6561, .inl (zia lw))), (fa, .inl (cI, 6561, .inl (zia d))), (ua, .inl (cI, 3394, .inl (zia u.1))), (pa, .inr (1, [.ref sa, .int (zI P), .int (zI TH), .ref ba, .int (zI B), .int (zI ra), .int (zI su), .int (zI vw), .int (zI no), .int (zI dn), .int (zI ha)])), (sa, .inl (cI, 4, .inl (zia so))), (ba, .inl (cI, 2, .inl (zia bm)))]) 0 0) (F0 mm 4 ls []) := by
  intro N
  induction N with
  | zero => intro n i s hN; exact absurd hN (Nat.not_lt_zero _)
  | succ N ih =>
    intro n i s hN hi hs hF hv H locs hP hD hS ls hl
    obtain ⟨hx, hb, hr, hml, hown, hts, hlk, hN0⟩ := id M
    refine lv_iload_n hx hb dX2_keepDry_4 rfl (lv_at hl 3 rfl) ?_
    refine lv_aload_n hx hb dX2_keepDry_5 rfl (lv_at hl 0 rfl) ?_
    refine va_get (D := D) (ci := 2) (C := RX2) (T := TX2) (N := 5) hx hb hts inc_X2_keepDry_2 hown hK hP 0 rfl rfl 3 (by decide) (hts (.fieldLink RX2 44 "BedHouse$Search" "reached" "I") (by decide +kernel)) (fun _ h9 => h9) rfl dX2_keepDry_6 ?_
    refine z_icmp_ge (tgt := 53) hx hb dX2_keepDry_9 (by decide) (by omega) (fun c_9 => ?_) (fun c_9 => ?_)
    · skip
      refine lv_iload_n hx hb dX2_keepDry_53 rfl (lv_at hl 2 rfl) ?_
      obtain rfl : n = 0 := by omega
      exact wr_reti M dX2_keepDry_54 (u := s) ⟨(congrArg zI (by rfl)), (by exact hv)⟩ hP hD hS
    obtain ⟨n, rfl⟩ : ∃ j : Nat, n = j + 1 := ⟨n - 1, by omega⟩
    have hFi := hF i (by omega) (by omega)
    refine lv_iload_n hx hb dX2_keepDry_12 rfl (lv_at hl 3 rfl) ?_
    refine lv_sipush (v := zI 3394) hx hb dX2_keepDry_13 (by decide) ?_
    refine z_icmp_ge (tgt := 53) hx hb dX2_keepDry_16 (by decide) (by omega) (fun c_16 => ?_) (fun c_16 => ?_)
    · skip
      exfalso; omega
    refine lv_aload_n hx hb dX2_keepDry_19 rfl (lv_at hl 1 rfl) ?_
    refine lv_aload_n hx hb dX2_keepDry_20 rfl (lv_at hl 0 rfl) ?_
    refine va_get (D := D) (ci := 2) (C := RX2) (T := TX2) (N := 5) hx hb hts inc_X2_keepDry_2 hown hK hP 0 rfl rfl 2 (by decide) (hts (.fieldLink RX2 19 "BedHouse$Search" "queue" "[I") (by decide +kernel)) (fun _ h9 => h9) rfl dX2_keepDry_21 ?_
    refine lv_iload_n hx hb dX2_keepDry_24 rfl (lv_at hl 3 rfl) ?_
    refine z_iald hx hb hK hP 3 1 rfl rfl (Nat.le_of_ble_eq_true rfl) dX2_keepDry_25 (by omega) ?_
    refine pc_VN (As := [.int (zI (s.1 i))]) (rest := []) M (c_X1_leaksOf l D cB cI cZ cM _ pa sa ba so bm P TH B ra su vw no dn ha (s.1 i) (by first | assumption | omega) (by first | assumption | omega) (by first | assumption | omega) (by first | assumption | omega)) gX2_keepDry_X1_leaksOf_n94 rfl (NW.at hN0 66 rfl) (by decide +kernel) (by decide +kernel) (by decide +kernel) hd_X1_leaksOf ⟨Nat.le_of_ble_eq_true rfl, Nat.le_of_ble_eq_true rfl⟩ hK hP [4, 5, 6] rfl 4 1 rfl rfl rfl hl.1 rfl rfl (Nat.le_of_ble_eq_true rfl) dX2_keepDry_26 ⟨Nat.le_of_ble_eq_true rfl, Nat.le_of_ble_eq_true rfl⟩ (fun r_26 h_26 => ?_)
    subst h_26
    have hlk := lkA_rng (pl (s.1 i)) so P ra
    refine z_if_ne (tgt := 47) hx hb dX2_keepDry_29 (by decide) (by omega) (fun c_29 => ?_) (fun c_29 => ?_)
    · skip
      refine z_iinc (a := i) (k := 3) (lv' := [(3, .int (zI (i + 1))), (0, .ref ga), (1, .ref pa), (2, .int (zI s.2))]) hx hb dX2_keepDry_47 hl rfl (by decide) rfl (fun ls hl => ?_)
      refine lv_goto (tgt := 4) hx hb dX2_keepDry_50 (by decide) ?_
      exact ih n (i + 1) s (by omega) (by omega) (by first | omega | (dsimp only; omega)) (by assumption) (by rw [← hv, kdF, if_neg c_29]) _ _ hP hD hS _ (lv_sub hl [1, 2, 3, 0] rfl)
    refine lv_aload_n hx hb dX2_keepDry_32 rfl (lv_at hl 0 rfl) ?_
    refine va_get (D := D) (ci := 2) (C := RX2) (T := TX2) (N := 5) hx hb hts inc_X2_keepDry_2 hown hK hP 0 rfl rfl 2 (by decide) (hts (.fieldLink RX2 19 "BedHouse$Search" "queue" "[I") (by decide +kernel)) (fun _ h9 => h9) rfl dX2_keepDry_33 ?_
    refine lv_iload_n hx hb dX2_keepDry_36 rfl (lv_at hl 2 rfl) ?_
    refine lv_aload_n hx hb dX2_keepDry_37 rfl (lv_at hl 0 rfl) ?_
    refine va_get (D := D) (ci := 2) (C := RX2) (T := TX2) (N := 5) hx hb hts inc_X2_keepDry_2 hown hK hP 0 rfl rfl 2 (by decide) (hts (.fieldLink RX2 19 "BedHouse$Search" "queue" "[I") (by decide +kernel)) (fun _ h9 => h9) rfl dX2_keepDry_38 ?_
    refine lv_iload_n hx hb dX2_keepDry_41 rfl (lv_at hl 3 rfl) ?_
    refine z_iald hx hb hK hP 3 1 rfl rfl (Nat.le_of_ble_eq_true rfl) dX2_keepDry_42 (by omega) ?_
    refine z_iast (ws' := [(ga, .inr (2, [.ref la, .ref fa, .ref ua, .int (zI m), .int (zI sv)])), (la, .inl (cB, 6561, .inl (zia lw))), (fa, .inl (cI, 6561, .inl (zia d))), (ua, .inl (cI, 3394, .inl (zia (zup s.1 s.2 (s.1 i))))), (pa, .inr (1, [.ref sa, .int (zI P), .int (zI TH), .ref ba, .int (zI B), .int (zI ra), .int (zI su), .int (zI vw), .int (zI no), .int (zI dn), .int (zI ha)])), (sa, .inl (cI, 4, .inl (zia so))), (ba, .inl (cI, 2, .inl (zia bm)))]) hx hb hK hP hD hS 3 1 rfl rfl (Nat.le_of_ble_eq_true rfl) dX2_keepDry_43 rfl (by omega) (fun H locs hP hD hS => ?_)
    refine z_iinc (a := s.2) (k := 2) (lv' := [(2, .int (zI (s.2 + 1))), (0, .ref ga), (1, .ref pa), (3, .int (zI i))]) hx hb dX2_keepDry_44 hl rfl (by decide) rfl (fun ls hl => ?_)
    refine z_iinc (a := i) (k := 3) (lv' := [(3, .int (zI (i + 1))), (2, .int (zI (s.2 + 1))), (0, .ref ga), (1, .ref pa)]) hx hb dX2_keepDry_47 hl rfl (by decide) rfl (fun ls hl => ?_)
    refine lv_goto (tgt := 4) hx hb dX2_keepDry_50 (by decide) ?_
    exact ih n (i + 1) (zup s.1 s.2 (s.1 i), s.2 + 1) (by omega) (by omega) (by first | omega | (dsimp only; omega)) (by intro j h1 h2; dsimp only; unfold zup; split; exact hFi; exact hF j h1 h2) (by rw [← hv, kdF, if_pos c_29]) _ _ hP hD hS _ (lv_sub hl [2, 3, 1, 0] rfl)
set_option maxHeartbeats 4000000 in
set_option maxRecDepth 100000 in
theorem c_X2_keepDry (l : Launch) (D : va_G) (cB cI cZ cM : ClassId) (Hp : Heap) (ga : Nat) (la : Nat) (fa : Nat) (ua : Nat) (lw : Int → Int) (d : Int → Int) (F : Int → Int) (m : Int) (sv : Int) (pa : Nat) (sa : Nat) (ba : Nat) (so : Int → Int) (bm : Int → Int) (P : Int) (TH : Int) (B : Int) (ra : Int) (su : Int) (vw : Int) (no : Int) (dn : Int) (ha : Int) (hP4 : 0 ≤ P ∧ P ≤ 4) (hso : ∀ i : Int, 0 ≤ i → i < 4 → 0 ≤ so i ∧ so i ≤ 3) (hra : 0 ≤ ra ∧ ra < 256) (hm : 0 ≤ m ∧ m ≤ 3394) (hFm : ∀ j : Int, 0 ≤ j → j < m → 0 ≤ F j ∧ F j < 6561) : cWi l yX2_keepDry wsX2_keepDry (rmW 3 0 0 67) D (TYS cB cI cZ cM) [.ref ga, .ref pa] [(ga, .inr (2, [.ref la, .ref fa, .ref ua, .int (zI m), .int (zI sv)])), (la, .inl (cB, 6561, .inl (zia lw))), (fa, .inl (cI, 6561, .inl (zia d))), (ua, .inl (cI, 3394, .inl (zia F))), (pa, .inr (1, [.ref sa, .int (zI P), .int (zI TH), .ref ba, .int (zI B), .int (zI ra), .int (zI su), .int (zI vw), .int (zI no), .int (zI dn), .int (zI ha)])), (sa, .inl (cI, 4, .inl (zia so))), (ba, .inl (cI, 2, .inl (zia bm)))] Hp (fun (r : Int32) (u : (Int → Int) × Int) => r = zI u.2 ∧ (u = kdF so P ra m.toNat 0 (F, 0))) (fun (u : (Int → Int) × Int) => [(ga, .inr (2, [.ref la, .ref fa, .ref ua, .int (zI m), .int (zI sv)])), (la, .inl (cB, 6561, .inl (zia lw))), (fa, .inl (cI, 6561, .inl (zia d))), (ua, .inl (cI, 3394, .inl (zia u.1))), (pa, .inr (1, [.ref sa, .int (zI P), .int (zI TH), .ref ba, .int (zI B), .int (zI ra), .int (zI su), .int (zI vw), .int (zI no), .int (zI dn), .int (zI ha)])), (sa, .inl (cI, 4, .inl (zia so))), (ba, .inl (cI, 2, .inl (zia bm)))]) 0 0 := by
  refine wr_starti (by decide) rfl (Nat.le_of_ble_eq_true rfl) ?_
  intro pg ev sx mm args below meth cd ls A M hP hD hS hA hK hl
  obtain ⟨hx, hb, hr, hml, hown, hts, hlk, hN0⟩ := id M
  have hl : lv_has ls 4 [(0, .ref ga), (1, .ref pa)] := hl
  refine W.widen (k := 0) (n := 0) (Nat.zero_le _) (Nat.zero_le _) ?_
  refine lv_iconst (v := zI 0) hx hb dX2_keepDry_0 rfl ?_
  refine lv_istore_n (lv' := [(2, .int (zI 0)), (0, .ref ga), (1, .ref pa)]) hx hb dX2_keepDry_1 rfl hl (by decide) rfl (fun ls hl => ?_)
  refine lv_iconst (v := zI 0) hx hb dX2_keepDry_2 rfl ?_
  refine lv_istore_n (lv' := [(3, .int (zI 0)), (2, .int (zI 0)), (0, .ref ga), (1, .ref pa)]) hx hb dX2_keepDry_3 rfl hl (by decide) rfl (fun ls hl => ?_)
  exact lp_X2_keepDry_4 l D cB cI cZ cM ga la fa ua lw d F m sv pa sa ba so bm P TH B ra su vw no dn ha hP4 hso hra hm hFm M hK hA (m.toNat + 1) m.toNat 0 (F, 0) (Nat.lt_succ_self _) (by omega) (by dsimp only; omega) (by exact hFm) (by rfl) _ _ hP hD hS _ (lv_sub hl [2, 3, 1, 0] rfl)
set_option maxHeartbeats 4000000 in
set_option maxRecDepth 100000 in
theorem lp_X2_fewestNights_36 (l : Launch) (D : va_G) (cB cI cZ cM : ClassId) (ga : Nat) (la : Nat) (fa : Nat) (ua : Nat) (lw : Int → Int) (d : Int → Int) (F : Int → Int) (m : Int) (sv : Int) (pa : Nat) (sa : Nat) (ba : Nat) (so : Int → Int) (bm : Int → Int) (P : Int) (TH : Int) (B : Int) (ra : Int) (su : Int) (vw : Int) (no : Int) (dn : Int) (ha : Int) (ma : Nat) (hm : Int) (dy : Int) (ac : Int) (lk : Int) (cl : Int) (li : Int) (da : Int) (kp : Int) (to : Int) (hP4 : 0 ≤ P ∧ P ≤ 4) (hso : ∀ i : Int, 0 ≤ i → i < 4 → 0 ≤ so i ∧ so i ≤ 3) (hB2 : 0 ≤ B ∧ B ≤ 2) (hbm : ∀ i : Int, 0 ≤ i → i < 2 → 0 ≤ bm i ∧ bm i < 256) (hdn : 0 ≤ dn ∧ dn ≤ 4) (hsv : (sv = 0 ∨ sv = 1) ∧ (sv = 1 → lwOK lw so bm P B dn)) (hra : 0 ≤ ra ∧ ra < 256) (hh : 0 ≤ hm ∧ hm < 6561) (hha : 0 ≤ ha ∧ ha ≤ 9) (hac : 0 ≤ ac ∧ ac ≤ 9) (hdy : 0 ≤ dy ∧ dy ≤ 100000) (hto0 : -2147483648 ≤ to ∧ to < 2147483648) {pg : Program} {ev : Env} {sx : State} {mm : MethodId} {args : Array Value} {below : List Frame} {meth : Method} {cd : Code} (M : MX pg sx mm args meth cd cX2_fewestNights 7 (some .int) RX2 wsX2_fewestNights) (hK : va_K D vwCl (TYS cB cI cZ cM) sx) {A : Nat → Prop} (hA : ∀ q : Nat, sx.heap.size ≤ q → A q) : ∀ (N : Nat) (n : Nat) (nt : Int) (mo : Int) (S : BQ), (n < N) → (0 ≤ nt ∧ nt + n = 21) → (0 ≤ mo ∧ mo ≤ 3394) → (qok S) → (nyF (lwS so bm P B dn) so P ra ha dy to n nt mo S = nyF (lwS so bm P B dn) so P ra ha dy to 21 0 0 (sprA (lwS so bm P B dn) P (zup F 0 hm) 1 (ha - ac))) → ∀ (H : Heap) (locs : List Loc), va_P D vwCl [(ga, .inr (2, [.ref la, .ref fa, .ref ua, .int (zI S.2.1), .int (zI 1)])), (la, .inl (cB, 6561, .inl (zia (lwS so bm P B dn)))), (fa, .inl (cI, 6561, .inl (zia S.2.2))), (ua, .inl (cI, 3394, .inl (zia S.1))), (pa, .inr (1, [.ref sa, .int (zI P), .int (zI TH), .ref ba, .int (zI B), .int (zI ra), .int (zI su), .int (zI vw), .int (zI no), .int (zI dn), .int (zI ha)])), (sa, .inl (cI, 4, .inl (zia so))), (ba, .inl (cI, 2, .inl (zia bm))), (ma, .inr (0, [.int (zI hm), .int (zI dy), .int (zI ac), .int (zI lk), .int (zI cl), .int (zI li), .int (zI da), .int (zI kp)]))] H → va_D A [(ga, .inr (2, [.ref la, .ref fa, .ref ua, .int (zI S.2.1), .int (zI 1)])), (la, .inl (cB, 6561, .inl (zia (lwS so bm P B dn)))), (fa, .inl (cI, 6561, .inl (zia S.2.2))), (ua, .inl (cI, 3394, .inl (zia S.1))), (pa, .inr (1, [.ref sa, .int (zI P), .int (zI TH), .ref ba, .int (zI B), .int (zI ra), .int (zI su), .int (zI vw), .int (zI no), .int (zI dn), .int (zI ha)])), (sa, .inl (cI, 4, .inl (zia so))), (ba, .inl (cI, 2, .inl (zia bm))), (ma, .inr (0, [.int (zI hm), .int (zI dy), .int (zI ac), .int (zI lk), .int (zI cl), .int (zI li), .int (zI da), .int (zI kp)]))] → va_S A sx.heap H locs → ∀ ls : Array Slot, lv_has ls 7 [(0, .ref ga), (1, .ref pa), (2, .ref ma), (3, .int (zI to)), (4, .int (zI mo)), (5, .int (zI nt))] → W pg l ev (rmW 5 0 0 114) sx mm args below meth cd H locs 0 0 (QWi below args sx A D (fun (r : Int32) (u : BQ) => r = zI (nyF (lwS so bm P B dn) so P ra ha dy to 21 0 0 (sprA (lwS so bm P B dn) P (zup F 0 hm) 1 (ha - ac))) ∧ (True)) (fun (u : BQ) => [(ga, .inr (2, [.ref la, .ref fa, .ref ua, .int (zI u.2.1), .int (zI 1)])), (la, .inl (cB, 6561, .inl (zia (lwS so bm P B dn)))), (fa, .inl (cI, 6561, .inl (zia u.2.2))), (ua, .inl (cI, 3394, .inl (zia u.1))), (pa, .inr (1, [.ref sa, .int (zI P), .int (zI TH), .ref ba, .int (zI B), .int (zI ra), .int (zI su), .int (zI vw), .int (zI no), .int (zI dn), .int (zI ha)])), (sa, .inl (cI, 4, .inl (zia so))), (ba, .inl (cI, 2, .inl (zia bm))), (ma, .inr (0, [.int (zI hm), .int (zI dy), .int (zI ac), .int (zI lk), .int (zI cl), .int (zI li), .int (zI da), .int (zI kp)]))]) 0 0) (F0 mm 36 ls []) := by
  intro N
  induction N with
  | zero => intro n nt mo S hN; exact absurd hN (Nat.not_lt_zero _)
  | succ N ih =>
    intro n nt mo S hN hi hmo hs hv H locs hP hD hS ls hl
    obtain ⟨hx, hb, hr, hml, hown, hts, hlk, hN0⟩ := id M
    have hlw := lwS_rng so bm P B dn
    have hsm := hs.1
    refine lv_iload hx hb dX2_fewestNights_36 (lv_at hl 5 rfl) ?_
    refine lv_bipush (v := zI 20) hx hb dX2_fewestNights_38 (by decide) ?_
    refine z_icmp_gt (tgt := 107) hx hb dX2_fewestNights_40 (by decide) (by omega) (fun c_40 => ?_) (fun c_40 => ?_)
    · skip
      obtain rfl : n = 0 := by omega
      refine lv_bipush (v := zI (-9)) hx hb dX2_fewestNights_107 (by decide) ?_
      exact wr_reti M dX2_fewestNights_109 (u := S) ⟨(congrArg zI (by rw [← hv]; rfl)), (by trivial)⟩ hP hD hS
    obtain ⟨n, rfl⟩ : ∃ j : Nat, n = j + 1 := ⟨n - 1, by omega⟩
    refine lv_aload_n hx hb dX2_fewestNights_43 rfl (lv_at hl 2 rfl) ?_
    refine va_getN (D := D) (ci := 0) (C := RX0) (T := TX0) (N := 8) hx hb hts inc_X2_fewestNights_0 hown hK hP 7 rfl rfl 1 (by decide) ((NW.at hN0 5 rfl).use rfl) (fun _ h9 => h9) rfl dX2_fewestNights_44 ?_
    refine lv_iload hx hb dX2_fewestNights_47 (lv_at hl 5 rfl) ?_
    refine z_iadd hx hb dX2_fewestNights_49 ?_
    refine lv_sipush (v := zI 999) hx hb dX2_fewestNights_50 (by decide) ?_
    refine z_icmp_gt (tgt := 107) hx hb dX2_fewestNights_53 (by decide) (by omega) (fun c_53 => ?_) (fun c_53 => ?_)
    · skip
      refine lv_bipush (v := zI (-9)) hx hb dX2_fewestNights_107 (by decide) ?_
      exact wr_reti M dX2_fewestNights_109 (u := S) ⟨(congrArg zI (by rw [← hv, nyF, if_pos (by omega)])), (by trivial)⟩ hP hD hS
    refine lv_aload_n hx hb dX2_fewestNights_56 rfl (lv_at hl 0 rfl) ?_
    refine lv_iload_n hx hb dX2_fewestNights_57 rfl (lv_at hl 3 rfl) ?_
    refine pc_V (As := [.int (zI to)]) (rest := []) M (c_X2_farTo l D cB cI cZ cM _ ga la fa ua (lwS so bm P B dn) S.2.2 S.1 S.2.1 1 to (by first | assumption | omega)) gX2_fewestNights_X2_farTo rfl ⟨rfl, hd_X2_farTo⟩ ⟨Nat.le_of_ble_eq_true rfl, Nat.le_of_ble_eq_true rfl⟩ hK hP [0, 1, 2, 3] rfl 0 2 rfl rfl rfl hl.1 rfl rfl (Nat.le_of_ble_eq_true rfl) dX2_fewestNights_58 ⟨Nat.le_of_ble_eq_true rfl, Nat.le_of_ble_eq_true rfl⟩ (fun r_58 h_58 => ?_)
    subst h_58
    have hfr := ftA_rng hs.2.2 to
    refine lv_bipush (v := zI (-9)) hx hb dX2_fewestNights_61 (by decide) ?_
    refine z_icmp_eq (tgt := 69) hx hb dX2_fewestNights_63 (by decide) (by omega) (fun c_63 => ?_) (fun c_63 => ?_)
    · skip
      refine lv_aload_n hx hb dX2_fewestNights_69 rfl (lv_at hl 0 rfl) ?_
      refine lv_aload_n hx hb dX2_fewestNights_70 rfl (lv_at hl 1 rfl) ?_
      refine wc_Vi (As := [.ref pa]) (rest := []) (wr := [(ma, .inr (0, [.int (zI hm), .int (zI dy), .int (zI ac), .int (zI lk), .int (zI cl), .int (zI li), .int (zI da), .int (zI kp)]))]) (ws' := (fun u_71 : (Int → Int) × Int => [(ga, .inr (2, [.ref la, .ref fa, .ref ua, .int (zI S.2.1), .int (zI 1)])), (la, .inl (cB, 6561, .inl (zia (lwS so bm P B dn)))), (fa, .inl (cI, 6561, .inl (zia S.2.2))), (ua, .inl (cI, 3394, .inl (zia u_71.1))), (pa, .inr (1, [.ref sa, .int (zI P), .int (zI TH), .ref ba, .int (zI B), .int (zI ra), .int (zI su), .int (zI vw), .int (zI no), .int (zI dn), .int (zI ha)])), (sa, .inl (cI, 4, .inl (zia so))), (ba, .inl (cI, 2, .inl (zia bm))), (ma, .inr (0, [.int (zI hm), .int (zI dy), .int (zI ac), .int (zI lk), .int (zI cl), .int (zI li), .int (zI da), .int (zI kp)]))])) M (c_X2_keepDry l D cB cI cZ cM _ ga la fa ua (lwS so bm P B dn) S.2.2 S.1 S.2.1 1 pa sa ba so bm P TH B ra su vw no dn ha (by first | assumption | omega) (by first | assumption | omega) (by first | assumption | omega) (hs.1) (fun j h1 h2 => by have := hs.2.1 j h1 h2; omega)) gX2_fewestNights_X2_keepDry rfl ⟨rfl, hd_X2_keepDry⟩ ⟨Nat.le_of_ble_eq_true rfl, Nat.le_of_ble_eq_true rfl⟩ hK hP hD hS hA [0, 1, 2, 3, 4, 5, 6] [7] [1, 2, 3, 4, 5, 6, 7, 0] rfl rfl (by decide) (by decide) (by decide) (fun _ => rfl) 0 2 rfl rfl rfl hl.1 rfl rfl (Nat.le_of_ble_eq_true rfl) dX2_fewestNights_71 ⟨Nat.le_of_ble_eq_true rfl, Nat.le_of_ble_eq_true rfl⟩ (by decide) (fun r_71 u_71 H locs h_71 hP hD hS => ?_)
      obtain ⟨hz_71, h_71⟩ := h_71
      subst hz_71
      obtain ⟨hk1, hk2⟩ := kdF_ok so P ra S.2.1.toNat 0 (S.1, 0) (by dsimp only; omega) (by dsimp only; omega) (fun j h1 h2 => by have := hs.2.1 j h1 (by omega); dsimp only; omega)
      rw [← h_71] at hk1 hk2
      have hk1 : 0 ≤ u_71.2 ∧ u_71.2 ≤ 3394 := by omega
      refine lv_istore (lv' := [(6, .int (zI u_71.2)), (0, .ref ga), (1, .ref pa), (2, .ref ma), (3, .int (zI to)), (4, .int (zI mo)), (5, .int (zI nt))]) hx hb dX2_fewestNights_74 hl (by decide) rfl (fun ls hl => ?_)
      refine lv_iload hx hb dX2_fewestNights_76 (lv_at hl 0 rfl) ?_
      refine lv_iload hx hb dX2_fewestNights_78 (lv_at hl 5 rfl) ?_
      refine z_icmp_ne (tgt := 86) hx hb dX2_fewestNights_80 (by decide) (by omega) (fun c_80 => ?_) (fun c_80 => ?_)
      · skip
        refine lv_iload hx hb dX2_fewestNights_86 (lv_at hl 0 rfl) ?_
        refine lv_istore (lv' := [(4, .int (zI u_71.2)), (6, .int (zI u_71.2)), (0, .ref ga), (1, .ref pa), (2, .ref ma), (3, .int (zI to)), (5, .int (zI nt))]) hx hb dX2_fewestNights_88 hl (by decide) rfl (fun ls hl => ?_)
        refine lv_aload_n hx hb dX2_fewestNights_90 rfl (lv_at hl 2 rfl) ?_
        refine lv_aload_n hx hb dX2_fewestNights_91 rfl (lv_at hl 3 rfl) ?_
        refine lv_iload hx hb dX2_fewestNights_92 (lv_at hl 0 rfl) ?_
        refine lv_aload_n hx hb dX2_fewestNights_94 rfl (lv_at hl 3 rfl) ?_
        refine va_getN (D := D) (ci := 1) (C := RX1) (T := TX1) (N := 11) hx hb hts inc_X2_fewestNights_1 hown hK hP 4 rfl rfl 10 (by decide) ((NW.at hN0 34 rfl).use rfl) (fun _ h9 => h9) rfl dX2_fewestNights_95 ?_
        refine wc_Vv (As := [.ref pa, .int (zI u_71.2), .int (zI ha)]) (rest := []) (wr := [(ma, .inr (0, [.int (zI hm), .int (zI dy), .int (zI ac), .int (zI lk), .int (zI cl), .int (zI li), .int (zI da), .int (zI kp)]))]) (ws' := (fun u_98 : BQ => [(ga, .inr (2, [.ref la, .ref fa, .ref ua, .int (zI u_98.2.1), .int (zI 1)])), (la, .inl (cB, 6561, .inl (zia (lwS so bm P B dn)))), (fa, .inl (cI, 6561, .inl (zia u_98.2.2))), (ua, .inl (cI, 3394, .inl (zia u_98.1))), (pa, .inr (1, [.ref sa, .int (zI P), .int (zI TH), .ref ba, .int (zI B), .int (zI ra), .int (zI su), .int (zI vw), .int (zI no), .int (zI dn), .int (zI ha)])), (sa, .inl (cI, 4, .inl (zia so))), (ba, .inl (cI, 2, .inl (zia bm))), (ma, .inr (0, [.int (zI hm), .int (zI dy), .int (zI ac), .int (zI lk), .int (zI cl), .int (zI li), .int (zI da), .int (zI kp)]))])) M (c_X2_spread l D cB cI cZ cM _ ga la fa ua (lwS so bm P B dn) S.2.2 u_71.1 S.2.1 1 pa sa ba so bm P TH B ra su vw no dn ha u_71.2 ha (by first | assumption | omega) (by first | assumption | omega) (hk1) (fun j h1 h2 => hk2 j h1 (by omega)) (by first | assumption | omega)) gX2_fewestNights_X2_spread rfl ⟨rfl, hd_X2_spread⟩ ⟨Nat.le_of_ble_eq_true rfl, Nat.le_of_ble_eq_true rfl⟩ hK hP hD hS hA [0, 1, 2, 3, 4, 5, 6] [7] [1, 2, 3, 4, 5, 6, 7, 0] rfl rfl (by decide) (by decide) (by decide) (fun _ => rfl) 0 2 rfl rfl rfl hl.1 rfl rfl (Nat.le_of_ble_eq_true rfl) dX2_fewestNights_98 ⟨Nat.le_of_ble_eq_true rfl, Nat.le_of_ble_eq_true rfl⟩ (by decide) (fun u_98 H locs h_98 hP hD hS => ?_)
        have h98q := sprA_qok (lw := lwS so bm P B dn) (P := P) (F := u_71.1) (st := u_71.2) (acts := ha) hk1 (fun j h1 h2 => hk2 j h1 (by omega))
        rw [show sprA (lwS so bm P B dn) P u_71.1 u_71.2 ha = u_98 from h_98.symm] at h98q
        refine z_iinc (a := nt) (k := 6) (lv' := [(5, .int (zI (nt + 1))), (4, .int (zI u_71.2)), (6, .int (zI u_71.2)), (0, .ref ga), (1, .ref pa), (2, .ref ma), (3, .int (zI to))]) hx hb dX2_fewestNights_101 hl rfl (by decide) rfl (fun ls hl => ?_)
        refine lv_goto (tgt := 36) hx hb dX2_fewestNights_104 (by decide) ?_
        exact ih n (nt + 1) u_71.2 u_98 (by omega) (by omega) (by exact hk1) (by exact h98q) (by rw [← hv, nyF, if_neg (by omega), if_neg (fun q => q c_63), ← h_71, if_neg c_80, ← h_98]) _ _ hP hD hS _ (lv_sub hl [3, 4, 5, 6, 1, 0] rfl)
      refine lv_bipush (v := zI (-9)) hx hb dX2_fewestNights_83 (by decide) ?_
      exact wr_reti M dX2_fewestNights_85 (u := (u_71.1, S.2.1, S.2.2)) ⟨(congrArg zI (by rw [← hv, nyF, if_neg (by omega), if_neg (fun q => q c_63), ← h_71, if_pos c_80])), (by trivial)⟩ hP hD hS
    refine lv_iload hx hb dX2_fewestNights_66 (lv_at hl 5 rfl) ?_
    exact wr_reti M dX2_fewestNights_68 (u := S) ⟨(congrArg zI (by rw [← hv, nyF, if_neg (by omega), if_pos c_63])), (by trivial)⟩ hP hD hS
set_option maxHeartbeats 4000000 in
set_option maxRecDepth 100000 in
theorem c_X2_fewestNights (l : Launch) (D : va_G) (cB cI cZ cM : ClassId) (Hp : Heap) (ga : Nat) (la : Nat) (fa : Nat) (ua : Nat) (lw : Int → Int) (d : Int → Int) (F : Int → Int) (m : Int) (sv : Int) (pa : Nat) (sa : Nat) (ba : Nat) (so : Int → Int) (bm : Int → Int) (P : Int) (TH : Int) (B : Int) (ra : Int) (su : Int) (vw : Int) (no : Int) (dn : Int) (ha : Int) (ma : Nat) (hm : Int) (dy : Int) (ac : Int) (lk : Int) (cl : Int) (li : Int) (da : Int) (kp : Int) (to : Int) (hP4 : 0 ≤ P ∧ P ≤ 4) (hso : ∀ i : Int, 0 ≤ i → i < 4 → 0 ≤ so i ∧ so i ≤ 3) (hB2 : 0 ≤ B ∧ B ≤ 2) (hbm : ∀ i : Int, 0 ≤ i → i < 2 → 0 ≤ bm i ∧ bm i < 256) (hdn : 0 ≤ dn ∧ dn ≤ 4) (hsv : (sv = 0 ∨ sv = 1) ∧ (sv = 1 → lwOK lw so bm P B dn)) (hra : 0 ≤ ra ∧ ra < 256) (hh : 0 ≤ hm ∧ hm < 6561) (hha : 0 ≤ ha ∧ ha ≤ 9) (hac : 0 ≤ ac ∧ ac ≤ 9) (hdy : 0 ≤ dy ∧ dy ≤ 100000) (hto0 : -2147483648 ≤ to ∧ to < 2147483648) : cWi l yX2_fewestNights wsX2_fewestNights (rmW 5 0 0 114) D (TYS cB cI cZ cM) [.ref ga, .ref pa, .ref ma, .int (zI to)] [(ga, .inr (2, [.ref la, .ref fa, .ref ua, .int (zI m), .int (zI sv)])), (la, .inl (cB, 6561, .inl (zia lw))), (fa, .inl (cI, 6561, .inl (zia d))), (ua, .inl (cI, 3394, .inl (zia F))), (pa, .inr (1, [.ref sa, .int (zI P), .int (zI TH), .ref ba, .int (zI B), .int (zI ra), .int (zI su), .int (zI vw), .int (zI no), .int (zI dn), .int (zI ha)])), (sa, .inl (cI, 4, .inl (zia so))), (ba, .inl (cI, 2, .inl (zia bm))), (ma, .inr (0, [.int (zI hm), .int (zI dy), .int (zI ac), .int (zI lk), .int (zI cl), .int (zI li), .int (zI da), .int (zI kp)]))] Hp (fun (r : Int32) (u : BQ) => r = zI (nyF (lwS so bm P B dn) so P ra ha dy to 21 0 0 (sprA (lwS so bm P B dn) P (zup F 0 hm) 1 (ha - ac))) ∧ (True)) (fun (u : BQ) => [(ga, .inr (2, [.ref la, .ref fa, .ref ua, .int (zI u.2.1), .int (zI 1)])), (la, .inl (cB, 6561, .inl (zia (lwS so bm P B dn)))), (fa, .inl (cI, 6561, .inl (zia u.2.2))), (ua, .inl (cI, 3394, .inl (zia u.1))), (pa, .inr (1, [.ref sa, .int (zI P), .int (zI TH), .ref ba, .int (zI B), .int (zI ra), .int (zI su), .int (zI vw), .int (zI no), .int (zI dn), .int (zI ha)])), (sa, .inl (cI, 4, .inl (zia so))), (ba, .inl (cI, 2, .inl (zia bm))), (ma, .inr (0, [.int (zI hm), .int (zI dy), .int (zI ac), .int (zI lk), .int (zI cl), .int (zI li), .int (zI da), .int (zI kp)]))]) 0 0 := by
  refine wr_starti (by decide) rfl (Nat.le_of_ble_eq_true rfl) ?_
  intro pg ev sx mm args below meth cd ls A M hP hD hS hA hK hl
  obtain ⟨hx, hb, hr, hml, hown, hts, hlk, hN0⟩ := id M
  have hl : lv_has ls 7 [(0, .ref ga), (1, .ref pa), (2, .ref ma), (3, .int (zI to))] := hl
  refine W.widen (k := 0) (n := 0) (Nat.zero_le _) (Nat.zero_le _) ?_
  refine lv_aload_n hx hb dX2_fewestNights_0 rfl (lv_at hl 0 rfl) ?_
  refine lv_aload_n hx hb dX2_fewestNights_1 rfl (lv_at hl 1 rfl) ?_
  refine wc_Vv (As := [.ref pa]) (rest := []) (wr := [(ma, .inr (0, [.int (zI hm), .int (zI dy), .int (zI ac), .int (zI lk), .int (zI cl), .int (zI li), .int (zI da), .int (zI kp)]))]) (ws' := (fun _u : Unit => [(ga, .inr (2, [.ref la, .ref fa, .ref ua, .int (zI m), .int (zI 1)])), (la, .inl (cB, 6561, .inl (zia (lwS so bm P B dn)))), (fa, .inl (cI, 6561, .inl (zia d))), (ua, .inl (cI, 3394, .inl (zia F))), (pa, .inr (1, [.ref sa, .int (zI P), .int (zI TH), .ref ba, .int (zI B), .int (zI ra), .int (zI su), .int (zI vw), .int (zI no), .int (zI dn), .int (zI ha)])), (sa, .inl (cI, 4, .inl (zia so))), (ba, .inl (cI, 2, .inl (zia bm))), (ma, .inr (0, [.int (zI hm), .int (zI dy), .int (zI ac), .int (zI lk), .int (zI cl), .int (zI li), .int (zI da), .int (zI kp)]))])) M (c_X2_survey l D cB cI cZ cM _ ga la fa ua lw d F m sv pa sa ba so bm P TH B ra su vw no dn ha (by first | assumption | omega) (by first | assumption | omega) (by first | assumption | omega) (by first | assumption | omega) (by first | assumption | omega) (by first | assumption | omega)) gX2_fewestNights_X2_survey rfl ⟨rfl, hd_X2_survey⟩ ⟨Nat.le_of_ble_eq_true rfl, Nat.le_of_ble_eq_true rfl⟩ hK hP hD hS hA [0, 1, 2, 3, 4, 5, 6] [7] [1, 2, 3, 4, 5, 6, 7, 0] rfl rfl (by decide) (by decide) (by decide) (fun _ => rfl) 0 2 rfl rfl rfl hl.1 rfl rfl (Nat.le_of_ble_eq_true rfl) dX2_fewestNights_2 ⟨Nat.le_of_ble_eq_true rfl, Nat.le_of_ble_eq_true rfl⟩ (by decide) (fun _u H locs h_2 hP hD hS => ?_)
  have hlw := lwS_rng so bm P B dn
  refine lv_aload_n hx hb dX2_fewestNights_5 rfl (lv_at hl 0 rfl) ?_
  refine va_get (D := D) (ci := 2) (C := RX2) (T := TX2) (N := 5) hx hb hts inc_X2_fewestNights_2 hown hK hP 0 rfl rfl 2 (by decide) (hts (.fieldLink RX2 19 "BedHouse$Search" "queue" "[I") (by decide +kernel)) (fun _ h9 => h9) rfl dX2_fewestNights_6 ?_
  refine lv_iconst (v := zI 0) hx hb dX2_fewestNights_9 rfl ?_
  refine lv_aload_n hx hb dX2_fewestNights_10 rfl (lv_at hl 2 rfl) ?_
  refine va_getN (D := D) (ci := 0) (C := RX0) (T := TX0) (N := 8) hx hb hts inc_X2_fewestNights_0 hown hK hP 7 rfl rfl 0 (by decide) ((NW.at hN0 3 rfl).use rfl) (fun _ h9 => h9) rfl dX2_fewestNights_11 ?_
  refine z_iast (ws' := [(ga, .inr (2, [.ref la, .ref fa, .ref ua, .int (zI m), .int (zI 1)])), (la, .inl (cB, 6561, .inl (zia (lwS so bm P B dn)))), (fa, .inl (cI, 6561, .inl (zia d))), (ua, .inl (cI, 3394, .inl (zia (zup F 0 hm)))), (pa, .inr (1, [.ref sa, .int (zI P), .int (zI TH), .ref ba, .int (zI B), .int (zI ra), .int (zI su), .int (zI vw), .int (zI no), .int (zI dn), .int (zI ha)])), (sa, .inl (cI, 4, .inl (zia so))), (ba, .inl (cI, 2, .inl (zia bm))), (ma, .inr (0, [.int (zI hm), .int (zI dy), .int (zI ac), .int (zI lk), .int (zI cl), .int (zI li), .int (zI da), .int (zI kp)]))]) hx hb hK hP hD hS 3 1 rfl rfl (Nat.le_of_ble_eq_true rfl) dX2_fewestNights_14 rfl (by omega) (fun H locs hP hD hS => ?_)
  refine lv_aload_n hx hb dX2_fewestNights_15 rfl (lv_at hl 0 rfl) ?_
  refine lv_aload_n hx hb dX2_fewestNights_16 rfl (lv_at hl 1 rfl) ?_
  refine lv_iconst (v := zI 1) hx hb dX2_fewestNights_17 rfl ?_
  refine lv_aload_n hx hb dX2_fewestNights_18 rfl (lv_at hl 1 rfl) ?_
  refine va_getN (D := D) (ci := 1) (C := RX1) (T := TX1) (N := 11) hx hb hts inc_X2_fewestNights_1 hown hK hP 4 rfl rfl 10 (by decide) ((NW.at hN0 34 rfl).use rfl) (fun _ h9 => h9) rfl dX2_fewestNights_19 ?_
  refine lv_aload_n hx hb dX2_fewestNights_22 rfl (lv_at hl 2 rfl) ?_
  refine va_getN (D := D) (ci := 0) (C := RX0) (T := TX0) (N := 8) hx hb hts inc_X2_fewestNights_0 hown hK hP 7 rfl rfl 2 (by decide) ((NW.at hN0 6 rfl).use rfl) (fun _ h9 => h9) rfl dX2_fewestNights_23 ?_
  refine z_isub hx hb dX2_fewestNights_26 ?_
  refine wc_Vv (As := [.ref pa, .int (zI 1), .int (zI (ha - ac))]) (rest := []) (wr := [(ma, .inr (0, [.int (zI hm), .int (zI dy), .int (zI ac), .int (zI lk), .int (zI cl), .int (zI li), .int (zI da), .int (zI kp)]))]) (ws' := (fun u_27 : BQ => [(ga, .inr (2, [.ref la, .ref fa, .ref ua, .int (zI u_27.2.1), .int (zI 1)])), (la, .inl (cB, 6561, .inl (zia (lwS so bm P B dn)))), (fa, .inl (cI, 6561, .inl (zia u_27.2.2))), (ua, .inl (cI, 3394, .inl (zia u_27.1))), (pa, .inr (1, [.ref sa, .int (zI P), .int (zI TH), .ref ba, .int (zI B), .int (zI ra), .int (zI su), .int (zI vw), .int (zI no), .int (zI dn), .int (zI ha)])), (sa, .inl (cI, 4, .inl (zia so))), (ba, .inl (cI, 2, .inl (zia bm))), (ma, .inr (0, [.int (zI hm), .int (zI dy), .int (zI ac), .int (zI lk), .int (zI cl), .int (zI li), .int (zI da), .int (zI kp)]))])) M (c_X2_spread l D cB cI cZ cM _ ga la fa ua (lwS so bm P B dn) d (zup F 0 hm) m 1 pa sa ba so bm P TH B ra su vw no dn ha 1 (ha - ac) (by first | assumption | omega) (by first | assumption | omega) (by first | assumption | omega) (fun j h1 h2 => by rw [show j = 0 by omega, zup_s]; omega) (by first | assumption | omega)) gX2_fewestNights_X2_spread rfl ⟨rfl, hd_X2_spread⟩ ⟨Nat.le_of_ble_eq_true rfl, Nat.le_of_ble_eq_true rfl⟩ hK hP hD hS hA [0, 1, 2, 3, 4, 5, 6] [7] [1, 2, 3, 4, 5, 6, 7, 0] rfl rfl (by decide) (by decide) (by decide) (fun _ => rfl) 0 2 rfl rfl rfl hl.1 rfl rfl (Nat.le_of_ble_eq_true rfl) dX2_fewestNights_27 ⟨Nat.le_of_ble_eq_true rfl, Nat.le_of_ble_eq_true rfl⟩ (by decide) (fun u_27 H locs h_27 hP hD hS => ?_)
  have h27q := sprA_qok (lw := lwS so bm P B dn) (P := P) (F := zup F 0 hm) (st := 1) (acts := ha - ac) (by omega) (fun j h1 h2 => by rw [show j = 0 by omega, zup_s]; omega)
  rw [show sprA (lwS so bm P B dn) P (zup F 0 hm) 1 (ha - ac) = u_27 from h_27.symm] at h27q
  refine lv_iconst (v := zI 0) hx hb dX2_fewestNights_30 rfl ?_
  refine lv_istore (lv' := [(4, .int (zI 0)), (0, .ref ga), (1, .ref pa), (2, .ref ma), (3, .int (zI to))]) hx hb dX2_fewestNights_31 hl (by decide) rfl (fun ls hl => ?_)
  refine lv_iconst (v := zI 0) hx hb dX2_fewestNights_33 rfl ?_
  refine lv_istore (lv' := [(5, .int (zI 0)), (4, .int (zI 0)), (0, .ref ga), (1, .ref pa), (2, .ref ma), (3, .int (zI to))]) hx hb dX2_fewestNights_34 hl (by decide) rfl (fun ls hl => ?_)
  exact lp_X2_fewestNights_36 l D cB cI cZ cM ga la fa ua lw d F m sv pa sa ba so bm P TH B ra su vw no dn ha ma hm dy ac lk cl li da kp to hP4 hso hB2 hbm hdn hsv hra hh hha hac hdy hto0 M hK hA (21 + 1) 21 0 0 u_27 (Nat.lt_succ_self _) (by omega) (by omega) (by exact h27q) (by rw [h_27]) _ _ hP hD hS _ (lv_sub hl [2, 3, 4, 5, 1, 0] rfl)
set_option maxHeartbeats 4000000 in
set_option maxRecDepth 100000 in
theorem lp_X2_actsToEmpty_14 (l : Launch) (D : va_G) (cB cI cZ cM : ClassId) (ga : Nat) (la : Nat) (fa : Nat) (ua : Nat) (lw : Int → Int) (d : Int → Int) (F : Int → Int) (m : Int) (sv : Int) (pa : Nat) (sa : Nat) (ba : Nat) (so : Int → Int) (bm : Int → Int) (P : Int) (TH : Int) (B : Int) (ra : Int) (su : Int) (vw : Int) (no : Int) (dn : Int) (ha : Int) (h : Int) (sl : Int) (hP4 : 0 ≤ P ∧ P ≤ 4) (hso : ∀ i : Int, 0 ≤ i → i < 4 → 0 ≤ so i ∧ so i ≤ 3) (hB2 : 0 ≤ B ∧ B ≤ 2) (hbm : ∀ i : Int, 0 ≤ i → i < 2 → 0 ≤ bm i ∧ bm i < 256) (hdn : 0 ≤ dn ∧ dn ≤ 4) (hsv : (sv = 0 ∨ sv = 1) ∧ (sv = 1 → lwOK lw so bm P B dn)) (hh : 0 ≤ h ∧ h < 6561) (hsl : 0 ≤ sl ∧ sl < 256) {pg : Program} {ev : Env} {sx : State} {mm : MethodId} {args : Array Value} {below : List Frame} {meth : Method} {cd : Code} (M : MX pg sx mm args meth cd cX2_actsToEmpty 5 (some .int) RX2 wsX2_actsToEmpty) (hK : va_K D vwCl (TYS cB cI cZ cM) sx) {A : Nat → Prop} (hA : ∀ q : Nat, sx.heap.size ≤ q → A q) : ∀ (N : Nat) (n : Nat) (i : Int) (S : BQ), (n < N) → (0 ≤ i ∧ i + n = S.2.1) → (qok S) → (teF so P sl S n i = teF so P sl (sprA (lwS so bm P B dn) P (zup F 0 h) 1 6561) (sprA (lwS so bm P B dn) P (zup F 0 h) 1 6561).2.1.toNat 0) → ∀ (H : Heap) (locs : List Loc), va_P D vwCl [(ga, .inr (2, [.ref la, .ref fa, .ref ua, .int (zI S.2.1), .int (zI 1)])), (la, .inl (cB, 6561, .inl (zia (lwS so bm P B dn)))), (fa, .inl (cI, 6561, .inl (zia S.2.2))), (ua, .inl (cI, 3394, .inl (zia S.1))), (pa, .inr (1, [.ref sa, .int (zI P), .int (zI TH), .ref ba, .int (zI B), .int (zI ra), .int (zI su), .int (zI vw), .int (zI no), .int (zI dn), .int (zI ha)])), (sa, .inl (cI, 4, .inl (zia so))), (ba, .inl (cI, 2, .inl (zia bm)))] H → va_D A [(ga, .inr (2, [.ref la, .ref fa, .ref ua, .int (zI S.2.1), .int (zI 1)])), (la, .inl (cB, 6561, .inl (zia (lwS so bm P B dn)))), (fa, .inl (cI, 6561, .inl (zia S.2.2))), (ua, .inl (cI, 3394, .inl (zia S.1))), (pa, .inr (1, [.ref sa, .int (zI P), .int (zI TH), .ref ba, .int (zI B), .int (zI ra), .int (zI su), .int (zI vw), .int (zI no), .int (zI dn), .int (zI ha)])), (sa, .inl (cI, 4, .inl (zia so))), (ba, .inl (cI, 2, .inl (zia bm)))] → va_S A sx.heap H locs → ∀ ls : Array Slot, lv_has ls 5 [(0, .ref ga), (1, .ref pa), (2, .int (zI h)), (3, .int (zI sl)), (4, .int (zI i))] → W pg l ev (rmW 5 0 0 115) sx mm args below meth cd H locs 0 0 (QWi below args sx A D (fun (r : Int32) (u : BQ) => r = zI (teF so P sl (sprA (lwS so bm P B dn) P (zup F 0 h) 1 6561) (sprA (lwS so bm P B dn) P (zup F 0 h) 1 6561).2.1.toNat 0) ∧ (True)) (fun (u : BQ) => [(ga, .inr (2, [.ref la, .ref fa, .ref ua, .int (zI u.2.1), .int (zI 1)])), (la, .inl (cB, 6561, .inl (zia (lwS so bm P B dn)))), (fa, .inl (cI, 6561, .inl (zia u.2.2))), (ua, .inl (cI, 3394, .inl (zia u.1))), (pa, .inr (1, [.ref sa, .int (zI P), .int (zI TH), .ref ba, .int (zI B), .int (zI ra), .int (zI su), .int (zI vw), .int (zI no), .int (zI dn), .int (zI ha)])), (sa, .inl (cI, 4, .inl (zia so))), (ba, .inl (cI, 2, .inl (zia bm)))]) 0 0) (F0 mm 14 ls []) := by
  intro N
  induction N with
  | zero => intro n i S hN; exact absurd hN (Nat.not_lt_zero _)
  | succ N ih =>
    intro n i S hN hi hs hv H locs hP hD hS ls hl
    obtain ⟨hx, hb, hr, hml, hown, hts, hlk, hN0⟩ := id M
    have hsm := hs.1
    refine lv_iload hx hb dX2_actsToEmpty_14 (lv_at hl 4 rfl) ?_
    refine lv_aload_n hx hb dX2_actsToEmpty_16 rfl (lv_at hl 0 rfl) ?_
    refine va_get (D := D) (ci := 2) (C := RX2) (T := TX2) (N := 5) hx hb hts inc_X2_actsToEmpty_2 hown hK hP 0 rfl rfl 3 (by decide) (hts (.fieldLink RX2 44 "BedHouse$Search" "reached" "I") (by decide +kernel)) (fun _ h9 => h9) rfl dX2_actsToEmpty_17 ?_
    refine z_icmp_ge (tgt := 67) hx hb dX2_actsToEmpty_20 (by decide) (by omega) (fun c_20 => ?_) (fun c_20 => ?_)
    · skip
      refine lv_bipush (v := zI (-9)) hx hb dX2_actsToEmpty_67 (by decide) ?_
      obtain rfl : n = 0 := by omega
      exact wr_reti M dX2_actsToEmpty_69 (u := S) ⟨(congrArg zI (by rw [← hv]; rfl)), (by trivial)⟩ hP hD hS
    have hsm := hs.1
    have hF2 := hs.2.1 i hi.1 c_20
    obtain ⟨n, rfl⟩ : ∃ j : Nat, n = j + 1 := ⟨n - 1, by omega⟩
    refine lv_iload hx hb dX2_actsToEmpty_23 (lv_at hl 4 rfl) ?_
    refine lv_sipush (v := zI 3394) hx hb dX2_actsToEmpty_25 (by decide) ?_
    refine z_icmp_ge (tgt := 67) hx hb dX2_actsToEmpty_28 (by decide) (by omega) (fun c_28 => ?_) (fun c_28 => ?_)
    · skip
      exfalso; omega
    refine lv_aload_n hx hb dX2_actsToEmpty_31 rfl (lv_at hl 1 rfl) ?_
    refine lv_aload_n hx hb dX2_actsToEmpty_32 rfl (lv_at hl 0 rfl) ?_
    refine va_get (D := D) (ci := 2) (C := RX2) (T := TX2) (N := 5) hx hb hts inc_X2_actsToEmpty_2 hown hK hP 0 rfl rfl 2 (by decide) (hts (.fieldLink RX2 19 "BedHouse$Search" "queue" "[I") (by decide +kernel)) (fun _ h9 => h9) rfl dX2_actsToEmpty_33 ?_
    refine lv_iload hx hb dX2_actsToEmpty_36 (lv_at hl 4 rfl) ?_
    refine z_iald hx hb hK hP 3 1 rfl rfl (Nat.le_of_ble_eq_true rfl) dX2_actsToEmpty_38 (by omega) ?_
    refine lv_bipush (v := zI 15) hx hb dX2_actsToEmpty_39 (by decide) ?_
    refine pc_VN (As := [.int (zI (S.1 i)), .int (zI 15)]) (rest := []) M (c_X1_slotsUnder l D cB cI cZ cM _ pa sa ba so bm P TH B ra su vw no dn ha (S.1 i) 15 (by first | assumption | omega) (by first | assumption | omega) (by first | assumption | omega) (by first | assumption | omega)) gX2_actsToEmpty_X1_slotsUnder_n97 rfl (NW.at hN0 68 rfl) (by decide +kernel) (by decide +kernel) (by decide +kernel) hd_X1_slotsUnder ⟨Nat.le_of_ble_eq_true rfl, Nat.le_of_ble_eq_true rfl⟩ hK hP [4, 5, 6] rfl 4 1 rfl rfl rfl hl.1 rfl rfl (Nat.le_of_ble_eq_true rfl) dX2_actsToEmpty_41 ⟨Nat.le_of_ble_eq_true rfl, Nat.le_of_ble_eq_true rfl⟩ (fun r_41 h_41 => ?_)
    subst h_41
    refine lv_iload_n hx hb dX2_actsToEmpty_44 rfl (lv_at hl 3 rfl) ?_
    have hm := msk_rng (pl (S.1 i)) so 15 P (pl_rng _)
    refine z_iand hx hb dX2_actsToEmpty_45 (by omega) ?_
    have hz1 := zband_le (msk (pl (S.1 i)) so 15 P) sl hm.1
    have hz2 := zband_nn (msk (pl (S.1 i)) so 15 P) sl
    refine z_if_ne (tgt := 61) hx hb dX2_actsToEmpty_46 (by decide) (by omega) (fun c_46 => ?_) (fun c_46 => ?_)
    · skip
      refine z_iinc (a := i) (k := 4) (lv' := [(4, .int (zI (i + 1))), (0, .ref ga), (1, .ref pa), (2, .int (zI h)), (3, .int (zI sl))]) hx hb dX2_actsToEmpty_61 hl rfl (by decide) rfl (fun ls hl => ?_)
      refine lv_goto (tgt := 14) hx hb dX2_actsToEmpty_64 (by decide) ?_
      exact ih n (i + 1) S (by omega) (by omega) (by assumption) (by rw [← hv, teF, if_neg c_46]) _ _ hP hD hS _ (lv_sub hl [1, 2, 3, 4, 0] rfl)
    refine lv_aload_n hx hb dX2_actsToEmpty_49 rfl (lv_at hl 0 rfl) ?_
    refine lv_aload_n hx hb dX2_actsToEmpty_50 rfl (lv_at hl 0 rfl) ?_
    refine va_get (D := D) (ci := 2) (C := RX2) (T := TX2) (N := 5) hx hb hts inc_X2_actsToEmpty_2 hown hK hP 0 rfl rfl 2 (by decide) (hts (.fieldLink RX2 19 "BedHouse$Search" "queue" "[I") (by decide +kernel)) (fun _ h9 => h9) rfl dX2_actsToEmpty_51 ?_
    refine lv_iload hx hb dX2_actsToEmpty_54 (lv_at hl 4 rfl) ?_
    refine z_iald hx hb hK hP 3 1 rfl rfl (Nat.le_of_ble_eq_true rfl) dX2_actsToEmpty_56 (by omega) ?_
    refine pc_V (As := [.int (zI (S.1 i))]) (rest := []) M (c_X2_farTo l D cB cI cZ cM _ ga la fa ua (lwS so bm P B dn) S.2.2 S.1 S.2.1 1 (S.1 i) (by first | assumption | omega)) gX2_actsToEmpty_X2_farTo rfl ⟨rfl, hd_X2_farTo⟩ ⟨Nat.le_of_ble_eq_true rfl, Nat.le_of_ble_eq_true rfl⟩ hK hP [0, 1, 2, 3] rfl 0 2 rfl rfl rfl hl.1 rfl rfl (Nat.le_of_ble_eq_true rfl) dX2_actsToEmpty_57 ⟨Nat.le_of_ble_eq_true rfl, Nat.le_of_ble_eq_true rfl⟩ (fun r_57 h_57 => ?_)
    subst h_57
    exact wr_reti M dX2_actsToEmpty_60 (u := S) ⟨(congrArg zI (by rw [← hv, teF, if_pos c_46])), (by trivial)⟩ hP hD hS
set_option maxHeartbeats 4000000 in
set_option maxRecDepth 100000 in
theorem c_X2_actsToEmpty (l : Launch) (D : va_G) (cB cI cZ cM : ClassId) (Hp : Heap) (ga : Nat) (la : Nat) (fa : Nat) (ua : Nat) (lw : Int → Int) (d : Int → Int) (F : Int → Int) (m : Int) (sv : Int) (pa : Nat) (sa : Nat) (ba : Nat) (so : Int → Int) (bm : Int → Int) (P : Int) (TH : Int) (B : Int) (ra : Int) (su : Int) (vw : Int) (no : Int) (dn : Int) (ha : Int) (h : Int) (sl : Int) (hP4 : 0 ≤ P ∧ P ≤ 4) (hso : ∀ i : Int, 0 ≤ i → i < 4 → 0 ≤ so i ∧ so i ≤ 3) (hB2 : 0 ≤ B ∧ B ≤ 2) (hbm : ∀ i : Int, 0 ≤ i → i < 2 → 0 ≤ bm i ∧ bm i < 256) (hdn : 0 ≤ dn ∧ dn ≤ 4) (hsv : (sv = 0 ∨ sv = 1) ∧ (sv = 1 → lwOK lw so bm P B dn)) (hh : 0 ≤ h ∧ h < 6561) (hsl : 0 ≤ sl ∧ sl < 256) : cWi l yX2_actsToEmpty wsX2_actsToEmpty (rmW 5 0 0 115) D (TYS cB cI cZ cM) [.ref ga, .ref pa, .int (zI h), .int (zI sl)] [(ga, .inr (2, [.ref la, .ref fa, .ref ua, .int (zI m), .int (zI sv)])), (la, .inl (cB, 6561, .inl (zia lw))), (fa, .inl (cI, 6561, .inl (zia d))), (ua, .inl (cI, 3394, .inl (zia F))), (pa, .inr (1, [.ref sa, .int (zI P), .int (zI TH), .ref ba, .int (zI B), .int (zI ra), .int (zI su), .int (zI vw), .int (zI no), .int (zI dn), .int (zI ha)])), (sa, .inl (cI, 4, .inl (zia so))), (ba, .inl (cI, 2, .inl (zia bm)))] Hp (fun (r : Int32) (u : BQ) => r = zI (teF so P sl (sprA (lwS so bm P B dn) P (zup F 0 h) 1 6561) (sprA (lwS so bm P B dn) P (zup F 0 h) 1 6561).2.1.toNat 0) ∧ (True)) (fun (u : BQ) => [(ga, .inr (2, [.ref la, .ref fa, .ref ua, .int (zI u.2.1), .int (zI 1)])), (la, .inl (cB, 6561, .inl (zia (lwS so bm P B dn)))), (fa, .inl (cI, 6561, .inl (zia u.2.2))), (ua, .inl (cI, 3394, .inl (zia u.1))), (pa, .inr (1, [.ref sa, .int (zI P), .int (zI TH), .ref ba, .int (zI B), .int (zI ra), .int (zI su), .int (zI vw), .int (zI no), .int (zI dn), .int (zI ha)])), (sa, .inl (cI, 4, .inl (zia so))), (ba, .inl (cI, 2, .inl (zia bm)))]) 0 0 := by
  refine wr_starti (by decide) rfl (Nat.le_of_ble_eq_true rfl) ?_
  intro pg ev sx mm args below meth cd ls A M hP hD hS hA hK hl
  obtain ⟨hx, hb, hr, hml, hown, hts, hlk, hN0⟩ := id M
  have hl : lv_has ls 5 [(0, .ref ga), (1, .ref pa), (2, .int (zI h)), (3, .int (zI sl))] := hl
  refine W.widen (k := 0) (n := 0) (Nat.zero_le _) (Nat.zero_le _) ?_
  refine lv_aload_n hx hb dX2_actsToEmpty_0 rfl (lv_at hl 0 rfl) ?_
  refine lv_aload_n hx hb dX2_actsToEmpty_1 rfl (lv_at hl 1 rfl) ?_
  refine wc_Vv (As := [.ref pa]) (rest := []) (wr := []) (ws' := (fun _u : Unit => [(ga, .inr (2, [.ref la, .ref fa, .ref ua, .int (zI m), .int (zI 1)])), (la, .inl (cB, 6561, .inl (zia (lwS so bm P B dn)))), (fa, .inl (cI, 6561, .inl (zia d))), (ua, .inl (cI, 3394, .inl (zia F))), (pa, .inr (1, [.ref sa, .int (zI P), .int (zI TH), .ref ba, .int (zI B), .int (zI ra), .int (zI su), .int (zI vw), .int (zI no), .int (zI dn), .int (zI ha)])), (sa, .inl (cI, 4, .inl (zia so))), (ba, .inl (cI, 2, .inl (zia bm)))])) M (c_X2_survey l D cB cI cZ cM _ ga la fa ua lw d F m sv pa sa ba so bm P TH B ra su vw no dn ha (by first | assumption | omega) (by first | assumption | omega) (by first | assumption | omega) (by first | assumption | omega) (by first | assumption | omega) (by first | assumption | omega)) gX2_actsToEmpty_X2_survey rfl ⟨rfl, hd_X2_survey⟩ ⟨Nat.le_of_ble_eq_true rfl, Nat.le_of_ble_eq_true rfl⟩ hK hP hD hS hA [0, 1, 2, 3, 4, 5, 6] [] [0, 1, 2, 3, 4, 5, 6] rfl rfl (by decide) (by decide) (by decide) (fun _ => rfl) 0 2 rfl rfl rfl hl.1 rfl rfl (Nat.le_of_ble_eq_true rfl) dX2_actsToEmpty_2 ⟨Nat.le_of_ble_eq_true rfl, Nat.le_of_ble_eq_true rfl⟩ (by decide) (fun _u H locs h_2 hP hD hS => ?_)
  have hlw := lwS_rng so bm P B dn
  refine lv_aload_n hx hb dX2_actsToEmpty_5 rfl (lv_at hl 0 rfl) ?_
  refine lv_aload_n hx hb dX2_actsToEmpty_6 rfl (lv_at hl 1 rfl) ?_
  refine lv_iload_n hx hb dX2_actsToEmpty_7 rfl (lv_at hl 2 rfl) ?_
  refine wc_Vv (As := [.ref pa, .int (zI h)]) (rest := []) (wr := []) (ws' := (fun u_8 : BQ => [(ga, .inr (2, [.ref la, .ref fa, .ref ua, .int (zI u_8.2.1), .int (zI 1)])), (la, .inl (cB, 6561, .inl (zia (lwS so bm P B dn)))), (fa, .inl (cI, 6561, .inl (zia u_8.2.2))), (ua, .inl (cI, 3394, .inl (zia u_8.1))), (pa, .inr (1, [.ref sa, .int (zI P), .int (zI TH), .ref ba, .int (zI B), .int (zI ra), .int (zI su), .int (zI vw), .int (zI no), .int (zI dn), .int (zI ha)])), (sa, .inl (cI, 4, .inl (zia so))), (ba, .inl (cI, 2, .inl (zia bm)))])) M (c_X2_spreadFrom l D cB cI cZ cM _ ga la fa ua (lwS so bm P B dn) d F m 1 pa sa ba so bm P TH B ra su vw no dn ha h (by first | assumption | omega) (by first | assumption | omega) (by first | assumption | omega)) gX2_actsToEmpty_X2_spreadFrom rfl ⟨rfl, hd_X2_spreadFrom⟩ ⟨Nat.le_of_ble_eq_true rfl, Nat.le_of_ble_eq_true rfl⟩ hK hP hD hS hA [0, 1, 2, 3, 4, 5, 6] [] [0, 1, 2, 3, 4, 5, 6] rfl rfl (by decide) (by decide) (by decide) (fun _ => rfl) 0 2 rfl rfl rfl hl.1 rfl rfl (Nat.le_of_ble_eq_true rfl) dX2_actsToEmpty_8 ⟨Nat.le_of_ble_eq_true rfl, Nat.le_of_ble_eq_true rfl⟩ (by decide) (fun u_8 H locs h_8 hP hD hS => ?_)
  have hqs := sprA_qok (lw := lwS so bm P B dn) (P := P) (F := zup F 0 h) (st := 1) (acts := 6561) (by omega) (fun j h1 h2 => by rw [show j = 0 by omega, zup_s]; omega)
  rw [show sprA (lwS so bm P B dn) P (zup F 0 h) 1 6561 = u_8 from h_8.symm] at hqs
  refine lv_iconst (v := zI 0) hx hb dX2_actsToEmpty_11 rfl ?_
  refine lv_istore (lv' := [(4, .int (zI 0)), (0, .ref ga), (1, .ref pa), (2, .int (zI h)), (3, .int (zI sl))]) hx hb dX2_actsToEmpty_12 hl (by decide) rfl (fun ls hl => ?_)
  exact lp_X2_actsToEmpty_14 l D cB cI cZ cM ga la fa ua lw d F m sv pa sa ba so bm P TH B ra su vw no dn ha h sl hP4 hso hB2 hbm hdn hsv hh hsl M hK hA (u_8.2.1.toNat + 1) u_8.2.1.toNat 0 u_8 (Nat.lt_succ_self _) (by have := hqs.1; omega) (by exact hqs) (by rw [h_8]) _ _ hP hD hS _ (lv_sub hl [1, 2, 3, 4, 0] rfl)
set_option maxHeartbeats 4000000 in
set_option maxRecDepth 100000 in
theorem lp_X2_bestHome_14 (l : Launch) (D : va_G) (cB cI cZ cM : ClassId) (ga : Nat) (la : Nat) (fa : Nat) (ua : Nat) (lw : Int → Int) (d : Int → Int) (F : Int → Int) (m : Int) (sv : Int) (pa : Nat) (sa : Nat) (ba : Nat) (so : Int → Int) (bm : Int → Int) (P : Int) (TH : Int) (B : Int) (ra : Int) (su : Int) (vw : Int) (no : Int) (dn : Int) (ha : Int) (hP4 : 0 ≤ P ∧ P ≤ 4) (hso : ∀ i : Int, 0 ≤ i → i < 4 → 0 ≤ so i ∧ so i ≤ 3) (hB2 : 0 ≤ B ∧ B ≤ 2) (hbm : ∀ i : Int, 0 ≤ i → i < 2 → 0 ≤ bm i ∧ bm i < 256) (hdn : 0 ≤ dn ∧ dn ≤ 4) (hsv : (sv = 0 ∨ sv = 1) ∧ (sv = 1 → lwOK lw so bm P B dn)) (hra : 0 ≤ ra ∧ ra < 256) (hsu : 0 ≤ su ∧ su < 256) (hvw : vw = -9 ∨ (0 ≤ vw ∧ vw < 8)) (hno : no = -9 ∨ (0 ≤ no ∧ no < 8)) {pg : Program} {ev : Env} {sx : State} {mm : MethodId} {args : Array Value} {below : List Frame} {meth : Method} {cd : Code} (M : MX pg sx mm args meth cd cX2_bestHome 6 (some .int) RX2 wsX2_bestHome) (hK : va_K D vwCl (TYS cB cI cZ cM) sx) {A : Nat → Prop} (hA : ∀ q : Nat, sx.heap.size ≤ q → A q) : ∀ (N : Nat) (n : Nat) (i : Int) (s : Int × Int), (n < N) → (0 ≤ i ∧ i + n = 6561) → (-1000000 ≤ s.2 ∧ s.2 ≤ 100) → ((bhF (lwS so bm P B dn) so P ra su vw no n i s).1 = (bhF (lwS so bm P B dn) so P ra su vw no 6561 0 (-9, -1000000)).1) → ∀ (H : Heap) (locs : List Loc), va_P D vwCl [(ga, .inr (2, [.ref la, .ref fa, .ref ua, .int (zI m), .int (zI 1)])), (la, .inl (cB, 6561, .inl (zia (lwS so bm P B dn)))), (fa, .inl (cI, 6561, .inl (zia d))), (ua, .inl (cI, 3394, .inl (zia F))), (pa, .inr (1, [.ref sa, .int (zI P), .int (zI TH), .ref ba, .int (zI B), .int (zI ra), .int (zI su), .int (zI vw), .int (zI no), .int (zI dn), .int (zI ha)])), (sa, .inl (cI, 4, .inl (zia so))), (ba, .inl (cI, 2, .inl (zia bm)))] H → va_D A [(ga, .inr (2, [.ref la, .ref fa, .ref ua, .int (zI m), .int (zI 1)])), (la, .inl (cB, 6561, .inl (zia (lwS so bm P B dn)))), (fa, .inl (cI, 6561, .inl (zia d))), (ua, .inl (cI, 3394, .inl (zia F))), (pa, .inr (1, [.ref sa, .int (zI P), .int (zI TH), .ref ba, .int (zI B), .int (zI ra), .int (zI su), .int (zI vw), .int (zI no), .int (zI dn), .int (zI ha)])), (sa, .inl (cI, 4, .inl (zia so))), (ba, .inl (cI, 2, .inl (zia bm)))] → va_S A sx.heap H locs → ∀ ls : Array Slot, lv_has ls 6 [(0, .ref ga), (1, .ref pa), (2, .int (zI s.1)), (3, .int (zI s.2)), (4, .int (zI i))] → W pg l ev (rmW 5 0 0 114) sx mm args below meth cd H locs 0 0 (QWi below args sx A D (fun (r : Int32) (_u : Unit) => r = zI ((bhF (lwS so bm P B dn) so P ra su vw no 6561 0 (-9, -1000000)).1)) (fun (_u : Unit) => [(ga, .inr (2, [.ref la, .ref fa, .ref ua, .int (zI m), .int (zI 1)])), (la, .inl (cB, 6561, .inl (zia (lwS so bm P B dn)))), (fa, .inl (cI, 6561, .inl (zia d))), (ua, .inl (cI, 3394, .inl (zia F))), (pa, .inr (1, [.ref sa, .int (zI P), .int (zI TH), .ref ba, .int (zI B), .int (zI ra), .int (zI su), .int (zI vw), .int (zI no), .int (zI dn), .int (zI ha)])), (sa, .inl (cI, 4, .inl (zia so))), (ba, .inl (cI, 2, .inl (zia bm)))]) 0 0) (F0 mm 14 ls []) := by
  intro N
  induction N with
  | zero => intro n i s hN; exact absurd hN (Nat.not_lt_zero _)
  | succ N ih =>
    intro n i s hN hi hs hv H locs hP hD hS ls hl
    obtain ⟨hx, hb, hr, hml, hown, hts, hlk, hN0⟩ := id M
    refine lv_iload hx hb dX2_bestHome_14 (lv_at hl 4 rfl) ?_
    refine lv_sipush (v := zI 6561) hx hb dX2_bestHome_16 (by decide) ?_
    refine z_icmp_ge (tgt := 62) hx hb dX2_bestHome_19 (by decide) (by omega) (fun c_19 => ?_) (fun c_19 => ?_)
    · skip
      refine lv_iload_n hx hb dX2_bestHome_62 rfl (lv_at hl 2 rfl) ?_
      obtain rfl : n = 0 := by omega
      exact wr_reti M dX2_bestHome_63 (u := ()) (congrArg zI (by rw [← hv]; rfl)) hP hD hS
    obtain ⟨n, rfl⟩ : ∃ j : Nat, n = j + 1 := ⟨n - 1, by omega⟩
    have hlw := lwS_rng so bm P B dn
    refine lv_aload_n hx hb dX2_bestHome_22 rfl (lv_at hl 0 rfl) ?_
    refine lv_iload hx hb dX2_bestHome_23 (lv_at hl 4 rfl) ?_
    refine pc_V (As := [.int (zI i)]) (rest := []) M (c_X2_isLawful l D cB cI cZ cM _ ga la fa ua (lwS so bm P B dn) d F m 1 i (by first | assumption | omega) (by first | assumption | omega)) gX2_bestHome_X2_isLawful rfl ⟨rfl, hd_X2_isLawful⟩ ⟨Nat.le_of_ble_eq_true rfl, Nat.le_of_ble_eq_true rfl⟩ hK hP [0, 1, 2, 3] rfl 0 2 rfl rfl rfl hl.1 rfl rfl (Nat.le_of_ble_eq_true rfl) dX2_bestHome_25 ⟨Nat.le_of_ble_eq_true rfl, Nat.le_of_ble_eq_true rfl⟩ (fun r_25 h_25 => ?_)
    subst h_25
    refine z_if_eq (tgt := 40) hx hb dX2_bestHome_28 (by decide) (zb_bd _) (fun c_28 => ?_) (fun c_28 => ?_)
    · skip
      have c_28 := zb_f c_28
      have hl1 : ¬ lwS so bm P B dn i = 1 := fun q => c_28 ⟨by omega, q⟩
      refine lv_ldc hx hb hown (hts (.constant RX2 100 (-1000000)) (by decide +kernel)) dX2_bestHome_40 ?_
      refine z_top (y := zI (-1000000)) (by decide) ?_
      refine lv_istore (lv' := [(5, .int (zI (-1000000))), (0, .ref ga), (1, .ref pa), (2, .int (zI s.1)), (3, .int (zI s.2)), (4, .int (zI i))]) hx hb dX2_bestHome_42 hl (by decide) rfl (fun ls hl => ?_)
      refine lv_iload hx hb dX2_bestHome_44 (lv_at hl 0 rfl) ?_
      refine lv_iload_n hx hb dX2_bestHome_46 rfl (lv_at hl 4 rfl) ?_
      refine z_icmp_le (tgt := 56) hx hb dX2_bestHome_47 (by decide) (by omega) (fun c_47 => ?_) (fun c_47 => ?_)
      · skip
        refine z_iinc (a := i) (k := 5) (lv' := [(4, .int (zI (i + 1))), (5, .int (zI (-1000000))), (0, .ref ga), (1, .ref pa), (2, .int (zI s.1)), (3, .int (zI s.2))]) hx hb dX2_bestHome_56 hl rfl (by decide) rfl (fun ls hl => ?_)
        refine lv_goto (tgt := 14) hx hb dX2_bestHome_59 (by decide) ?_
        exact ih n (i + 1) s (by omega) (by omega) (by first | omega | (dsimp only; omega)) (by rw [← hv, bhF, if_neg hl1, if_neg (by omega)]) _ _ hP hD hS _ (lv_sub hl [2, 3, 4, 5, 0] rfl)
      refine lv_iload hx hb dX2_bestHome_50 (lv_at hl 0 rfl) ?_
      refine lv_istore_n (lv' := [(3, .int (zI (-1000000))), (5, .int (zI (-1000000))), (0, .ref ga), (1, .ref pa), (2, .int (zI s.1)), (4, .int (zI i))]) hx hb dX2_bestHome_52 rfl hl (by decide) rfl (fun ls hl => ?_)
      refine lv_iload hx hb dX2_bestHome_53 (lv_at hl 5 rfl) ?_
      refine lv_istore_n (lv' := [(2, .int (zI i)), (3, .int (zI (-1000000))), (5, .int (zI (-1000000))), (0, .ref ga), (1, .ref pa), (4, .int (zI i))]) hx hb dX2_bestHome_55 rfl hl (by decide) rfl (fun ls hl => ?_)
      refine z_iinc (a := i) (k := 5) (lv' := [(4, .int (zI (i + 1))), (2, .int (zI i)), (3, .int (zI (-1000000))), (5, .int (zI (-1000000))), (0, .ref ga), (1, .ref pa)]) hx hb dX2_bestHome_56 hl rfl (by decide) rfl (fun ls hl => ?_)
      refine lv_goto (tgt := 14) hx hb dX2_bestHome_59 (by decide) ?_
      exact ih n (i + 1) (i, -1000000) (by omega) (by omega) (by first | omega | (dsimp only; omega)) (by rw [← hv, bhF, if_neg hl1, if_pos c_47]) _ _ hP hD hS _ (lv_sub hl [4, 5, 1, 2, 0] rfl)
    have c_28 := zb_t c_28
    have hl1 : lwS so bm P B dn i = 1 := c_28.2
    refine lv_aload_n hx hb dX2_bestHome_31 rfl (lv_at hl 1 rfl) ?_
    refine lv_iload hx hb dX2_bestHome_32 (lv_at hl 4 rfl) ?_
    refine pc_VN (As := [.int (zI i)]) (rest := []) M (c_X1_worthOf l D cB cI cZ cM _ pa sa ba so bm P TH B ra su vw no dn ha i (by first | assumption | omega) (by first | assumption | omega) (by first | assumption | omega) (by first | assumption | omega) (by first | assumption | omega) (by first | assumption | omega) (by first | assumption | omega)) gX2_bestHome_X1_worthOf_n101 rfl (NW.at hN0 70 rfl) (by decide +kernel) (by decide +kernel) (by decide +kernel) hd_X1_worthOf ⟨Nat.le_of_ble_eq_true rfl, Nat.le_of_ble_eq_true rfl⟩ hK hP [4, 5, 6] rfl 4 1 rfl rfl rfl hl.1 rfl rfl (Nat.le_of_ble_eq_true rfl) dX2_bestHome_34 ⟨Nat.le_of_ble_eq_true rfl, Nat.le_of_ble_eq_true rfl⟩ (fun r_34 h_34 => ?_)
    subst h_34
    have hwo := woA_rng (pl i) so P ra su vw no
    refine lv_goto (tgt := 42) hx hb dX2_bestHome_37 (by decide) ?_
    refine lv_istore (lv' := [(5, .int (zI (woA (pl i) so P ra su vw no))), (0, .ref ga), (1, .ref pa), (2, .int (zI s.1)), (3, .int (zI s.2)), (4, .int (zI i))]) hx hb dX2_bestHome_42 hl (by decide) rfl (fun ls hl => ?_)
    refine lv_iload hx hb dX2_bestHome_44 (lv_at hl 0 rfl) ?_
    refine lv_iload_n hx hb dX2_bestHome_46 rfl (lv_at hl 4 rfl) ?_
    refine z_icmp_le (tgt := 56) hx hb dX2_bestHome_47 (by decide) (by omega) (fun c_47 => ?_) (fun c_47 => ?_)
    · skip
      refine z_iinc (a := i) (k := 5) (lv' := [(4, .int (zI (i + 1))), (5, .int (zI (woA (pl i) so P ra su vw no))), (0, .ref ga), (1, .ref pa), (2, .int (zI s.1)), (3, .int (zI s.2))]) hx hb dX2_bestHome_56 hl rfl (by decide) rfl (fun ls hl => ?_)
      refine lv_goto (tgt := 14) hx hb dX2_bestHome_59 (by decide) ?_
      exact ih n (i + 1) s (by omega) (by omega) (by first | omega | (dsimp only; omega)) (by rw [← hv, bhF, if_pos hl1, if_neg (by omega)]) _ _ hP hD hS _ (lv_sub hl [2, 3, 4, 5, 0] rfl)
    refine lv_iload hx hb dX2_bestHome_50 (lv_at hl 0 rfl) ?_
    refine lv_istore_n (lv' := [(3, .int (zI (woA (pl i) so P ra su vw no))), (5, .int (zI (woA (pl i) so P ra su vw no))), (0, .ref ga), (1, .ref pa), (2, .int (zI s.1)), (4, .int (zI i))]) hx hb dX2_bestHome_52 rfl hl (by decide) rfl (fun ls hl => ?_)
    refine lv_iload hx hb dX2_bestHome_53 (lv_at hl 5 rfl) ?_
    refine lv_istore_n (lv' := [(2, .int (zI i)), (3, .int (zI (woA (pl i) so P ra su vw no))), (5, .int (zI (woA (pl i) so P ra su vw no))), (0, .ref ga), (1, .ref pa), (4, .int (zI i))]) hx hb dX2_bestHome_55 rfl hl (by decide) rfl (fun ls hl => ?_)
    refine z_iinc (a := i) (k := 5) (lv' := [(4, .int (zI (i + 1))), (2, .int (zI i)), (3, .int (zI (woA (pl i) so P ra su vw no))), (5, .int (zI (woA (pl i) so P ra su vw no))), (0, .ref ga), (1, .ref pa)]) hx hb dX2_bestHome_56 hl rfl (by decide) rfl (fun ls hl => ?_)
    refine lv_goto (tgt := 14) hx hb dX2_bestHome_59 (by decide) ?_
    exact ih n (i + 1) (i, woA (pl i) so P ra su vw no) (by omega) (by omega) (by first | omega | (dsimp only; omega)) (by rw [← hv, bhF, if_pos hl1, if_pos c_47]) _ _ hP hD hS _ (lv_sub hl [4, 5, 1, 2, 0] rfl)
set_option maxHeartbeats 4000000 in
set_option maxRecDepth 100000 in
theorem c_X2_bestHome (l : Launch) (D : va_G) (cB cI cZ cM : ClassId) (Hp : Heap) (ga : Nat) (la : Nat) (fa : Nat) (ua : Nat) (lw : Int → Int) (d : Int → Int) (F : Int → Int) (m : Int) (sv : Int) (pa : Nat) (sa : Nat) (ba : Nat) (so : Int → Int) (bm : Int → Int) (P : Int) (TH : Int) (B : Int) (ra : Int) (su : Int) (vw : Int) (no : Int) (dn : Int) (ha : Int) (hP4 : 0 ≤ P ∧ P ≤ 4) (hso : ∀ i : Int, 0 ≤ i → i < 4 → 0 ≤ so i ∧ so i ≤ 3) (hB2 : 0 ≤ B ∧ B ≤ 2) (hbm : ∀ i : Int, 0 ≤ i → i < 2 → 0 ≤ bm i ∧ bm i < 256) (hdn : 0 ≤ dn ∧ dn ≤ 4) (hsv : (sv = 0 ∨ sv = 1) ∧ (sv = 1 → lwOK lw so bm P B dn)) (hra : 0 ≤ ra ∧ ra < 256) (hsu : 0 ≤ su ∧ su < 256) (hvw : vw = -9 ∨ (0 ≤ vw ∧ vw < 8)) (hno : no = -9 ∨ (0 ≤ no ∧ no < 8)) : cWi l yX2_bestHome wsX2_bestHome (rmW 5 0 0 114) D (TYS cB cI cZ cM) [.ref ga, .ref pa] [(ga, .inr (2, [.ref la, .ref fa, .ref ua, .int (zI m), .int (zI sv)])), (la, .inl (cB, 6561, .inl (zia lw))), (fa, .inl (cI, 6561, .inl (zia d))), (ua, .inl (cI, 3394, .inl (zia F))), (pa, .inr (1, [.ref sa, .int (zI P), .int (zI TH), .ref ba, .int (zI B), .int (zI ra), .int (zI su), .int (zI vw), .int (zI no), .int (zI dn), .int (zI ha)])), (sa, .inl (cI, 4, .inl (zia so))), (ba, .inl (cI, 2, .inl (zia bm)))] Hp (fun (r : Int32) (_u : Unit) => r = zI ((bhF (lwS so bm P B dn) so P ra su vw no 6561 0 (-9, -1000000)).1)) (fun (_u : Unit) => [(ga, .inr (2, [.ref la, .ref fa, .ref ua, .int (zI m), .int (zI 1)])), (la, .inl (cB, 6561, .inl (zia (lwS so bm P B dn)))), (fa, .inl (cI, 6561, .inl (zia d))), (ua, .inl (cI, 3394, .inl (zia F))), (pa, .inr (1, [.ref sa, .int (zI P), .int (zI TH), .ref ba, .int (zI B), .int (zI ra), .int (zI su), .int (zI vw), .int (zI no), .int (zI dn), .int (zI ha)])), (sa, .inl (cI, 4, .inl (zia so))), (ba, .inl (cI, 2, .inl (zia bm)))]) 0 0 := by
  refine wr_starti (by decide) rfl (Nat.le_of_ble_eq_true rfl) ?_
  intro pg ev sx mm args below meth cd ls A M hP hD hS hA hK hl
  obtain ⟨hx, hb, hr, hml, hown, hts, hlk, hN0⟩ := id M
  have hl : lv_has ls 6 [(0, .ref ga), (1, .ref pa)] := hl
  refine W.widen (k := 0) (n := 0) (Nat.zero_le _) (Nat.zero_le _) ?_
  refine lv_aload_n hx hb dX2_bestHome_0 rfl (lv_at hl 0 rfl) ?_
  refine lv_aload_n hx hb dX2_bestHome_1 rfl (lv_at hl 1 rfl) ?_
  refine wc_Vv (As := [.ref pa]) (rest := []) (wr := []) (ws' := (fun _u : Unit => [(ga, .inr (2, [.ref la, .ref fa, .ref ua, .int (zI m), .int (zI 1)])), (la, .inl (cB, 6561, .inl (zia (lwS so bm P B dn)))), (fa, .inl (cI, 6561, .inl (zia d))), (ua, .inl (cI, 3394, .inl (zia F))), (pa, .inr (1, [.ref sa, .int (zI P), .int (zI TH), .ref ba, .int (zI B), .int (zI ra), .int (zI su), .int (zI vw), .int (zI no), .int (zI dn), .int (zI ha)])), (sa, .inl (cI, 4, .inl (zia so))), (ba, .inl (cI, 2, .inl (zia bm)))])) M (c_X2_survey l D cB cI cZ cM _ ga la fa ua lw d F m sv pa sa ba so bm P TH B ra su vw no dn ha (by first | assumption | omega) (by first | assumption | omega) (by first | assumption | omega) (by first | assumption | omega) (by first | assumption | omega) (by first | assumption | omega)) gX2_bestHome_X2_survey rfl ⟨rfl, hd_X2_survey⟩ ⟨Nat.le_of_ble_eq_true rfl, Nat.le_of_ble_eq_true rfl⟩ hK hP hD hS hA [0, 1, 2, 3, 4, 5, 6] [] [0, 1, 2, 3, 4, 5, 6] rfl rfl (by decide) (by decide) (by decide) (fun _ => rfl) 0 2 rfl rfl rfl hl.1 rfl rfl (Nat.le_of_ble_eq_true rfl) dX2_bestHome_2 ⟨Nat.le_of_ble_eq_true rfl, Nat.le_of_ble_eq_true rfl⟩ (by decide) (fun _u H locs h_2 hP hD hS => ?_)
  have hlw := lwS_rng so bm P B dn
  refine lv_bipush (v := zI (-9)) hx hb dX2_bestHome_5 (by decide) ?_
  refine lv_istore_n (lv' := [(2, .int (zI (-9))), (0, .ref ga), (1, .ref pa)]) hx hb dX2_bestHome_7 rfl hl (by decide) rfl (fun ls hl => ?_)
  refine lv_ldc hx hb hown (hts (.constant RX2 100 (-1000000)) (by decide +kernel)) dX2_bestHome_8 ?_
  refine z_top (y := zI (-1000000)) (by decide) ?_
  refine lv_istore_n (lv' := [(3, .int (zI (-1000000))), (2, .int (zI (-9))), (0, .ref ga), (1, .ref pa)]) hx hb dX2_bestHome_10 rfl hl (by decide) rfl (fun ls hl => ?_)
  refine lv_iconst (v := zI 0) hx hb dX2_bestHome_11 rfl ?_
  refine lv_istore (lv' := [(4, .int (zI 0)), (3, .int (zI (-1000000))), (2, .int (zI (-9))), (0, .ref ga), (1, .ref pa)]) hx hb dX2_bestHome_12 hl (by decide) rfl (fun ls hl => ?_)
  exact lp_X2_bestHome_14 l D cB cI cZ cM ga la fa ua lw d F m sv pa sa ba so bm P TH B ra su vw no dn ha hP4 hso hB2 hbm hdn hsv hra hsu hvw hno M hK hA (6561 + 1) 6561 0 (-9, -1000000) (Nat.lt_succ_self _) (by omega) (by dsimp only; omega) (by rfl) _ _ hP hD hS _ (lv_sub hl [3, 4, 2, 1, 0] rfl)
set_option maxHeartbeats 4000000 in
set_option maxRecDepth 100000 in
theorem lp_X2_countFitting_10 (l : Launch) (D : va_G) (cB cI cZ cM : ClassId) (ga : Nat) (la : Nat) (fa : Nat) (ua : Nat) (lw : Int → Int) (d : Int → Int) (F : Int → Int) (m : Int) (sv : Int) (pa : Nat) (sa : Nat) (ba : Nat) (so : Int → Int) (bm : Int → Int) (P : Int) (TH : Int) (B : Int) (ra : Int) (su : Int) (vw : Int) (no : Int) (dn : Int) (ha : Int) (ma : Nat) (hm : Int) (dy : Int) (ac : Int) (lk : Int) (cl : Int) (li : Int) (da : Int) (kp : Int) (hP4 : 0 ≤ P ∧ P ≤ 4) (hso : ∀ i : Int, 0 ≤ i → i < 4 → 0 ≤ so i ∧ so i ≤ 3) (hB2 : 0 ≤ B ∧ B ≤ 2) (hbm : ∀ i : Int, 0 ≤ i → i < 2 → 0 ≤ bm i ∧ bm i < 256) (hdn : 0 ≤ dn ∧ dn ≤ 4) (hsv : (sv = 0 ∨ sv = 1) ∧ (sv = 1 → lwOK lw so bm P B dn)) (hsu : 0 ≤ su ∧ su < 256) (hli : 0 ≤ li ∧ li < 256) (hda : 0 ≤ da ∧ da < 256) {pg : Program} {ev : Env} {sx : State} {mm : MethodId} {args : Array Value} {below : List Frame} {meth : Method} {cd : Code} (M : MX pg sx mm args meth cd cX2_countFitting 5 (some .int) RX2 wsX2_countFitting) (hK : va_K D vwCl (TYS cB cI cZ cM) sx) {A : Nat → Prop} (hA : ∀ q : Nat, sx.heap.size ≤ q → A q) : ∀ (N : Nat) (n : Nat) (i : Int) (a : Int), (n < N) → (0 ≤ i ∧ i + n = 6561) → (a + cfF (lwS so bm P B dn) so P su li da n i = cfF (lwS so bm P B dn) so P su li da 6561 0) → ∀ (H : Heap) (locs : List Loc), va_P D vwCl [(ga, .inr (2, [.ref la, .ref fa, .ref ua, .int (zI m), .int (zI 1)])), (la, .inl (cB, 6561, .inl (zia (lwS so bm P B dn)))), (fa, .inl (cI, 6561, .inl (zia d))), (ua, .inl (cI, 3394, .inl (zia F))), (pa, .inr (1, [.ref sa, .int (zI P), .int (zI TH), .ref ba, .int (zI B), .int (zI ra), .int (zI su), .int (zI vw), .int (zI no), .int (zI dn), .int (zI ha)])), (sa, .inl (cI, 4, .inl (zia so))), (ba, .inl (cI, 2, .inl (zia bm))), (ma, .inr (0, [.int (zI hm), .int (zI dy), .int (zI ac), .int (zI lk), .int (zI cl), .int (zI li), .int (zI da), .int (zI kp)]))] H → va_D A [(ga, .inr (2, [.ref la, .ref fa, .ref ua, .int (zI m), .int (zI 1)])), (la, .inl (cB, 6561, .inl (zia (lwS so bm P B dn)))), (fa, .inl (cI, 6561, .inl (zia d))), (ua, .inl (cI, 3394, .inl (zia F))), (pa, .inr (1, [.ref sa, .int (zI P), .int (zI TH), .ref ba, .int (zI B), .int (zI ra), .int (zI su), .int (zI vw), .int (zI no), .int (zI dn), .int (zI ha)])), (sa, .inl (cI, 4, .inl (zia so))), (ba, .inl (cI, 2, .inl (zia bm))), (ma, .inr (0, [.int (zI hm), .int (zI dy), .int (zI ac), .int (zI lk), .int (zI cl), .int (zI li), .int (zI da), .int (zI kp)]))] → va_S A sx.heap H locs → ∀ ls : Array Slot, lv_has ls 5 [(0, .ref ga), (1, .ref pa), (2, .ref ma), (3, .int (zI a)), (4, .int (zI i))] → W pg l ev (rmW 5 0 0 114) sx mm args below meth cd H locs 0 0 (QWi below args sx A D (fun (r : Int32) (_u : Unit) => r = zI (cfF (lwS so bm P B dn) so P su li da 6561 0)) (fun (_u : Unit) => [(ga, .inr (2, [.ref la, .ref fa, .ref ua, .int (zI m), .int (zI 1)])), (la, .inl (cB, 6561, .inl (zia (lwS so bm P B dn)))), (fa, .inl (cI, 6561, .inl (zia d))), (ua, .inl (cI, 3394, .inl (zia F))), (pa, .inr (1, [.ref sa, .int (zI P), .int (zI TH), .ref ba, .int (zI B), .int (zI ra), .int (zI su), .int (zI vw), .int (zI no), .int (zI dn), .int (zI ha)])), (sa, .inl (cI, 4, .inl (zia so))), (ba, .inl (cI, 2, .inl (zia bm))), (ma, .inr (0, [.int (zI hm), .int (zI dy), .int (zI ac), .int (zI lk), .int (zI cl), .int (zI li), .int (zI da), .int (zI kp)]))]) 0 0) (F0 mm 10 ls []) := by
  intro N
  induction N with
  | zero => intro n i a hN; exact absurd hN (Nat.not_lt_zero _)
  | succ N ih =>
    intro n i a hN hi hv H locs hP hD hS ls hl
    obtain ⟨hx, hb, hr, hml, hown, hts, hlk, hN0⟩ := id M
    refine lv_iload hx hb dX2_countFitting_10 (lv_at hl 4 rfl) ?_
    refine lv_sipush (v := zI 6561) hx hb dX2_countFitting_12 (by decide) ?_
    refine z_icmp_ge (tgt := 46) hx hb dX2_countFitting_15 (by decide) (by omega) (fun c_15 => ?_) (fun c_15 => ?_)
    · skip
      refine lv_iload_n hx hb dX2_countFitting_46 rfl (lv_at hl 3 rfl) ?_
      obtain rfl : n = 0 := by omega
      exact wr_reti M dX2_countFitting_47 (u := ()) (congrArg zI (by rw [← hv, cfF]; omega)) hP hD hS
    obtain ⟨n, rfl⟩ : ∃ j : Nat, n = j + 1 := ⟨n - 1, by omega⟩
    have hlw := lwS_rng so bm P B dn
    refine lv_aload_n hx hb dX2_countFitting_18 rfl (lv_at hl 0 rfl) ?_
    refine lv_iload hx hb dX2_countFitting_19 (lv_at hl 4 rfl) ?_
    refine pc_V (As := [.int (zI i)]) (rest := []) M (c_X2_isLawful l D cB cI cZ cM _ ga la fa ua (lwS so bm P B dn) d F m 1 i (by first | assumption | omega) (by first | assumption | omega)) gX2_countFitting_X2_isLawful rfl ⟨rfl, hd_X2_isLawful⟩ ⟨Nat.le_of_ble_eq_true rfl, Nat.le_of_ble_eq_true rfl⟩ hK hP [0, 1, 2, 3] rfl 0 2 rfl rfl rfl hl.1 rfl rfl (Nat.le_of_ble_eq_true rfl) dX2_countFitting_21 ⟨Nat.le_of_ble_eq_true rfl, Nat.le_of_ble_eq_true rfl⟩ (fun r_21 h_21 => ?_)
    subst h_21
    refine z_if_eq (tgt := 40) hx hb dX2_countFitting_24 (by decide) (zb_bd _) (fun c_24 => ?_) (fun c_24 => ?_)
    · skip
      have c_24 := zb_f c_24
      refine z_iinc (a := i) (k := 4) (lv' := [(4, .int (zI (i + 1))), (0, .ref ga), (1, .ref pa), (2, .ref ma), (3, .int (zI a))]) hx hb dX2_countFitting_40 hl rfl (by decide) rfl (fun ls hl => ?_)
      refine lv_goto (tgt := 10) hx hb dX2_countFitting_43 (by decide) ?_
      exact ih n (i + 1) a (by omega) (by omega) (by rw [← hv, cfF, if_neg (fun q => c_24 ⟨by omega, q.1⟩)]; omega) _ _ hP hD hS _ (lv_sub hl [1, 2, 3, 4, 0] rfl)
    have c_24 := zb_t c_24
    refine lv_aload_n hx hb dX2_countFitting_27 rfl (lv_at hl 1 rfl) ?_
    refine lv_iload hx hb dX2_countFitting_28 (lv_at hl 4 rfl) ?_
    refine lv_aload_n hx hb dX2_countFitting_30 rfl (lv_at hl 2 rfl) ?_
    refine pc_VN (As := [.int (zI i), .ref ma]) (rest := []) M (c_X1_fitsLetter l D cB cI cZ cM _ pa sa ba so bm P TH B ra su vw no dn ha ma hm dy ac lk cl li da kp i (by first | assumption | omega) (by first | assumption | omega) (by first | assumption | omega) (by first | assumption | omega) (by first | assumption | omega) (by first | assumption | omega)) gX2_countFitting_X1_fitsLetter_n104 rfl (NW.at hN0 72 rfl) (by decide +kernel) (by decide +kernel) (by decide +kernel) hd_X1_fitsLetter ⟨Nat.le_of_ble_eq_true rfl, Nat.le_of_ble_eq_true rfl⟩ hK hP [4, 5, 6, 7] rfl 4 1 rfl rfl rfl hl.1 rfl rfl (Nat.le_of_ble_eq_true rfl) dX2_countFitting_31 ⟨Nat.le_of_ble_eq_true rfl, Nat.le_of_ble_eq_true rfl⟩ (fun r_31 h_31 => ?_)
    subst h_31
    refine z_if_eq (tgt := 40) hx hb dX2_countFitting_34 (by decide) (zb_bd _) (fun c_34 => ?_) (fun c_34 => ?_)
    · skip
      have c_34 := zb_f c_34
      refine z_iinc (a := i) (k := 4) (lv' := [(4, .int (zI (i + 1))), (0, .ref ga), (1, .ref pa), (2, .ref ma), (3, .int (zI a))]) hx hb dX2_countFitting_40 hl rfl (by decide) rfl (fun ls hl => ?_)
      refine lv_goto (tgt := 10) hx hb dX2_countFitting_43 (by decide) ?_
      exact ih n (i + 1) a (by omega) (by omega) (by rw [← hv, cfF, if_neg (fun q => c_34 q.2)]; omega) _ _ hP hD hS _ (lv_sub hl [1, 2, 3, 4, 0] rfl)
    have c_34 := zb_t c_34
    refine z_iinc (a := a) (k := 3) (lv' := [(3, .int (zI (a + 1))), (0, .ref ga), (1, .ref pa), (2, .ref ma), (4, .int (zI i))]) hx hb dX2_countFitting_37 hl rfl (by decide) rfl (fun ls hl => ?_)
    refine z_iinc (a := i) (k := 4) (lv' := [(4, .int (zI (i + 1))), (3, .int (zI (a + 1))), (0, .ref ga), (1, .ref pa), (2, .ref ma)]) hx hb dX2_countFitting_40 hl rfl (by decide) rfl (fun ls hl => ?_)
    refine lv_goto (tgt := 10) hx hb dX2_countFitting_43 (by decide) ?_
    exact ih n (i + 1) (a + 1) (by omega) (by omega) (by rw [← hv, cfF, if_pos ⟨c_24.2, c_34⟩]; omega) _ _ hP hD hS _ (lv_sub hl [2, 3, 4, 1, 0] rfl)
set_option maxHeartbeats 4000000 in
set_option maxRecDepth 100000 in
theorem c_X2_countFitting (l : Launch) (D : va_G) (cB cI cZ cM : ClassId) (Hp : Heap) (ga : Nat) (la : Nat) (fa : Nat) (ua : Nat) (lw : Int → Int) (d : Int → Int) (F : Int → Int) (m : Int) (sv : Int) (pa : Nat) (sa : Nat) (ba : Nat) (so : Int → Int) (bm : Int → Int) (P : Int) (TH : Int) (B : Int) (ra : Int) (su : Int) (vw : Int) (no : Int) (dn : Int) (ha : Int) (ma : Nat) (hm : Int) (dy : Int) (ac : Int) (lk : Int) (cl : Int) (li : Int) (da : Int) (kp : Int) (hP4 : 0 ≤ P ∧ P ≤ 4) (hso : ∀ i : Int, 0 ≤ i → i < 4 → 0 ≤ so i ∧ so i ≤ 3) (hB2 : 0 ≤ B ∧ B ≤ 2) (hbm : ∀ i : Int, 0 ≤ i → i < 2 → 0 ≤ bm i ∧ bm i < 256) (hdn : 0 ≤ dn ∧ dn ≤ 4) (hsv : (sv = 0 ∨ sv = 1) ∧ (sv = 1 → lwOK lw so bm P B dn)) (hsu : 0 ≤ su ∧ su < 256) (hli : 0 ≤ li ∧ li < 256) (hda : 0 ≤ da ∧ da < 256) : cWi l yX2_countFitting wsX2_countFitting (rmW 5 0 0 114) D (TYS cB cI cZ cM) [.ref ga, .ref pa, .ref ma] [(ga, .inr (2, [.ref la, .ref fa, .ref ua, .int (zI m), .int (zI sv)])), (la, .inl (cB, 6561, .inl (zia lw))), (fa, .inl (cI, 6561, .inl (zia d))), (ua, .inl (cI, 3394, .inl (zia F))), (pa, .inr (1, [.ref sa, .int (zI P), .int (zI TH), .ref ba, .int (zI B), .int (zI ra), .int (zI su), .int (zI vw), .int (zI no), .int (zI dn), .int (zI ha)])), (sa, .inl (cI, 4, .inl (zia so))), (ba, .inl (cI, 2, .inl (zia bm))), (ma, .inr (0, [.int (zI hm), .int (zI dy), .int (zI ac), .int (zI lk), .int (zI cl), .int (zI li), .int (zI da), .int (zI kp)]))] Hp (fun (r : Int32) (_u : Unit) => r = zI (cfF (lwS so bm P B dn) so P su li da 6561 0)) (fun (_u : Unit) => [(ga, .inr (2, [.ref la, .ref fa, .ref ua, .int (zI m), .int (zI 1)])), (la, .inl (cB, 6561, .inl (zia (lwS so bm P B dn)))), (fa, .inl (cI, 6561, .inl (zia d))), (ua, .inl (cI, 3394, .inl (zia F))), (pa, .inr (1, [.ref sa, .int (zI P), .int (zI TH), .ref ba, .int (zI B), .int (zI ra), .int (zI su), .int (zI vw), .int (zI no), .int (zI dn), .int (zI ha)])), (sa, .inl (cI, 4, .inl (zia so))), (ba, .inl (cI, 2, .inl (zia bm))), (ma, .inr (0, [.int (zI hm), .int (zI dy), .int (zI ac), .int (zI lk), .int (zI cl), .int (zI li), .int (zI da), .int (zI kp)]))]) 0 0 := by
  refine wr_starti (by decide) rfl (Nat.le_of_ble_eq_true rfl) ?_
  intro pg ev sx mm args below meth cd ls A M hP hD hS hA hK hl
  obtain ⟨hx, hb, hr, hml, hown, hts, hlk, hN0⟩ := id M
  have hl : lv_has ls 5 [(0, .ref ga), (1, .ref pa), (2, .ref ma)] := hl
  refine W.widen (k := 0) (n := 0) (Nat.zero_le _) (Nat.zero_le _) ?_
  refine lv_aload_n hx hb dX2_countFitting_0 rfl (lv_at hl 0 rfl) ?_
  refine lv_aload_n hx hb dX2_countFitting_1 rfl (lv_at hl 1 rfl) ?_
  refine wc_Vv (As := [.ref pa]) (rest := []) (wr := [(ma, .inr (0, [.int (zI hm), .int (zI dy), .int (zI ac), .int (zI lk), .int (zI cl), .int (zI li), .int (zI da), .int (zI kp)]))]) (ws' := (fun _u : Unit => [(ga, .inr (2, [.ref la, .ref fa, .ref ua, .int (zI m), .int (zI 1)])), (la, .inl (cB, 6561, .inl (zia (lwS so bm P B dn)))), (fa, .inl (cI, 6561, .inl (zia d))), (ua, .inl (cI, 3394, .inl (zia F))), (pa, .inr (1, [.ref sa, .int (zI P), .int (zI TH), .ref ba, .int (zI B), .int (zI ra), .int (zI su), .int (zI vw), .int (zI no), .int (zI dn), .int (zI ha)])), (sa, .inl (cI, 4, .inl (zia so))), (ba, .inl (cI, 2, .inl (zia bm))), (ma, .inr (0, [.int (zI hm), .int (zI dy), .int (zI ac), .int (zI lk), .int (zI cl), .int (zI li), .int (zI da), .int (zI kp)]))])) M (c_X2_survey l D cB cI cZ cM _ ga la fa ua lw d F m sv pa sa ba so bm P TH B ra su vw no dn ha (by first | assumption | omega) (by first | assumption | omega) (by first | assumption | omega) (by first | assumption | omega) (by first | assumption | omega) (by first | assumption | omega)) gX2_countFitting_X2_survey rfl ⟨rfl, hd_X2_survey⟩ ⟨Nat.le_of_ble_eq_true rfl, Nat.le_of_ble_eq_true rfl⟩ hK hP hD hS hA [0, 1, 2, 3, 4, 5, 6] [7] [1, 2, 3, 4, 5, 6, 7, 0] rfl rfl (by decide) (by decide) (by decide) (fun _ => rfl) 0 2 rfl rfl rfl hl.1 rfl rfl (Nat.le_of_ble_eq_true rfl) dX2_countFitting_2 ⟨Nat.le_of_ble_eq_true rfl, Nat.le_of_ble_eq_true rfl⟩ (by decide) (fun _u H locs h_2 hP hD hS => ?_)
  have hlw := lwS_rng so bm P B dn
  refine lv_iconst (v := zI 0) hx hb dX2_countFitting_5 rfl ?_
  refine lv_istore_n (lv' := [(3, .int (zI 0)), (0, .ref ga), (1, .ref pa), (2, .ref ma)]) hx hb dX2_countFitting_6 rfl hl (by decide) rfl (fun ls hl => ?_)
  refine lv_iconst (v := zI 0) hx hb dX2_countFitting_7 rfl ?_
  refine lv_istore (lv' := [(4, .int (zI 0)), (3, .int (zI 0)), (0, .ref ga), (1, .ref pa), (2, .ref ma)]) hx hb dX2_countFitting_8 hl (by decide) rfl (fun ls hl => ?_)
  exact lp_X2_countFitting_10 l D cB cI cZ cM ga la fa ua lw d F m sv pa sa ba so bm P TH B ra su vw no dn ha ma hm dy ac lk cl li da kp hP4 hso hB2 hbm hdn hsv hsu hli hda M hK hA (6561 + 1) 6561 0 0 (Nat.lt_succ_self _) (by omega) (by omega) _ _ hP hD hS _ (lv_sub hl [2, 3, 4, 1, 0] rfl)
set_option maxHeartbeats 4000000 in
set_option maxRecDepth 100000 in
theorem lp_X2_surePlace_12 (l : Launch) (D : va_G) (cB cI cZ cM : ClassId) (ga : Nat) (la : Nat) (fa : Nat) (ua : Nat) (lw : Int → Int) (d : Int → Int) (F : Int → Int) (m : Int) (sv : Int) (pa : Nat) (sa : Nat) (ba : Nat) (so : Int → Int) (bm : Int → Int) (P : Int) (TH : Int) (B : Int) (ra : Int) (su : Int) (vw : Int) (no : Int) (dn : Int) (ha : Int) (ma : Nat) (hm : Int) (dy : Int) (ac : Int) (lk : Int) (cl : Int) (li : Int) (da : Int) (kp : Int) (p : Int) (hP4 : 0 ≤ P ∧ P ≤ 4) (hso : ∀ i : Int, 0 ≤ i → i < 4 → 0 ≤ so i ∧ so i ≤ 3) (hB2 : 0 ≤ B ∧ B ≤ 2) (hbm : ∀ i : Int, 0 ≤ i → i < 2 → 0 ≤ bm i ∧ bm i < 256) (hdn : 0 ≤ dn ∧ dn ≤ 4) (hsv : (sv = 0 ∨ sv = 1) ∧ (sv = 1 → lwOK lw so bm P B dn)) (hsu : 0 ≤ su ∧ su < 256) (hli : 0 ≤ li ∧ li < 256) (hda : 0 ≤ da ∧ da < 256) (hp0 : -2147483648 ≤ p ∧ p < 2147483648) {pg : Program} {ev : Env} {sx : State} {mm : MethodId} {args : Array Value} {below : List Frame} {meth : Method} {cd : Code} (M : MX pg sx mm args meth cd cX2_surePlace 7 (some .int) RX2 wsX2_surePlace) (hK : va_K D vwCl (TYS cB cI cZ cM) sx) {A : Nat → Prop} (hA : ∀ q : Nat, sx.heap.size ≤ q → A q) : ∀ (N : Nat) (n : Nat) (i : Int) (a : Int), (n < N) → (0 ≤ i ∧ i + n = 6561) → (-9 ≤ a ∧ a ≤ 8) → (spF (lwS so bm P B dn) so P su li da p n i a = spF (lwS so bm P B dn) so P su li da p 6561 0 (-9)) → ∀ (H : Heap) (locs : List Loc), va_P D vwCl [(ga, .inr (2, [.ref la, .ref fa, .ref ua, .int (zI m), .int (zI 1)])), (la, .inl (cB, 6561, .inl (zia (lwS so bm P B dn)))), (fa, .inl (cI, 6561, .inl (zia d))), (ua, .inl (cI, 3394, .inl (zia F))), (pa, .inr (1, [.ref sa, .int (zI P), .int (zI TH), .ref ba, .int (zI B), .int (zI ra), .int (zI su), .int (zI vw), .int (zI no), .int (zI dn), .int (zI ha)])), (sa, .inl (cI, 4, .inl (zia so))), (ba, .inl (cI, 2, .inl (zia bm))), (ma, .inr (0, [.int (zI hm), .int (zI dy), .int (zI ac), .int (zI lk), .int (zI cl), .int (zI li), .int (zI da), .int (zI kp)]))] H → va_D A [(ga, .inr (2, [.ref la, .ref fa, .ref ua, .int (zI m), .int (zI 1)])), (la, .inl (cB, 6561, .inl (zia (lwS so bm P B dn)))), (fa, .inl (cI, 6561, .inl (zia d))), (ua, .inl (cI, 3394, .inl (zia F))), (pa, .inr (1, [.ref sa, .int (zI P), .int (zI TH), .ref ba, .int (zI B), .int (zI ra), .int (zI su), .int (zI vw), .int (zI no), .int (zI dn), .int (zI ha)])), (sa, .inl (cI, 4, .inl (zia so))), (ba, .inl (cI, 2, .inl (zia bm))), (ma, .inr (0, [.int (zI hm), .int (zI dy), .int (zI ac), .int (zI lk), .int (zI cl), .int (zI li), .int (zI da), .int (zI kp)]))] → va_S A sx.heap H locs → ∀ ls : Array Slot, lv_has ls 7 [(0, .ref ga), (1, .ref pa), (2, .ref ma), (3, .int (zI p)), (4, .int (zI a)), (5, .int (zI i))] → W pg l ev (rmW 5 0 0 114) sx mm args below meth cd H locs 0 0 (QWi below args sx A D (fun (r : Int32) (_u : Unit) => r = zI (spF (lwS so bm P B dn) so P su li da p 6561 0 (-9))) (fun (_u : Unit) => [(ga, .inr (2, [.ref la, .ref fa, .ref ua, .int (zI m), .int (zI 1)])), (la, .inl (cB, 6561, .inl (zia (lwS so bm P B dn)))), (fa, .inl (cI, 6561, .inl (zia d))), (ua, .inl (cI, 3394, .inl (zia F))), (pa, .inr (1, [.ref sa, .int (zI P), .int (zI TH), .ref ba, .int (zI B), .int (zI ra), .int (zI su), .int (zI vw), .int (zI no), .int (zI dn), .int (zI ha)])), (sa, .inl (cI, 4, .inl (zia so))), (ba, .inl (cI, 2, .inl (zia bm))), (ma, .inr (0, [.int (zI hm), .int (zI dy), .int (zI ac), .int (zI lk), .int (zI cl), .int (zI li), .int (zI da), .int (zI kp)]))]) 0 0) (F0 mm 12 ls []) := by
  intro N
  induction N with
  | zero => intro n i a hN; exact absurd hN (Nat.not_lt_zero _)
  | succ N ih =>
    intro n i a hN hi hab hv H locs hP hD hS ls hl
    obtain ⟨hx, hb, hr, hml, hown, hts, hlk, hN0⟩ := id M
    refine lv_iload hx hb dX2_surePlace_12 (lv_at hl 5 rfl) ?_
    refine lv_sipush (v := zI 6561) hx hb dX2_surePlace_14 (by decide) ?_
    refine z_icmp_ge (tgt := 74) hx hb dX2_surePlace_17 (by decide) (by omega) (fun c_17 => ?_) (fun c_17 => ?_)
    · skip
      refine lv_iload hx hb dX2_surePlace_74 (lv_at hl 4 rfl) ?_
      obtain rfl : n = 0 := by omega
      exact wr_reti M dX2_surePlace_76 (u := ()) (congrArg zI (by rw [← hv]; rfl)) hP hD hS
    obtain ⟨n, rfl⟩ : ∃ j : Nat, n = j + 1 := ⟨n - 1, by omega⟩
    have hlw := lwS_rng so bm P B dn
    refine lv_aload_n hx hb dX2_surePlace_20 rfl (lv_at hl 0 rfl) ?_
    refine lv_iload hx hb dX2_surePlace_21 (lv_at hl 5 rfl) ?_
    refine pc_V (As := [.int (zI i)]) (rest := []) M (c_X2_isLawful l D cB cI cZ cM _ ga la fa ua (lwS so bm P B dn) d F m 1 i (by first | assumption | omega) (by first | assumption | omega)) gX2_surePlace_X2_isLawful rfl ⟨rfl, hd_X2_isLawful⟩ ⟨Nat.le_of_ble_eq_true rfl, Nat.le_of_ble_eq_true rfl⟩ hK hP [0, 1, 2, 3] rfl 0 2 rfl rfl rfl hl.1 rfl rfl (Nat.le_of_ble_eq_true rfl) dX2_surePlace_23 ⟨Nat.le_of_ble_eq_true rfl, Nat.le_of_ble_eq_true rfl⟩ (fun r_23 h_23 => ?_)
    subst h_23
    refine z_if_eq (tgt := 68) hx hb dX2_surePlace_26 (by decide) (zb_bd _) (fun c_26 => ?_) (fun c_26 => ?_)
    · skip
      have c_26 := zb_f c_26
      refine z_iinc (a := i) (k := 5) (lv' := [(5, .int (zI (i + 1))), (0, .ref ga), (1, .ref pa), (2, .ref ma), (3, .int (zI p)), (4, .int (zI a))]) hx hb dX2_surePlace_68 hl rfl (by decide) rfl (fun ls hl => ?_)
      refine lv_goto (tgt := 12) hx hb dX2_surePlace_71 (by decide) ?_
      exact ih n (i + 1) a (by omega) (by omega) (by omega) (by rw [← hv, spF, if_neg (fun q => c_26 ⟨by omega, q.1⟩)]) _ _ hP hD hS _ (lv_sub hl [1, 2, 3, 4, 5, 0] rfl)
    have c_26 := zb_t c_26
    refine lv_aload_n hx hb dX2_surePlace_29 rfl (lv_at hl 1 rfl) ?_
    refine lv_iload hx hb dX2_surePlace_30 (lv_at hl 5 rfl) ?_
    refine lv_aload_n hx hb dX2_surePlace_32 rfl (lv_at hl 2 rfl) ?_
    refine pc_VN (As := [.int (zI i), .ref ma]) (rest := []) M (c_X1_fitsLetter l D cB cI cZ cM _ pa sa ba so bm P TH B ra su vw no dn ha ma hm dy ac lk cl li da kp i (by first | assumption | omega) (by first | assumption | omega) (by first | assumption | omega) (by first | assumption | omega) (by first | assumption | omega) (by first | assumption | omega)) gX2_surePlace_X1_fitsLetter_n104 rfl (NW.at hN0 72 rfl) (by decide +kernel) (by decide +kernel) (by decide +kernel) hd_X1_fitsLetter ⟨Nat.le_of_ble_eq_true rfl, Nat.le_of_ble_eq_true rfl⟩ hK hP [4, 5, 6, 7] rfl 4 1 rfl rfl rfl hl.1 rfl rfl (Nat.le_of_ble_eq_true rfl) dX2_surePlace_33 ⟨Nat.le_of_ble_eq_true rfl, Nat.le_of_ble_eq_true rfl⟩ (fun r_33 h_33 => ?_)
    subst h_33
    refine z_if_eq (tgt := 68) hx hb dX2_surePlace_36 (by decide) (zb_bd _) (fun c_36 => ?_) (fun c_36 => ?_)
    · skip
      have c_36 := zb_f c_36
      refine z_iinc (a := i) (k := 5) (lv' := [(5, .int (zI (i + 1))), (0, .ref ga), (1, .ref pa), (2, .ref ma), (3, .int (zI p)), (4, .int (zI a))]) hx hb dX2_surePlace_68 hl rfl (by decide) rfl (fun ls hl => ?_)
      refine lv_goto (tgt := 12) hx hb dX2_surePlace_71 (by decide) ?_
      exact ih n (i + 1) a (by omega) (by omega) (by omega) (by rw [← hv, spF, if_neg (fun q => c_36 q.2)]) _ _ hP hD hS _ (lv_sub hl [1, 2, 3, 4, 5, 0] rfl)
    have c_36 := zb_t c_36
    refine lv_iload hx hb dX2_surePlace_39 (lv_at hl 5 rfl) ?_
    refine lv_iload_n hx hb dX2_surePlace_41 rfl (lv_at hl 3 rfl) ?_
    refine pc_SN (As := [.int (zI i), .int (zI p)]) (rest := []) M (c_X4_placeIn l D cB cI cZ cM _ i p (by first | assumption | omega) (by first | assumption | omega)) gX2_surePlace_X4_placeIn_n53 rfl (NW.at hN0 62 rfl) (by decide +kernel) (by decide +kernel) hd_X4_placeIn ⟨Nat.le_of_ble_eq_true rfl, Nat.le_of_ble_eq_true rfl⟩ hK hP [] rfl hl.1 rfl rfl (Nat.le_of_ble_eq_true rfl) dX2_surePlace_42 ⟨Nat.le_of_ble_eq_true rfl, Nat.le_of_ble_eq_true rfl⟩ (fun r_42 h_42 => ?_)
    subst h_42
    have hpl := pl_rng i p
    refine lv_istore (lv' := [(6, .int (zI (pl i p))), (0, .ref ga), (1, .ref pa), (2, .ref ma), (3, .int (zI p)), (4, .int (zI a)), (5, .int (zI i))]) hx hb dX2_surePlace_45 hl (by decide) rfl (fun ls hl => ?_)
    refine lv_iload hx hb dX2_surePlace_47 (lv_at hl 5 rfl) ?_
    refine lv_bipush (v := zI (-9)) hx hb dX2_surePlace_49 (by decide) ?_
    refine z_icmp_eq (tgt := 64) hx hb dX2_surePlace_51 (by decide) (by omega) (fun c_51 => ?_) (fun c_51 => ?_)
    · skip
      refine lv_iload hx hb dX2_surePlace_64 (lv_at hl 0 rfl) ?_
      refine lv_istore (lv' := [(4, .int (zI (pl i p))), (6, .int (zI (pl i p))), (0, .ref ga), (1, .ref pa), (2, .ref ma), (3, .int (zI p)), (5, .int (zI i))]) hx hb dX2_surePlace_66 hl (by decide) rfl (fun ls hl => ?_)
      refine z_iinc (a := i) (k := 6) (lv' := [(5, .int (zI (i + 1))), (4, .int (zI (pl i p))), (6, .int (zI (pl i p))), (0, .ref ga), (1, .ref pa), (2, .ref ma), (3, .int (zI p))]) hx hb dX2_surePlace_68 hl rfl (by decide) rfl (fun ls hl => ?_)
      refine lv_goto (tgt := 12) hx hb dX2_surePlace_71 (by decide) ?_
      exact ih n (i + 1) (pl i p) (by omega) (by omega) (by omega) (by rw [← hv, spF, if_pos ⟨c_26.2, c_36⟩, if_neg (fun q => q.1 c_51)]) _ _ hP hD hS _ (lv_sub hl [3, 4, 5, 6, 1, 0] rfl)
    refine lv_iload hx hb dX2_surePlace_54 (lv_at hl 5 rfl) ?_
    refine lv_iload hx hb dX2_surePlace_56 (lv_at hl 0 rfl) ?_
    refine z_icmp_eq (tgt := 64) hx hb dX2_surePlace_58 (by decide) (by omega) (fun c_58 => ?_) (fun c_58 => ?_)
    · skip
      refine lv_iload hx hb dX2_surePlace_64 (lv_at hl 0 rfl) ?_
      refine lv_istore (lv' := [(4, .int (zI (pl i p))), (6, .int (zI (pl i p))), (0, .ref ga), (1, .ref pa), (2, .ref ma), (3, .int (zI p)), (5, .int (zI i))]) hx hb dX2_surePlace_66 hl (by decide) rfl (fun ls hl => ?_)
      refine z_iinc (a := i) (k := 6) (lv' := [(5, .int (zI (i + 1))), (4, .int (zI (pl i p))), (6, .int (zI (pl i p))), (0, .ref ga), (1, .ref pa), (2, .ref ma), (3, .int (zI p))]) hx hb dX2_surePlace_68 hl rfl (by decide) rfl (fun ls hl => ?_)
      refine lv_goto (tgt := 12) hx hb dX2_surePlace_71 (by decide) ?_
      exact ih n (i + 1) (pl i p) (by omega) (by omega) (by omega) (by rw [← hv, spF, if_pos ⟨c_26.2, c_36⟩, if_neg (fun q => q.2 c_58)]) _ _ hP hD hS _ (lv_sub hl [3, 4, 5, 6, 1, 0] rfl)
    refine lv_bipush (v := zI (-9)) hx hb dX2_surePlace_61 (by decide) ?_
    exact wr_reti M dX2_surePlace_63 (u := ()) (congrArg zI (by rw [← hv, spF, if_pos ⟨c_26.2, c_36⟩, if_pos ⟨c_51, c_58⟩])) hP hD hS
set_option maxHeartbeats 4000000 in
set_option maxRecDepth 100000 in
theorem c_X2_surePlace (l : Launch) (D : va_G) (cB cI cZ cM : ClassId) (Hp : Heap) (ga : Nat) (la : Nat) (fa : Nat) (ua : Nat) (lw : Int → Int) (d : Int → Int) (F : Int → Int) (m : Int) (sv : Int) (pa : Nat) (sa : Nat) (ba : Nat) (so : Int → Int) (bm : Int → Int) (P : Int) (TH : Int) (B : Int) (ra : Int) (su : Int) (vw : Int) (no : Int) (dn : Int) (ha : Int) (ma : Nat) (hm : Int) (dy : Int) (ac : Int) (lk : Int) (cl : Int) (li : Int) (da : Int) (kp : Int) (p : Int) (hP4 : 0 ≤ P ∧ P ≤ 4) (hso : ∀ i : Int, 0 ≤ i → i < 4 → 0 ≤ so i ∧ so i ≤ 3) (hB2 : 0 ≤ B ∧ B ≤ 2) (hbm : ∀ i : Int, 0 ≤ i → i < 2 → 0 ≤ bm i ∧ bm i < 256) (hdn : 0 ≤ dn ∧ dn ≤ 4) (hsv : (sv = 0 ∨ sv = 1) ∧ (sv = 1 → lwOK lw so bm P B dn)) (hsu : 0 ≤ su ∧ su < 256) (hli : 0 ≤ li ∧ li < 256) (hda : 0 ≤ da ∧ da < 256) (hp0 : -2147483648 ≤ p ∧ p < 2147483648) : cWi l yX2_surePlace wsX2_surePlace (rmW 5 0 0 114) D (TYS cB cI cZ cM) [.ref ga, .ref pa, .ref ma, .int (zI p)] [(ga, .inr (2, [.ref la, .ref fa, .ref ua, .int (zI m), .int (zI sv)])), (la, .inl (cB, 6561, .inl (zia lw))), (fa, .inl (cI, 6561, .inl (zia d))), (ua, .inl (cI, 3394, .inl (zia F))), (pa, .inr (1, [.ref sa, .int (zI P), .int (zI TH), .ref ba, .int (zI B), .int (zI ra), .int (zI su), .int (zI vw), .int (zI no), .int (zI dn), .int (zI ha)])), (sa, .inl (cI, 4, .inl (zia so))), (ba, .inl (cI, 2, .inl (zia bm))), (ma, .inr (0, [.int (zI hm), .int (zI dy), .int (zI ac), .int (zI lk), .int (zI cl), .int (zI li), .int (zI da), .int (zI kp)]))] Hp (fun (r : Int32) (_u : Unit) => r = zI (spF (lwS so bm P B dn) so P su li da p 6561 0 (-9))) (fun (_u : Unit) => [(ga, .inr (2, [.ref la, .ref fa, .ref ua, .int (zI m), .int (zI 1)])), (la, .inl (cB, 6561, .inl (zia (lwS so bm P B dn)))), (fa, .inl (cI, 6561, .inl (zia d))), (ua, .inl (cI, 3394, .inl (zia F))), (pa, .inr (1, [.ref sa, .int (zI P), .int (zI TH), .ref ba, .int (zI B), .int (zI ra), .int (zI su), .int (zI vw), .int (zI no), .int (zI dn), .int (zI ha)])), (sa, .inl (cI, 4, .inl (zia so))), (ba, .inl (cI, 2, .inl (zia bm))), (ma, .inr (0, [.int (zI hm), .int (zI dy), .int (zI ac), .int (zI lk), .int (zI cl), .int (zI li), .int (zI da), .int (zI kp)]))]) 0 0 := by
  refine wr_starti (by decide) rfl (Nat.le_of_ble_eq_true rfl) ?_
  intro pg ev sx mm args below meth cd ls A M hP hD hS hA hK hl
  obtain ⟨hx, hb, hr, hml, hown, hts, hlk, hN0⟩ := id M
  have hl : lv_has ls 7 [(0, .ref ga), (1, .ref pa), (2, .ref ma), (3, .int (zI p))] := hl
  refine W.widen (k := 0) (n := 0) (Nat.zero_le _) (Nat.zero_le _) ?_
  refine lv_aload_n hx hb dX2_surePlace_0 rfl (lv_at hl 0 rfl) ?_
  refine lv_aload_n hx hb dX2_surePlace_1 rfl (lv_at hl 1 rfl) ?_
  refine wc_Vv (As := [.ref pa]) (rest := []) (wr := [(ma, .inr (0, [.int (zI hm), .int (zI dy), .int (zI ac), .int (zI lk), .int (zI cl), .int (zI li), .int (zI da), .int (zI kp)]))]) (ws' := (fun _u : Unit => [(ga, .inr (2, [.ref la, .ref fa, .ref ua, .int (zI m), .int (zI 1)])), (la, .inl (cB, 6561, .inl (zia (lwS so bm P B dn)))), (fa, .inl (cI, 6561, .inl (zia d))), (ua, .inl (cI, 3394, .inl (zia F))), (pa, .inr (1, [.ref sa, .int (zI P), .int (zI TH), .ref ba, .int (zI B), .int (zI ra), .int (zI su), .int (zI vw), .int (zI no), .int (zI dn), .int (zI ha)])), (sa, .inl (cI, 4, .inl (zia so))), (ba, .inl (cI, 2, .inl (zia bm))), (ma, .inr (0, [.int (zI hm), .int (zI dy), .int (zI ac), .int (zI lk), .int (zI cl), .int (zI li), .int (zI da), .int (zI kp)]))])) M (c_X2_survey l D cB cI cZ cM _ ga la fa ua lw d F m sv pa sa ba so bm P TH B ra su vw no dn ha (by first | assumption | omega) (by first | assumption | omega) (by first | assumption | omega) (by first | assumption | omega) (by first | assumption | omega) (by first | assumption | omega)) gX2_surePlace_X2_survey rfl ⟨rfl, hd_X2_survey⟩ ⟨Nat.le_of_ble_eq_true rfl, Nat.le_of_ble_eq_true rfl⟩ hK hP hD hS hA [0, 1, 2, 3, 4, 5, 6] [7] [1, 2, 3, 4, 5, 6, 7, 0] rfl rfl (by decide) (by decide) (by decide) (fun _ => rfl) 0 2 rfl rfl rfl hl.1 rfl rfl (Nat.le_of_ble_eq_true rfl) dX2_surePlace_2 ⟨Nat.le_of_ble_eq_true rfl, Nat.le_of_ble_eq_true rfl⟩ (by decide) (fun _u H locs h_2 hP hD hS => ?_)
  have hlw := lwS_rng so bm P B dn
  refine lv_bipush (v := zI (-9)) hx hb dX2_surePlace_5 (by decide) ?_
  refine lv_istore (lv' := [(4, .int (zI (-9))), (0, .ref ga), (1, .ref pa), (2, .ref ma), (3, .int (zI p))]) hx hb dX2_surePlace_7 hl (by decide) rfl (fun ls hl => ?_)
  refine lv_iconst (v := zI 0) hx hb dX2_surePlace_9 rfl ?_
  refine lv_istore (lv' := [(5, .int (zI 0)), (4, .int (zI (-9))), (0, .ref ga), (1, .ref pa), (2, .ref ma), (3, .int (zI p))]) hx hb dX2_surePlace_10 hl (by decide) rfl (fun ls hl => ?_)
  exact lp_X2_surePlace_12 l D cB cI cZ cM ga la fa ua lw d F m sv pa sa ba so bm P TH B ra su vw no dn ha ma hm dy ac lk cl li da kp p hP4 hso hB2 hbm hdn hsv hsu hli hda hp0 M hK hA (6561 + 1) 6561 0 (-9) (Nat.lt_succ_self _) (by omega) (by omega) (by rfl) _ _ hP hD hS _ (lv_sub hl [2, 3, 4, 5, 1, 0] rfl)
