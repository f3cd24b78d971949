theorem inc_X2_farTo_2 : ∀ w ∈ wsX20, w ∈ wsX2_farTo := by decide +kernel
theorem inc_X2_isLawful_2 : ∀ w ∈ wsX20, w ∈ wsX2_isLawful := by decide +kernel
theorem inc_X2_reach_2 : ∀ w ∈ wsX20, w ∈ wsX2_reach := by decide +kernel
theorem inc_X2_spread_2 : ∀ w ∈ wsX20, w ∈ wsX2_spread := by decide +kernel
theorem inc_X2_spreadByOneAct_1 : ∀ w ∈ wsX10, w ∈ wsX2_spreadByOneAct := by decide +kernel
theorem inc_X2_spreadFrom_2 : ∀ w ∈ wsX20, w ∈ wsX2_spreadFrom := by decide +kernel
theorem inc_X2_survey_1 : ∀ w ∈ wsX10, w ∈ wsX2_survey := by decide +kernel
theorem inc_X2_survey_2 : ∀ w ∈ wsX20, w ∈ wsX2_survey := by decide +kernel
theorem hd_X1_allows : yX1_allows.cls ≠ "java/lang/invoke/MethodHandle" ∧ yX1_allows.cls ≠ "java/lang/invoke/VarHandle" ∧ (parseMethodDescriptor yX1_allows.desc).map (fun d => d.parameters.length) = some 1 := by decide +kernel
theorem hd_X2_farTo : yX2_farTo.cls ≠ "java/lang/invoke/MethodHandle" ∧ yX2_farTo.cls ≠ "java/lang/invoke/VarHandle" ∧ (parseMethodDescriptor yX2_farTo.desc).map (fun d => d.parameters.length) = some 1 := by decide +kernel
theorem hd_X2_isLawful : yX2_isLawful.cls ≠ "java/lang/invoke/MethodHandle" ∧ yX2_isLawful.cls ≠ "java/lang/invoke/VarHandle" ∧ (parseMethodDescriptor yX2_isLawful.desc).map (fun d => d.parameters.length) = some 1 := by decide +kernel
theorem hd_X2_reach : yX2_reach.cls ≠ "java/lang/invoke/MethodHandle" ∧ yX2_reach.cls ≠ "java/lang/invoke/VarHandle" ∧ (parseMethodDescriptor yX2_reach.desc).map (fun d => d.parameters.length) = some 2 := by decide +kernel
theorem hd_X2_spread : yX2_spread.cls ≠ "java/lang/invoke/MethodHandle" ∧ yX2_spread.cls ≠ "java/lang/invoke/VarHandle" ∧ (parseMethodDescriptor yX2_spread.desc).map (fun d => d.parameters.length) = some 3 := by decide +kernel
theorem hd_X2_spreadByOneAct : yX2_spreadByOneAct.cls ≠ "java/lang/invoke/MethodHandle" ∧ yX2_spreadByOneAct.cls ≠ "java/lang/invoke/VarHandle" ∧ (parseMethodDescriptor yX2_spreadByOneAct.desc).map (fun d => d.parameters.length) = some 3 := by decide +kernel
theorem hd_X4_moved : yX4_moved.cls ≠ "java/lang/invoke/MethodHandle" ∧ yX4_moved.cls ≠ "java/lang/invoke/VarHandle" ∧ (parseMethodDescriptor yX4_moved.desc).map (fun d => d.parameters.length) = some 3 := by decide +kernel
set_option maxHeartbeats 4000000 in
set_option maxRecDepth 100000 in
theorem c_X2_isLawful (l : Launch) (D : va_G) (cB cI cZ cM : ClassId) (Hp : Heap) (ga : Nat) (la : Nat) (fa : Nat) (ua : Nat) (lw : Int → Int) (d : Int → Int) (F : Int → Int) (m : Int) (sv : Int) (h : Int) (hlw : ∀ j : Int, 0 ≤ j → j < 6561 → 0 ≤ lw j ∧ lw j ≤ 1) (hh0 : -2147483648 ≤ h ∧ h < 2147483648) : cP l yX2_isLawful wsX2_isLawful 0 0 D (TYS cB cI cZ cM) [.ref ga, .int (zI h)] [(ga, .inr (2, [.ref la, .ref fa, .ref ua, .int (zI m), .int (zI sv)])), (la, .inl (cB, 6561, .inl (zia lw))), (fa, .inl (cI, 6561, .inl (zia d))), (ua, .inl (cI, 3394, .inl (zia F)))] Hp (fun r => r = zI (zb ((0 ≤ h ∧ h < 6561) ∧ lw h = 1))) := by
  refine pu_start (by decide) rfl (Nat.le_of_ble_eq_true rfl) ?_
  intro pg ev sx mm args below meth cd ls M hP hK hl
  obtain ⟨hx, hb, hr, hml, hown, hts, hlk, hN0⟩ := id M
  have hl : lv_has ls 2 [(0, .ref ga), (1, .int (zI h))] := hl
  refine lv_iload_n hx hb dX2_isLawful_0 rfl (lv_at hl 1 rfl) ?_
  refine z_if_lt (tgt := 25) hx hb dX2_isLawful_1 (by decide) (by omega) (fun c_1 => ?_) (fun c_1 => ?_)
  · skip
    refine lv_iconst (v := zI 0) hx hb dX2_isLawful_25 rfl ?_
    exact pu_retz M (rfl) dX2_isLawful_26 (congrArg zI (by unfold zb; split <;> omega))
  refine lv_iload_n hx hb dX2_isLawful_4 rfl (lv_at hl 1 rfl) ?_
  refine lv_sipush (v := zI 6561) hx hb dX2_isLawful_5 (by decide) ?_
  refine z_icmp_ge (tgt := 25) hx hb dX2_isLawful_8 (by decide) (by omega) (fun c_8 => ?_) (fun c_8 => ?_)
  · skip
    refine lv_iconst (v := zI 0) hx hb dX2_isLawful_25 rfl ?_
    exact pu_retz M (rfl) dX2_isLawful_26 (congrArg zI (by unfold zb; split <;> omega))
  refine lv_aload_n hx hb dX2_isLawful_11 rfl (lv_at hl 0 rfl) ?_
  refine va_get (D := D) (ci := 2) (C := RX2) (T := TX2) (N := 5) hx hb hts inc_X2_isLawful_2 hown hK hP 0 rfl rfl 0 (by decide) (hts (.fieldLink RX2 11 "BedHouse$Search" "lawful" "[B") (by decide +kernel)) (fun _ h9 => h9) rfl dX2_isLawful_12 ?_
  refine lv_iload_n hx hb dX2_isLawful_15 rfl (lv_at hl 1 rfl) ?_
  refine z_bald hx hb hK hP 1 0 rfl rfl (Nat.le_of_ble_eq_true rfl) dX2_isLawful_16 (by omega) ?_
  refine lv_iconst (v := zI 1) hx hb dX2_isLawful_17 rfl ?_
  have hz := hlw h (by omega) (by omega)
  refine z_icmp_ne (tgt := 25) hx hb dX2_isLawful_18 (by decide) (by omega) (fun c_18 => ?_) (fun c_18 => ?_)
  · skip
    refine lv_iconst (v := zI 0) hx hb dX2_isLawful_25 rfl ?_
    exact pu_retz M (rfl) dX2_isLawful_26 (congrArg zI (by unfold zb; split <;> omega))
  refine lv_iconst (v := zI 1) hx hb dX2_isLawful_21 rfl ?_
  refine lv_goto (tgt := 26) hx hb dX2_isLawful_22 (by decide) ?_
  exact pu_retz M (rfl) dX2_isLawful_26 (congrArg zI (by unfold zb; split <;> omega))
set_option maxHeartbeats 4000000 in
set_option maxRecDepth 100000 in
theorem c_X2_farTo (l : Launch) (D : va_G) (cB cI cZ cM : ClassId) (Hp : Heap) (ga : Nat) (la : Nat) (fa : Nat) (ua : Nat) (lw : Int → Int) (d : Int → Int) (F : Int → Int) (m : Int) (sv : Int) (h : Int) (hh0 : -2147483648 ≤ h ∧ h < 2147483648) : cP l yX2_farTo wsX2_farTo 0 0 D (TYS cB cI cZ cM) [.ref ga, .int (zI h)] [(ga, .inr (2, [.ref la, .ref fa, .ref ua, .int (zI m), .int (zI sv)])), (la, .inl (cB, 6561, .inl (zia lw))), (fa, .inl (cI, 6561, .inl (zia d))), (ua, .inl (cI, 3394, .inl (zia F)))] Hp (fun r => r = zI (ftA d h)) := by
  refine pu_start (by decide) rfl (Nat.le_of_ble_eq_true rfl) ?_
  intro pg ev sx mm args below meth cd ls M hP hK hl
  obtain ⟨hx, hb, hr, hml, hown, hts, hlk, hN0⟩ := id M
  have hl : lv_has ls 2 [(0, .ref ga), (1, .int (zI h))] := hl
  refine lv_iload_n hx hb dX2_farTo_0 rfl (lv_at hl 1 rfl) ?_
  refine z_if_lt (tgt := 20) hx hb dX2_farTo_1 (by decide) (by omega) (fun c_1 => ?_) (fun c_1 => ?_)
  · skip
    refine lv_bipush (v := zI (-9)) hx hb dX2_farTo_20 (by decide) ?_
    exact pu_ret M dX2_farTo_22 (congrArg zI (by unfold ftA; rw [if_neg (by omega)]))
  refine lv_iload_n hx hb dX2_farTo_4 rfl (lv_at hl 1 rfl) ?_
  refine lv_sipush (v := zI 6561) hx hb dX2_farTo_5 (by decide) ?_
  refine z_icmp_ge (tgt := 20) hx hb dX2_farTo_8 (by decide) (by omega) (fun c_8 => ?_) (fun c_8 => ?_)
  · skip
    refine lv_bipush (v := zI (-9)) hx hb dX2_farTo_20 (by decide) ?_
    exact pu_ret M dX2_farTo_22 (congrArg zI (by unfold ftA; rw [if_neg (by omega)]))
  refine lv_aload_n hx hb dX2_farTo_11 rfl (lv_at hl 0 rfl) ?_
  refine va_get (D := D) (ci := 2) (C := RX2) (T := TX2) (N := 5) hx hb hts inc_X2_farTo_2 hown hK hP 0 rfl rfl 1 (by decide) (hts (.fieldLink RX2 15 "BedHouse$Search" "far" "[I") (by decide +kernel)) (fun _ h9 => h9) rfl dX2_farTo_12 ?_
  refine lv_iload_n hx hb dX2_farTo_15 rfl (lv_at hl 1 rfl) ?_
  refine z_iald hx hb hK hP 2 1 rfl rfl (Nat.le_of_ble_eq_true rfl) dX2_farTo_16 (by omega) ?_
  refine lv_goto (tgt := 22) hx hb dX2_farTo_17 (by decide) ?_
  exact pu_ret M dX2_farTo_22 (congrArg zI (by unfold ftA; rw [if_pos (by omega)]))
set_option maxHeartbeats 4000000 in
set_option maxRecDepth 100000 in
theorem c_X2_reach (l : Launch) (D : va_G) (cB cI cZ cM : ClassId) (Hp : Heap) (ga : Nat) (la : Nat) (fa : Nat) (ua : Nat) (lw : Int → Int) (d : Int → Int) (F : Int → Int) (m : Int) (sv : Int) (h : Int) (n : Int) (hlw : ∀ j : Int, 0 ≤ j → j < 6561 → 0 ≤ lw j ∧ lw j ≤ 1) (hq : qok (F, m, d)) (hh0 : -2147483648 ≤ h ∧ h < 2147483648) (hn : 0 ≤ n ∧ n ≤ m) : cWv l yX2_reach wsX2_reach (rmW 1 0 0 21) D (TYS cB cI cZ cM) [.ref ga, .int (zI h), .int (zI n)] [(ga, .inr (2, [.ref la, .ref fa, .ref ua, .int (zI m), .int (zI sv)])), (la, .inl (cB, 6561, .inl (zia lw))), (fa, .inl (cI, 6561, .inl (zia d))), (ua, .inl (cI, 3394, .inl (zia F)))] Hp (fun (u : BQ) => u = rch lw h n (F, m, d)) (fun (u : BQ) => [(ga, .inr (2, [.ref la, .ref fa, .ref ua, .int (zI u.2.1), .int (zI sv)])), (la, .inl (cB, 6561, .inl (zia lw))), (fa, .inl (cI, 6561, .inl (zia u.2.2))), (ua, .inl (cI, 3394, .inl (zia u.1)))]) 0 0 := by
  refine wr_startv (by decide) rfl (Nat.le_of_ble_eq_true rfl) ?_
  intro pg ev sx mm args below meth cd ls A M hP hD hS hA hK hl
  obtain ⟨hx, hb, hr, hml, hown, hts, hlk, hN0⟩ := id M
  have hl : lv_has ls 3 [(0, .ref ga), (1, .int (zI h)), (2, .int (zI n))] := hl
  refine W.widen (k := 0) (n := 0) (Nat.zero_le _) (Nat.zero_le _) ?_
  have hdb := hq.2.2
  have hmb := hq.1
  dsimp only at hdb hmb
  refine lv_aload_n hx hb dX2_reach_0 rfl (lv_at hl 0 rfl) ?_
  refine lv_iload_n hx hb dX2_reach_1 rfl (lv_at hl 1 rfl) ?_
  refine pc_V (As := [.int (zI h)]) (rest := []) M (c_X2_isLawful l D cB cI cZ cM _ ga la fa ua lw d F m sv h (by first | assumption | omega) (by first | assumption | omega)) gX2_reach_X2_isLawful rfl ⟨rfl, hd_X2_isLawful⟩ ⟨Nat.le_of_ble_eq_true rfl, Nat.le_of_ble_eq_true rfl⟩ hK hP [0, 1, 2, 3] rfl 0 2 rfl rfl rfl hl.1 rfl rfl (Nat.le_of_ble_eq_true rfl) dX2_reach_2 ⟨Nat.le_of_ble_eq_true rfl, Nat.le_of_ble_eq_true rfl⟩ (fun r_2 h_2 => ?_)
  subst h_2
  refine z_if_eq (tgt := 56) hx hb dX2_reach_5 (by decide) (zb_bd _) (fun c_5 => ?_) (fun c_5 => ?_)
  · skip
    have c_5 := zb_f c_5
    exact wr_retv M dX2_reach_56 (u := (F, m, d)) (by unfold rch; rw [if_neg (fun q => c_5 q.1)]) hP hD hS
  have c_5 := zb_t c_5
  refine lv_aload_n hx hb dX2_reach_8 rfl (lv_at hl 0 rfl) ?_
  refine va_get (D := D) (ci := 2) (C := RX2) (T := TX2) (N := 5) hx hb hts inc_X2_reach_2 hown hK hP 0 rfl rfl 1 (by decide) (hts (.fieldLink RX2 15 "BedHouse$Search" "far" "[I") (by decide +kernel)) (fun _ h9 => h9) rfl dX2_reach_9 ?_
  refine lv_iload_n hx hb dX2_reach_12 rfl (lv_at hl 1 rfl) ?_
  refine z_iald hx hb hK hP 2 1 rfl rfl (Nat.le_of_ble_eq_true rfl) dX2_reach_13 (by omega) ?_
  have hz := hdb h (by omega) (by omega)
  refine lv_bipush (v := zI (-9)) hx hb dX2_reach_14 (by decide) ?_
  refine z_icmp_ne (tgt := 56) hx hb dX2_reach_16 (by decide) (by omega) (fun c_16 => ?_) (fun c_16 => ?_)
  · skip
    exact wr_retv M dX2_reach_56 (u := (F, m, d)) (by unfold rch; rw [if_neg (fun q => c_16 q.2.1)]) hP hD hS
  refine lv_aload_n hx hb dX2_reach_19 rfl (lv_at hl 0 rfl) ?_
  refine va_get (D := D) (ci := 2) (C := RX2) (T := TX2) (N := 5) hx hb hts inc_X2_reach_2 hown hK hP 0 rfl rfl 3 (by decide) (hts (.fieldLink RX2 44 "BedHouse$Search" "reached" "I") (by decide +kernel)) (fun _ h9 => h9) rfl dX2_reach_20 ?_
  refine lv_sipush (v := zI 3394) hx hb dX2_reach_23 (by decide) ?_
  refine z_icmp_ge (tgt := 56) hx hb dX2_reach_26 (by decide) (by omega) (fun c_26 => ?_) (fun c_26 => ?_)
  · skip
    exact wr_retv M dX2_reach_56 (u := (F, m, d)) (by unfold rch; rw [if_neg (fun q => by have := q.2.2; dsimp only at this; omega)]) hP hD hS
  refine lv_aload_n hx hb dX2_reach_29 rfl (lv_at hl 0 rfl) ?_
  refine va_get (D := D) (ci := 2) (C := RX2) (T := TX2) (N := 5) hx hb hts inc_X2_reach_2 hown hK hP 0 rfl rfl 1 (by decide) (hts (.fieldLink RX2 15 "BedHouse$Search" "far" "[I") (by decide +kernel)) (fun _ h9 => h9) rfl dX2_reach_30 ?_
  refine lv_iload_n hx hb dX2_reach_33 rfl (lv_at hl 1 rfl) ?_
  refine lv_iload_n hx hb dX2_reach_34 rfl (lv_at hl 2 rfl) ?_
  refine z_iast (ws' := [(ga, .inr (2, [.ref la, .ref fa, .ref ua, .int (zI m), .int (zI sv)])), (la, .inl (cB, 6561, .inl (zia lw))), (fa, .inl (cI, 6561, .inl (zia (zup d h n)))), (ua, .inl (cI, 3394, .inl (zia F)))]) hx hb hK hP hD hS 2 1 rfl rfl (Nat.le_of_ble_eq_true rfl) dX2_reach_35 rfl (by omega) (fun H locs hP hD hS => ?_)
  refine lv_aload_n hx hb dX2_reach_36 rfl (lv_at hl 0 rfl) ?_
  refine va_get (D := D) (ci := 2) (C := RX2) (T := TX2) (N := 5) hx hb hts inc_X2_reach_2 hown hK hP 0 rfl rfl 2 (by decide) (hts (.fieldLink RX2 19 "BedHouse$Search" "queue" "[I") (by decide +kernel)) (fun _ h9 => h9) rfl dX2_reach_37 ?_
  refine lv_aload_n hx hb dX2_reach_40 rfl (lv_at hl 0 rfl) ?_
  refine va_get (D := D) (ci := 2) (C := RX2) (T := TX2) (N := 5) hx hb hts inc_X2_reach_2 hown hK hP 0 rfl rfl 3 (by decide) (hts (.fieldLink RX2 44 "BedHouse$Search" "reached" "I") (by decide +kernel)) (fun _ h9 => h9) rfl dX2_reach_41 ?_
  refine lv_iload_n hx hb dX2_reach_44 rfl (lv_at hl 1 rfl) ?_
  refine z_iast (ws' := [(ga, .inr (2, [.ref la, .ref fa, .ref ua, .int (zI m), .int (zI sv)])), (la, .inl (cB, 6561, .inl (zia lw))), (fa, .inl (cI, 6561, .inl (zia (zup d h n)))), (ua, .inl (cI, 3394, .inl (zia (zup F m h))))]) hx hb hK hP hD hS 3 1 rfl rfl (Nat.le_of_ble_eq_true rfl) dX2_reach_45 rfl (by omega) (fun H locs hP hD hS => ?_)
  refine lv_aload_n hx hb dX2_reach_46 rfl (lv_at hl 0 rfl) ?_
  refine lv_dup hx hb dX2_reach_47 rfl ?_
  refine va_get (D := D) (ci := 2) (C := RX2) (T := TX2) (N := 5) hx hb hts inc_X2_reach_2 hown hK hP 0 rfl rfl 3 (by decide) (hts (.fieldLink RX2 44 "BedHouse$Search" "reached" "I") (by decide +kernel)) (fun _ h9 => h9) rfl dX2_reach_48 ?_
  refine lv_iconst (v := zI 1) hx hb dX2_reach_51 rfl ?_
  refine z_iadd hx hb dX2_reach_52 ?_
  refine va_put (D := D) (ci := 2) (v := .int (zI (m + 1))) (ty := .int) (C := RX2) (T := TX2) (N := 5) hx hb hts inc_X2_reach_2 tyX2 tyX2_ok nmX2 hown hK hP hD hS 0 rfl rfl 3 (by decide) (hts (.fieldLink RX2 44 "BedHouse$Search" "reached" "I") (by decide +kernel)) (fun _ h9 => h9) rfl (by decide +kernel) rfl rfl (Nat.le_of_ble_eq_true rfl) dX2_reach_53 (fun H locs hP hD hS => ?_)
  have hP : va_P D vwCl [(ga, .inr (2, [.ref la, .ref fa, .ref ua, .int (zI (m + 1)), .int (zI sv)])), (la, .inl (cB, 6561, .inl (zia lw))), (fa, .inl (cI, 6561, .inl (zia (zup d h n)))), (ua, .inl (cI, 3394, .inl (zia (zup F m h))))] H := hP
  have hD : va_D A [(ga, .inr (2, [.ref la, .ref fa, .ref ua, .int (zI (m + 1)), .int (zI sv)])), (la, .inl (cB, 6561, .inl (zia lw))), (fa, .inl (cI, 6561, .inl (zia (zup d h n)))), (ua, .inl (cI, 3394, .inl (zia (zup F m h))))] := hD
  exact wr_retv M dX2_reach_56 (u := (zup F m h, m + 1, zup d h n)) (by unfold rch; rw [if_pos ⟨c_5, c_16, c_26⟩]) hP hD hS
set_option maxHeartbeats 4000000 in
set_option maxRecDepth 100000 in
theorem lp_X2_spreadByOneAct_42 (l : Launch) (D : va_G) (cB cI cZ cM : ClassId) (ga : Nat) (la : Nat) (fa : Nat) (ua : Nat) (lw : Int → Int) (d : Int → Int) (F : Int → Int) (m : Int) (sv : Int) (pa : Nat) (sa : Nat) (ba : Nat) (so : Int → Int) (bm : Int → Int) (P : Int) (TH : Int) (B : Int) (ra : Int) (su : Int) (vw : Int) (no : Int) (dn : Int) (ha : Int) (h : Int) (n : Int) (hlw : ∀ j : Int, 0 ≤ j → j < 6561 → 0 ≤ lw j ∧ lw j ≤ 1) (hq : qok (F, m, d)) (hP4 : 0 ≤ P ∧ P ≤ 4) (hh : 0 ≤ h ∧ h < 6561) (hn : 0 ≤ n ∧ n ≤ m) {pg : Program} {ev : Env} {sx : State} {mm : MethodId} {args : Array Value} {below : List Frame} {meth : Method} {cd : Code} (M : MX pg sx mm args meth cd cX2_spreadByOneAct 6 none RX2 wsX2_spreadByOneAct) (hK : va_K D vwCl (TYS cB cI cZ cM) sx) {A : Nat → Prop} (hA : ∀ q : Nat, sx.heap.size ≤ q → A q) : ∀ (N : Nat) (j : Nat) (p : Int) (k : Int) (S : BQ) (n1 : Nat), (j < N) → (0 ≤ k ∧ k + j = 8) → (0 ≤ p ∧ p + (n1 + 1 : Nat) = P) → (qok S) → (n ≤ S.2.1) → (pF lw h n n1 (p + 1) (kF lw h p n j k S) = oneA lw P h n (F, m, d)) → (k_3 : ∀ (n0 : Nat) (p : Int) (S : BQ), (n0 = n1) → (0 ≤ p ∧ p + n0 = P) → (qok S) → (n ≤ S.2.1) → (pF lw h n n0 p S = oneA lw P h n (F, m, d)) → ∀ (H : Heap) (locs : List Loc), va_P D vwCl [(ga, .inr (2, [.ref la, .ref fa, .ref ua, .int (zI S.2.1), .int (zI sv)])), (la, .inl (cB, 6561, .inl (zia lw))), (fa, .inl (cI, 6561, .inl (zia S.2.2))), (ua, .inl (cI, 3394, .inl (zia S.1))), (pa, .inr (1, [.ref sa, .int (zI P), .int (zI TH), .ref ba, .int (zI B), .int (zI ra), .int (zI su), .int (zI vw), .int (zI no), .int (zI dn), .int (zI ha)])), (sa, .inl (cI, 4, .inl (zia so))), (ba, .inl (cI, 2, .inl (zia bm)))] H → va_D A [(ga, .inr (2, [.ref la, .ref fa, .ref ua, .int (zI S.2.1), .int (zI sv)])), (la, .inl (cB, 6561, .inl (zia lw))), (fa, .inl (cI, 6561, .inl (zia S.2.2))), (ua, .inl (cI, 3394, .inl (zia S.1))), (pa, .inr (1, [.ref sa, .int (zI P), .int (zI TH), .ref ba, .int (zI B), .int (zI ra), .int (zI su), .int (zI vw), .int (zI no), .int (zI dn), .int (zI ha)])), (sa, .inl (cI, 4, .inl (zia so))), (ba, .inl (cI, 2, .inl (zia bm)))] → va_S A sx.heap H locs → ∀ ls : Array Slot, lv_has ls 6 [(0, .ref ga), (1, .ref pa), (2, .int (zI h)), (3, .int (zI n)), (4, .int (zI p))] → W pg l ev (rmW 2 0 0 43) sx mm args below meth cd H locs 0 0 (QWv below args sx A D (fun (u : BQ) => u = oneA lw P h n (F, m, d)) (fun (u : BQ) => [(ga, .inr (2, [.ref la, .ref fa, .ref ua, .int (zI u.2.1), .int (zI sv)])), (la, .inl (cB, 6561, .inl (zia lw))), (fa, .inl (cI, 6561, .inl (zia u.2.2))), (ua, .inl (cI, 3394, .inl (zia u.1))), (pa, .inr (1, [.ref sa, .int (zI P), .int (zI TH), .ref ba, .int (zI B), .int (zI ra), .int (zI su), .int (zI vw), .int (zI no), .int (zI dn), .int (zI ha)])), (sa, .inl (cI, 4, .inl (zia so))), (ba, .inl (cI, 2, .inl (zia bm)))]) 0 0) (F0 mm 3 ls [])) → ∀ (H : Heap) (locs : List Loc), va_P D vwCl [(ga, .inr (2, [.ref la, .ref fa, .ref ua, .int (zI S.2.1), .int (zI sv)])), (la, .inl (cB, 6561, .inl (zia lw))), (fa, .inl (cI, 6561, .inl (zia S.2.2))), (ua, .inl (cI, 3394, .inl (zia S.1))), (pa, .inr (1, [.ref sa, .int (zI P), .int (zI TH), .ref ba, .int (zI B), .int (zI ra), .int (zI su), .int (zI vw), .int (zI no), .int (zI dn), .int (zI ha)])), (sa, .inl (cI, 4, .inl (zia so))), (ba, .inl (cI, 2, .inl (zia bm)))] H → va_D A [(ga, .inr (2, [.ref la, .ref fa, .ref ua, .int (zI S.2.1), .int (zI sv)])), (la, .inl (cB, 6561, .inl (zia lw))), (fa, .inl (cI, 6561, .inl (zia S.2.2))), (ua, .inl (cI, 3394, .inl (zia S.1))), (pa, .inr (1, [.ref sa, .int (zI P), .int (zI TH), .ref ba, .int (zI B), .int (zI ra), .int (zI su), .int (zI vw), .int (zI no), .int (zI dn), .int (zI ha)])), (sa, .inl (cI, 4, .inl (zia so))), (ba, .inl (cI, 2, .inl (zia bm)))] → va_S A sx.heap H locs → ∀ ls : Array Slot, lv_has ls 6 [(0, .ref ga), (1, .ref pa), (2, .int (zI h)), (3, .int (zI n)), (4, .int (zI p)), (5, .int (zI k))] → W pg l ev (rmW 2 0 0 43) sx mm args below meth cd H locs 0 0 (QWv below args sx A D (fun (u : BQ) => u = oneA lw P h n (F, m, d)) (fun (u : BQ) => [(ga, .inr (2, [.ref la, .ref fa, .ref ua, .int (zI u.2.1), .int (zI sv)])), (la, .inl (cB, 6561, .inl (zia lw))), (fa, .inl (cI, 6561, .inl (zia u.2.2))), (ua, .inl (cI, 3394, .inl (zia u.1))), (pa, .inr (1, [.ref sa, .int (zI P), .int (zI TH), .ref ba, .int (zI B), .int (zI ra), .int (zI su), .int (zI vw), .int (zI no), .int (zI dn), .int (zI ha)])), (sa, .inl (cI, 4, .inl (zia so))), (ba, .inl (cI, 2, .inl (zia bm)))]) 0 0) (F0 mm 42 ls []) := by
  intro N
  induction N with
  | zero => intro j p k S n1 hN; exact absurd hN (Nat.not_lt_zero _)
  | succ N ih =>
    intro j p k S n1 hN hk hp hs hn2 hv k_3 H locs hP hD hS ls hl
    obtain ⟨hx, hb, hr, hml, hown, hts, hlk, hN0⟩ := id M
    refine lv_iload hx hb dX2_spreadByOneAct_42 (lv_at hl 5 rfl) ?_
    refine lv_bipush (v := zI 8) hx hb dX2_spreadByOneAct_44 (by decide) ?_
    refine z_icmp_ge (tgt := 68) hx hb dX2_spreadByOneAct_46 (by decide) (by omega) (fun c_46 => ?_) (fun c_46 => ?_)
    · skip
      obtain rfl : j = 0 := by omega
      refine z_iinc (a := p) (k := 4) (lv' := [(4, .int (zI (p + 1))), (0, .ref ga), (1, .ref pa), (2, .int (zI h)), (3, .int (zI n)), (5, .int (zI k))]) hx hb dX2_spreadByOneAct_68 hl rfl (by decide) rfl (fun ls hl => ?_)
      refine lv_goto (tgt := 3) hx hb dX2_spreadByOneAct_71 (by decide) ?_
      exact k_3 n1 (p + 1) S rfl (by omega) (by assumption) (by omega) (by rw [← hv]; rfl) _ _ hP hD hS _ (lv_sub hl [1, 2, 3, 4, 0] rfl)
    obtain ⟨j, rfl⟩ : ∃ x : Nat, j = x + 1 := ⟨j - 1, by omega⟩
    refine lv_aload_n hx hb dX2_spreadByOneAct_49 rfl (lv_at hl 0 rfl) ?_
    refine lv_iload_n hx hb dX2_spreadByOneAct_50 rfl (lv_at hl 2 rfl) ?_
    refine lv_iload hx hb dX2_spreadByOneAct_51 (lv_at hl 4 rfl) ?_
    refine lv_iload hx hb dX2_spreadByOneAct_53 (lv_at hl 5 rfl) ?_
    have hmv := mv_rng (p := p) (k := k) (by omega : 0 ≤ h ∧ h < 6561) (by omega)
    refine pc_SN (As := [.int (zI h), .int (zI p), .int (zI k)]) (rest := [.ref ga]) M (c_X4_moved l D cB cI cZ cM _ h p k (by first | assumption | omega) (by first | assumption | omega)) gX2_spreadByOneAct_X4_moved_n57 rfl (NW.at hN0 63 rfl) (by decide +kernel) (by decide +kernel) hd_X4_moved ⟨Nat.le_of_ble_eq_true rfl, Nat.le_of_ble_eq_true rfl⟩ hK hP [] rfl hl.1 rfl rfl (Nat.le_of_ble_eq_true rfl) dX2_spreadByOneAct_55 ⟨Nat.le_of_ble_eq_true rfl, Nat.le_of_ble_eq_true rfl⟩ (fun r_55 h_55 => ?_)
    subst h_55
    refine lv_iload_n hx hb dX2_spreadByOneAct_58 rfl (lv_at hl 3 rfl) ?_
    refine wc_Vv (As := [.int (zI (mv h p k)), .int (zI n)]) (rest := []) (wr := [(pa, .inr (1, [.ref sa, .int (zI P), .int (zI TH), .ref ba, .int (zI B), .int (zI ra), .int (zI su), .int (zI vw), .int (zI no), .int (zI dn), .int (zI ha)])), (sa, .inl (cI, 4, .inl (zia so))), (ba, .inl (cI, 2, .inl (zia bm)))]) (ws' := (fun u_59 : BQ => [(ga, .inr (2, [.ref la, .ref fa, .ref ua, .int (zI u_59.2.1), .int (zI sv)])), (la, .inl (cB, 6561, .inl (zia lw))), (fa, .inl (cI, 6561, .inl (zia u_59.2.2))), (ua, .inl (cI, 3394, .inl (zia u_59.1))), (pa, .inr (1, [.ref sa, .int (zI P), .int (zI TH), .ref ba, .int (zI B), .int (zI ra), .int (zI su), .int (zI vw), .int (zI no), .int (zI dn), .int (zI ha)])), (sa, .inl (cI, 4, .inl (zia so))), (ba, .inl (cI, 2, .inl (zia bm)))])) M (c_X2_reach l D cB cI cZ cM _ ga la fa ua lw S.2.2 S.1 S.2.1 sv (mv h p k) n (by first | assumption | omega) (hs) (by first | assumption | omega) (⟨hn.1, hn2⟩)) gX2_spreadByOneAct_X2_reach rfl ⟨rfl, hd_X2_reach⟩ ⟨Nat.le_of_ble_eq_true rfl, Nat.le_of_ble_eq_true rfl⟩ hK hP hD hS hA [0, 1, 2, 3] [4, 5, 6] [3, 4, 5, 6, 0, 1, 2] rfl rfl (by decide) (by decide) (by decide) (fun _ => rfl) 0 2 rfl rfl rfl hl.1 rfl rfl (Nat.le_of_ble_eq_true rfl) dX2_spreadByOneAct_59 ⟨Nat.le_of_ble_eq_true rfl, Nat.le_of_ble_eq_true rfl⟩ (by decide) (fun u_59 H locs h_59 hP hD hS => ?_)
    obtain ⟨hs3, hm3⟩ := rch_qok (lw := lw) (h := mv h p k) hs ⟨hn.1, hn2⟩
    rw [show rch lw (mv h p k) n S = u_59 from h_59.symm] at hs3 hm3
    refine z_iinc (a := k) (k := 5) (lv' := [(5, .int (zI (k + 1))), (0, .ref ga), (1, .ref pa), (2, .int (zI h)), (3, .int (zI n)), (4, .int (zI p))]) hx hb dX2_spreadByOneAct_62 hl rfl (by decide) rfl (fun ls hl => ?_)
    refine lv_goto (tgt := 42) hx hb dX2_spreadByOneAct_65 (by decide) ?_
    exact ih j p (k + 1) u_59 n1 (by omega) (by omega) (by omega) (by assumption) (by omega) (by rw [← hv, kF]; rw [h_59]) k_3 _ _ hP hD hS _ (lv_sub hl [1, 2, 3, 4, 5, 0] rfl)
set_option maxHeartbeats 4000000 in
set_option maxRecDepth 100000 in
theorem lp_X2_spreadByOneAct_3 (l : Launch) (D : va_G) (cB cI cZ cM : ClassId) (ga : Nat) (la : Nat) (fa : Nat) (ua : Nat) (lw : Int → Int) (d : Int → Int) (F : Int → Int) (m : Int) (sv : Int) (pa : Nat) (sa : Nat) (ba : Nat) (so : Int → Int) (bm : Int → Int) (P : Int) (TH : Int) (B : Int) (ra : Int) (su : Int) (vw : Int) (no : Int) (dn : Int) (ha : Int) (h : Int) (n : Int) (hlw : ∀ j : Int, 0 ≤ j → j < 6561 → 0 ≤ lw j ∧ lw j ≤ 1) (hq : qok (F, m, d)) (hP4 : 0 ≤ P ∧ P ≤ 4) (hh : 0 ≤ h ∧ h < 6561) (hn : 0 ≤ n ∧ n ≤ m) {pg : Program} {ev : Env} {sx : State} {mm : MethodId} {args : Array Value} {below : List Frame} {meth : Method} {cd : Code} (M : MX pg sx mm args meth cd cX2_spreadByOneAct 6 none RX2 wsX2_spreadByOneAct) (hK : va_K D vwCl (TYS cB cI cZ cM) sx) {A : Nat → Prop} (hA : ∀ q : Nat, sx.heap.size ≤ q → A q) : ∀ (N : Nat) (n0 : Nat) (p : Int) (S : BQ), (n0 < N) → (0 ≤ p ∧ p + n0 = P) → (qok S) → (n ≤ S.2.1) → (pF lw h n n0 p S = oneA lw P h n (F, m, d)) → ∀ (H : Heap) (locs : List Loc), va_P D vwCl [(ga, .inr (2, [.ref la, .ref fa, .ref ua, .int (zI S.2.1), .int (zI sv)])), (la, .inl (cB, 6561, .inl (zia lw))), (fa, .inl (cI, 6561, .inl (zia S.2.2))), (ua, .inl (cI, 3394, .inl (zia S.1))), (pa, .inr (1, [.ref sa, .int (zI P), .int (zI TH), .ref ba, .int (zI B), .int (zI ra), .int (zI su), .int (zI vw), .int (zI no), .int (zI dn), .int (zI ha)])), (sa, .inl (cI, 4, .inl (zia so))), (ba, .inl (cI, 2, .inl (zia bm)))] H → va_D A [(ga, .inr (2, [.ref la, .ref fa, .ref ua, .int (zI S.2.1), .int (zI sv)])), (la, .inl (cB, 6561, .inl (zia lw))), (fa, .inl (cI, 6561, .inl (zia S.2.2))), (ua, .inl (cI, 3394, .inl (zia S.1))), (pa, .inr (1, [.ref sa, .int (zI P), .int (zI TH), .ref ba, .int (zI B), .int (zI ra), .int (zI su), .int (zI vw), .int (zI no), .int (zI dn), .int (zI ha)])), (sa, .inl (cI, 4, .inl (zia so))), (ba, .inl (cI, 2, .inl (zia bm)))] → va_S A sx.heap H locs → ∀ ls : Array Slot, lv_has ls 6 [(0, .ref ga), (1, .ref pa), (2, .int (zI h)), (3, .int (zI n)), (4, .int (zI p))] → W pg l ev (rmW 2 0 0 43) sx mm args below meth cd H locs 0 0 (QWv below args sx A D (fun (u : BQ) => u = oneA lw P h n (F, m, d)) (fun (u : BQ) => [(ga, .inr (2, [.ref la, .ref fa, .ref ua, .int (zI u.2.1), .int (zI sv)])), (la, .inl (cB, 6561, .inl (zia lw))), (fa, .inl (cI, 6561, .inl (zia u.2.2))), (ua, .inl (cI, 3394, .inl (zia u.1))), (pa, .inr (1, [.ref sa, .int (zI P), .int (zI TH), .ref ba, .int (zI B), .int (zI ra), .int (zI su), .int (zI vw), .int (zI no), .int (zI dn), .int (zI ha)])), (sa, .inl (cI, 4, .inl (zia so))), (ba, .inl (cI, 2, .inl (zia bm)))]) 0 0) (F0 mm 3 ls []) := by
  intro N
  induction N with
  | zero => intro n0 p S hN; exact absurd hN (Nat.not_lt_zero _)
  | succ N ih =>
    intro n0 p S hN hp hs hn2 hv H locs hP hD hS ls hl
    obtain ⟨hx, hb, hr, hml, hown, hts, hlk, hN0⟩ := id M
    refine lv_iload hx hb dX2_spreadByOneAct_3 (lv_at hl 4 rfl) ?_
    refine lv_aload_n hx hb dX2_spreadByOneAct_5 rfl (lv_at hl 1 rfl) ?_
    refine va_getN (D := D) (ci := 1) (C := RX1) (T := TX1) (N := 11) hx hb hts inc_X2_spreadByOneAct_1 hown hK hP 4 rfl rfl 1 (by decide) ((NW.at hN0 15 rfl).use rfl) (fun _ h9 => h9) rfl dX2_spreadByOneAct_6 ?_
    refine z_icmp_ge (tgt := 74) hx hb dX2_spreadByOneAct_9 (by decide) (by omega) (fun c_9 => ?_) (fun c_9 => ?_)
    · skip
      obtain rfl : n0 = 0 := by omega
      exact wr_retv M dX2_spreadByOneAct_74 (u := S) (hv) hP hD hS
    obtain ⟨n1, rfl⟩ : ∃ j : Nat, n0 = j + 1 := ⟨n0 - 1, by omega⟩
    refine lv_iload_n hx hb dX2_spreadByOneAct_12 rfl (lv_at hl 2 rfl) ?_
    refine lv_iload hx hb dX2_spreadByOneAct_13 (lv_at hl 4 rfl) ?_
    have hpl := pl_rng h p
    refine pc_SN (As := [.int (zI h), .int (zI p)]) (rest := []) M (c_X4_placeIn l D cB cI cZ cM _ h p (by first | assumption | omega) (by first | assumption | omega)) gX2_spreadByOneAct_X4_placeIn_n53 rfl (NW.at hN0 62 rfl) (by decide +kernel) (by decide +kernel) hd_X4_placeIn ⟨Nat.le_of_ble_eq_true rfl, Nat.le_of_ble_eq_true rfl⟩ hK hP [] rfl hl.1 rfl rfl (Nat.le_of_ble_eq_true rfl) dX2_spreadByOneAct_15 ⟨Nat.le_of_ble_eq_true rfl, Nat.le_of_ble_eq_true rfl⟩ (fun r_15 h_15 => ?_)
    subst h_15
    refine lv_bipush (v := zI 8) hx hb dX2_spreadByOneAct_18 (by decide) ?_
    refine z_icmp_eq (tgt := 39) hx hb dX2_spreadByOneAct_20 (by decide) (by omega) (fun c_20 => ?_) (fun c_20 => ?_)
    · skip
      refine lv_iconst (v := zI 0) hx hb dX2_spreadByOneAct_39 rfl ?_
      refine lv_istore (lv' := [(5, .int (zI 0)), (0, .ref ga), (1, .ref pa), (2, .int (zI h)), (3, .int (zI n)), (4, .int (zI p))]) hx hb dX2_spreadByOneAct_40 hl (by decide) rfl (fun ls hl => ?_)
      exact lp_X2_spreadByOneAct_42 l D cB cI cZ cM ga la fa ua lw d F m sv pa sa ba so bm P TH B ra su vw no dn ha h n hlw hq hP4 hh hn M hK hA (8 + 1) 8 p 0 S n1 (Nat.lt_succ_self _) (by omega) (by omega) (by assumption) (by omega) (by rw [← hv, pF]; rw [if_pos c_20]) (fun n0 p S hg hp hs hn2 hv H locs hP hD hS ls hl => ih n0 p S (by omega) hp hs hn2 hv H locs hP hD hS ls hl) _ _ hP hD hS _ (lv_sub hl [1, 2, 3, 4, 5, 0] rfl)
    refine lv_aload_n hx hb dX2_spreadByOneAct_23 rfl (lv_at hl 0 rfl) ?_
    refine lv_iload_n hx hb dX2_spreadByOneAct_24 rfl (lv_at hl 2 rfl) ?_
    refine lv_iload hx hb dX2_spreadByOneAct_25 (lv_at hl 4 rfl) ?_
    refine lv_bipush (v := zI 8) hx hb dX2_spreadByOneAct_27 (by decide) ?_
    have hmv := mv_rng (p := p) (k := 8) (by omega : 0 ≤ h ∧ h < 6561) (by omega)
    refine pc_SN (As := [.int (zI h), .int (zI p), .int (zI 8)]) (rest := [.ref ga]) M (c_X4_moved l D cB cI cZ cM _ h p 8 (by first | assumption | omega) (by first | assumption | omega)) gX2_spreadByOneAct_X4_moved_n57 rfl (NW.at hN0 63 rfl) (by decide +kernel) (by decide +kernel) hd_X4_moved ⟨Nat.le_of_ble_eq_true rfl, Nat.le_of_ble_eq_true rfl⟩ hK hP [] rfl hl.1 rfl rfl (Nat.le_of_ble_eq_true rfl) dX2_spreadByOneAct_29 ⟨Nat.le_of_ble_eq_true rfl, Nat.le_of_ble_eq_true rfl⟩ (fun r_29 h_29 => ?_)
    subst h_29
    refine lv_iload_n hx hb dX2_spreadByOneAct_32 rfl (lv_at hl 3 rfl) ?_
    refine wc_Vv (As := [.int (zI (mv h p 8)), .int (zI n)]) (rest := []) (wr := [(pa, .inr (1, [.ref sa, .int (zI P), .int (zI TH), .ref ba, .int (zI B), .int (zI ra), .int (zI su), .int (zI vw), .int (zI no), .int (zI dn), .int (zI ha)])), (sa, .inl (cI, 4, .inl (zia so))), (ba, .inl (cI, 2, .inl (zia bm)))]) (ws' := (fun u_33 : BQ => [(ga, .inr (2, [.ref la, .ref fa, .ref ua, .int (zI u_33.2.1), .int (zI sv)])), (la, .inl (cB, 6561, .inl (zia lw))), (fa, .inl (cI, 6561, .inl (zia u_33.2.2))), (ua, .inl (cI, 3394, .inl (zia u_33.1))), (pa, .inr (1, [.ref sa, .int (zI P), .int (zI TH), .ref ba, .int (zI B), .int (zI ra), .int (zI su), .int (zI vw), .int (zI no), .int (zI dn), .int (zI ha)])), (sa, .inl (cI, 4, .inl (zia so))), (ba, .inl (cI, 2, .inl (zia bm)))])) M (c_X2_reach l D cB cI cZ cM _ ga la fa ua lw S.2.2 S.1 S.2.1 sv (mv h p 8) n (by first | assumption | omega) (hs) (by first | assumption | omega) (⟨hn.1, hn2⟩)) gX2_spreadByOneAct_X2_reach rfl ⟨rfl, hd_X2_reach⟩ ⟨Nat.le_of_ble_eq_true rfl, Nat.le_of_ble_eq_true rfl⟩ hK hP hD hS hA [0, 1, 2, 3] [4, 5, 6] [3, 4, 5, 6, 0, 1, 2] rfl rfl (by decide) (by decide) (by decide) (fun _ => rfl) 0 2 rfl rfl rfl hl.1 rfl rfl (Nat.le_of_ble_eq_true rfl) dX2_spreadByOneAct_33 ⟨Nat.le_of_ble_eq_true rfl, Nat.le_of_ble_eq_true rfl⟩ (by decide) (fun u_33 H locs h_33 hP hD hS => ?_)
    obtain ⟨hs3, hm3⟩ := rch_qok (lw := lw) (h := mv h p 8) hs ⟨hn.1, hn2⟩
    rw [show rch lw (mv h p 8) n S = u_33 from h_33.symm] at hs3 hm3
    refine lv_goto (tgt := 68) hx hb dX2_spreadByOneAct_36 (by decide) ?_
    refine z_iinc (a := p) (k := 4) (lv' := [(4, .int (zI (p + 1))), (0, .ref ga), (1, .ref pa), (2, .int (zI h)), (3, .int (zI n))]) hx hb dX2_spreadByOneAct_68 hl rfl (by decide) rfl (fun ls hl => ?_)
    refine lv_goto (tgt := 3) hx hb dX2_spreadByOneAct_71 (by decide) ?_
    exact ih n1 (p + 1) u_33 (by omega) (by omega) (by assumption) (by omega) (by rw [← hv, pF]; rw [if_neg c_20, h_33]) _ _ hP hD hS _ (lv_sub hl [1, 2, 3, 4, 0] rfl)
set_option maxHeartbeats 4000000 in
set_option maxRecDepth 100000 in
theorem c_X2_spreadByOneAct (l : Launch) (D : va_G) (cB cI cZ cM : ClassId) (Hp : Heap) (ga : Nat) (la : Nat) (fa : Nat) (ua : Nat) (lw : Int → Int) (d : Int → Int) (F : Int → Int) (m : Int) (sv : Int) (pa : Nat) (sa : Nat) (ba : Nat) (so : Int → Int) (bm : Int → Int) (P : Int) (TH : Int) (B : Int) (ra : Int) (su : Int) (vw : Int) (no : Int) (dn : Int) (ha : Int) (h : Int) (n : Int) (hlw : ∀ j : Int, 0 ≤ j → j < 6561 → 0 ≤ lw j ∧ lw j ≤ 1) (hq : qok (F, m, d)) (hP4 : 0 ≤ P ∧ P ≤ 4) (hh : 0 ≤ h ∧ h < 6561) (hn : 0 ≤ n ∧ n ≤ m) : cWv l yX2_spreadByOneAct wsX2_spreadByOneAct (rmW 2 0 0 43) D (TYS cB cI cZ cM) [.ref ga, .ref pa, .int (zI h), .int (zI n)] [(ga, .inr (2, [.ref la, .ref fa, .ref ua, .int (zI m), .int (zI sv)])), (la, .inl (cB, 6561, .inl (zia lw))), (fa, .inl (cI, 6561, .inl (zia d))), (ua, .inl (cI, 3394, .inl (zia F))), (pa, .inr (1, [.ref sa, .int (zI P), .int (zI TH), .ref ba, .int (zI B), .int (zI ra), .int (zI su), .int (zI vw), .int (zI no), .int (zI dn), .int (zI ha)])), (sa, .inl (cI, 4, .inl (zia so))), (ba, .inl (cI, 2, .inl (zia bm)))] Hp (fun (u : BQ) => u = oneA lw P h n (F, m, d)) (fun (u : BQ) => [(ga, .inr (2, [.ref la, .ref fa, .ref ua, .int (zI u.2.1), .int (zI sv)])), (la, .inl (cB, 6561, .inl (zia lw))), (fa, .inl (cI, 6561, .inl (zia u.2.2))), (ua, .inl (cI, 3394, .inl (zia u.1))), (pa, .inr (1, [.ref sa, .int (zI P), .int (zI TH), .ref ba, .int (zI B), .int (zI ra), .int (zI su), .int (zI vw), .int (zI no), .int (zI dn), .int (zI ha)])), (sa, .inl (cI, 4, .inl (zia so))), (ba, .inl (cI, 2, .inl (zia bm)))]) 0 0 := by
  refine wr_startv (by decide) rfl (Nat.le_of_ble_eq_true rfl) ?_
  intro pg ev sx mm args below meth cd ls A M hP hD hS hA hK hl
  obtain ⟨hx, hb, hr, hml, hown, hts, hlk, hN0⟩ := id M
  have hl : lv_has ls 6 [(0, .ref ga), (1, .ref pa), (2, .int (zI h)), (3, .int (zI n))] := hl
  refine W.widen (k := 0) (n := 0) (Nat.zero_le _) (Nat.zero_le _) ?_
  refine lv_iconst (v := zI 0) hx hb dX2_spreadByOneAct_0 rfl ?_
  refine lv_istore (lv' := [(4, .int (zI 0)), (0, .ref ga), (1, .ref pa), (2, .int (zI h)), (3, .int (zI n))]) hx hb dX2_spreadByOneAct_1 hl (by decide) rfl (fun ls hl => ?_)
  exact lp_X2_spreadByOneAct_3 l D cB cI cZ cM ga la fa ua lw d F m sv pa sa ba so bm P TH B ra su vw no dn ha h n hlw hq hP4 hh hn M hK hA (P.toNat + 1) P.toNat 0 (F, m, d) (Nat.lt_succ_self _) (by omega) (by assumption) (by exact hn.2) (by rfl) _ _ hP hD hS _ (lv_sub hl [1, 2, 3, 4, 0] rfl)
set_option maxHeartbeats 4000000 in
set_option maxRecDepth 100000 in
theorem lp_X2_survey_55 (l : Launch) (D : va_G) (cB cI cZ cM : ClassId) (ga : Nat) (la : Nat) (fa : Nat) (ua : Nat) (lw : Int → Int) (d : Int → Int) (F : Int → Int) (m : Int) (sv : Int) (pa : Nat) (sa : Nat) (ba : Nat) (so : Int → Int) (bm : Int → Int) (P : Int) (TH : Int) (B : Int) (ra : Int) (su : Int) (vw : Int) (no : Int) (dn : Int) (ha : Int) (hP4 : 0 ≤ P ∧ P ≤ 4) (hso : ∀ i : Int, 0 ≤ i → i < 4 → 0 ≤ so i ∧ so i ≤ 3) (hB2 : 0 ≤ B ∧ B ≤ 2) (hbm : ∀ i : Int, 0 ≤ i → i < 2 → 0 ≤ bm i ∧ bm i < 256) (hdn : 0 ≤ dn ∧ dn ≤ 4) (hsv : (sv = 0 ∨ sv = 1) ∧ (sv = 1 → lwOK lw so bm P B dn)) {pg : Program} {ev : Env} {sx : State} {mm : MethodId} {args : Array Value} {below : List Frame} {meth : Method} {cd : Code} (M : MX pg sx mm args meth cd cX2_survey 4 none RX2 wsX2_survey) (hK : va_K D vwCl (TYS cB cI cZ cM) sx) {A : Nat → Prop} (hA : ∀ q : Nat, sx.heap.size ≤ q → A q) : ∀ (N : Nat) (n : Nat) (i : Int) (g : Int → Int), (n < N) → (0 ≤ i ∧ i + n = 6561) → (svAt g so bm P B dn i) → ∀ (H : Heap) (locs : List Loc), va_P D vwCl [(ga, .inr (2, [.ref la, .ref fa, .ref ua, .int (zI m), .int (zI sv)])), (la, .inl (cB, 6561, .inl (zia g))), (fa, .inl (cI, 6561, .inl (zia d))), (ua, .inl (cI, 3394, .inl (zia F))), (pa, .inr (1, [.ref sa, .int (zI P), .int (zI TH), .ref ba, .int (zI B), .int (zI ra), .int (zI su), .int (zI vw), .int (zI no), .int (zI dn), .int (zI ha)])), (sa, .inl (cI, 4, .inl (zia so))), (ba, .inl (cI, 2, .inl (zia bm)))] H → va_D A [(ga, .inr (2, [.ref la, .ref fa, .ref ua, .int (zI m), .int (zI sv)])), (la, .inl (cB, 6561, .inl (zia g))), (fa, .inl (cI, 6561, .inl (zia d))), (ua, .inl (cI, 3394, .inl (zia F))), (pa, .inr (1, [.ref sa, .int (zI P), .int (zI TH), .ref ba, .int (zI B), .int (zI ra), .int (zI su), .int (zI vw), .int (zI no), .int (zI dn), .int (zI ha)])), (sa, .inl (cI, 4, .inl (zia so))), (ba, .inl (cI, 2, .inl (zia bm)))] → va_S A sx.heap H locs → ∀ ls : Array Slot, lv_has ls 4 [(0, .ref ga), (1, .ref pa), (2, .int (zI (unS P))), (3, .int (zI i))] → W pg l ev (rmW 4 0 0 91) sx mm args below meth cd H locs 0 0 (QWv below args sx A D (fun (_u : Unit) => True) (fun (_u : Unit) => [(ga, .inr (2, [.ref la, .ref fa, .ref ua, .int (zI m), .int (zI 1)])), (la, .inl (cB, 6561, .inl (zia (lwS so bm P B dn)))), (fa, .inl (cI, 6561, .inl (zia d))), (ua, .inl (cI, 3394, .inl (zia F))), (pa, .inr (1, [.ref sa, .int (zI P), .int (zI TH), .ref ba, .int (zI B), .int (zI ra), .int (zI su), .int (zI vw), .int (zI no), .int (zI dn), .int (zI ha)])), (sa, .inl (cI, 4, .inl (zia so))), (ba, .inl (cI, 2, .inl (zia bm)))]) 0 0) (F0 mm 55 ls []) := by
  intro N
  induction N with
  | zero => intro n i g hN; exact absurd hN (Nat.not_lt_zero _)
  | succ N ih =>
    intro n i g hN hi hg H locs hP hD hS ls hl
    obtain ⟨hx, hb, hr, hml, hown, hts, hlk, hN0⟩ := id M
    refine lv_iload_n hx hb dX2_survey_55 rfl (lv_at hl 3 rfl) ?_
    refine lv_sipush (v := zI 6561) hx hb dX2_survey_56 (by decide) ?_
    refine z_icmp_ge (tgt := 96) hx hb dX2_survey_59 (by decide) (by omega) (fun c_59 => ?_) (fun c_59 => ?_)
    · skip
      have hP := zP_arr (G := lwS so bm P B dn) hP 1 rfl (svAt_end hg (unS_big hP4 c_59))
      have hD := hD.set (p := 1) (e := .inl (cB, 6561, .inl (zia (lwS so bm P B dn)))) rfl
      have hP : va_P D vwCl [(ga, .inr (2, [.ref la, .ref fa, .ref ua, .int (zI m), .int (zI sv)])), (la, .inl (cB, 6561, .inl (zia (lwS so bm P B dn)))), (fa, .inl (cI, 6561, .inl (zia d))), (ua, .inl (cI, 3394, .inl (zia F))), (pa, .inr (1, [.ref sa, .int (zI P), .int (zI TH), .ref ba, .int (zI B), .int (zI ra), .int (zI su), .int (zI vw), .int (zI no), .int (zI dn), .int (zI ha)])), (sa, .inl (cI, 4, .inl (zia so))), (ba, .inl (cI, 2, .inl (zia bm)))] _ := hP
      have hD : va_D A [(ga, .inr (2, [.ref la, .ref fa, .ref ua, .int (zI m), .int (zI sv)])), (la, .inl (cB, 6561, .inl (zia (lwS so bm P B dn)))), (fa, .inl (cI, 6561, .inl (zia d))), (ua, .inl (cI, 3394, .inl (zia F))), (pa, .inr (1, [.ref sa, .int (zI P), .int (zI TH), .ref ba, .int (zI B), .int (zI ra), .int (zI su), .int (zI vw), .int (zI no), .int (zI dn), .int (zI ha)])), (sa, .inl (cI, 4, .inl (zia so))), (ba, .inl (cI, 2, .inl (zia bm)))] := hD
      refine lv_aload_n hx hb dX2_survey_96 rfl (lv_at hl 0 rfl) ?_
      refine lv_iconst (v := zI 1) hx hb dX2_survey_97 rfl ?_
      refine va_put (D := D) (ci := 2) (v := .int (zI 1)) (ty := .boolean) (C := RX2) (T := TX2) (N := 5) hx hb hts inc_X2_survey_2 tyX2 tyX2_ok nmX2 hown hK hP hD hS 0 rfl rfl 4 (by decide) (hts (.fieldLink RX2 22 "BedHouse$Search" "surveyed" "Z") (by decide +kernel)) (fun _ h9 => h9) rfl (by decide +kernel) (rfl) (rfl) (Nat.le_of_ble_eq_true rfl) dX2_survey_98 (fun H locs hP hD hS => ?_)
      have hP : va_P D vwCl [(ga, .inr (2, [.ref la, .ref fa, .ref ua, .int (zI m), .int (zI 1)])), (la, .inl (cB, 6561, .inl (zia (lwS so bm P B dn)))), (fa, .inl (cI, 6561, .inl (zia d))), (ua, .inl (cI, 3394, .inl (zia F))), (pa, .inr (1, [.ref sa, .int (zI P), .int (zI TH), .ref ba, .int (zI B), .int (zI ra), .int (zI su), .int (zI vw), .int (zI no), .int (zI dn), .int (zI ha)])), (sa, .inl (cI, 4, .inl (zia so))), (ba, .inl (cI, 2, .inl (zia bm)))] H := hP
      have hD : va_D A [(ga, .inr (2, [.ref la, .ref fa, .ref ua, .int (zI m), .int (zI 1)])), (la, .inl (cB, 6561, .inl (zia (lwS so bm P B dn)))), (fa, .inl (cI, 6561, .inl (zia d))), (ua, .inl (cI, 3394, .inl (zia F))), (pa, .inr (1, [.ref sa, .int (zI P), .int (zI TH), .ref ba, .int (zI B), .int (zI ra), .int (zI su), .int (zI vw), .int (zI no), .int (zI dn), .int (zI ha)])), (sa, .inl (cI, 4, .inl (zia so))), (ba, .inl (cI, 2, .inl (zia bm)))] := hD
      exact wr_retv M dX2_survey_101 (u := ()) (trivial) hP hD hS
    obtain ⟨n, rfl⟩ : ∃ j : Nat, n = j + 1 := ⟨n - 1, by omega⟩
    have hu := unS_rng hP4
    refine lv_iload_n hx hb dX2_survey_62 rfl (lv_at hl 3 rfl) ?_
    refine lv_iload_n hx hb dX2_survey_63 rfl (lv_at hl 2 rfl) ?_
    refine z_imul hx hb dX2_survey_64 ?_
    have hmu := unS_mul hP4 (i := i) (by omega)
    refine lv_sipush (v := zI 6561) hx hb dX2_survey_65 (by decide) ?_
    refine z_icmp_ge (tgt := 96) hx hb dX2_survey_68 (by decide) (by omega) (fun c_68 => ?_) (fun c_68 => ?_)
    · skip
      have hP := zP_arr (G := lwS so bm P B dn) hP 1 rfl (svAt_end hg c_68)
      have hD := hD.set (p := 1) (e := .inl (cB, 6561, .inl (zia (lwS so bm P B dn)))) rfl
      have hP : va_P D vwCl [(ga, .inr (2, [.ref la, .ref fa, .ref ua, .int (zI m), .int (zI sv)])), (la, .inl (cB, 6561, .inl (zia (lwS so bm P B dn)))), (fa, .inl (cI, 6561, .inl (zia d))), (ua, .inl (cI, 3394, .inl (zia F))), (pa, .inr (1, [.ref sa, .int (zI P), .int (zI TH), .ref ba, .int (zI B), .int (zI ra), .int (zI su), .int (zI vw), .int (zI no), .int (zI dn), .int (zI ha)])), (sa, .inl (cI, 4, .inl (zia so))), (ba, .inl (cI, 2, .inl (zia bm)))] _ := hP
      have hD : va_D A [(ga, .inr (2, [.ref la, .ref fa, .ref ua, .int (zI m), .int (zI sv)])), (la, .inl (cB, 6561, .inl (zia (lwS so bm P B dn)))), (fa, .inl (cI, 6561, .inl (zia d))), (ua, .inl (cI, 3394, .inl (zia F))), (pa, .inr (1, [.ref sa, .int (zI P), .int (zI TH), .ref ba, .int (zI B), .int (zI ra), .int (zI su), .int (zI vw), .int (zI no), .int (zI dn), .int (zI ha)])), (sa, .inl (cI, 4, .inl (zia so))), (ba, .inl (cI, 2, .inl (zia bm)))] := hD
      refine lv_aload_n hx hb dX2_survey_96 rfl (lv_at hl 0 rfl) ?_
      refine lv_iconst (v := zI 1) hx hb dX2_survey_97 rfl ?_
      refine va_put (D := D) (ci := 2) (v := .int (zI 1)) (ty := .boolean) (C := RX2) (T := TX2) (N := 5) hx hb hts inc_X2_survey_2 tyX2 tyX2_ok nmX2 hown hK hP hD hS 0 rfl rfl 4 (by decide) (hts (.fieldLink RX2 22 "BedHouse$Search" "surveyed" "Z") (by decide +kernel)) (fun _ h9 => h9) rfl (by decide +kernel) (rfl) (rfl) (Nat.le_of_ble_eq_true rfl) dX2_survey_98 (fun H locs hP hD hS => ?_)
      have hP : va_P D vwCl [(ga, .inr (2, [.ref la, .ref fa, .ref ua, .int (zI m), .int (zI 1)])), (la, .inl (cB, 6561, .inl (zia (lwS so bm P B dn)))), (fa, .inl (cI, 6561, .inl (zia d))), (ua, .inl (cI, 3394, .inl (zia F))), (pa, .inr (1, [.ref sa, .int (zI P), .int (zI TH), .ref ba, .int (zI B), .int (zI ra), .int (zI su), .int (zI vw), .int (zI no), .int (zI dn), .int (zI ha)])), (sa, .inl (cI, 4, .inl (zia so))), (ba, .inl (cI, 2, .inl (zia bm)))] H := hP
      have hD : va_D A [(ga, .inr (2, [.ref la, .ref fa, .ref ua, .int (zI m), .int (zI 1)])), (la, .inl (cB, 6561, .inl (zia (lwS so bm P B dn)))), (fa, .inl (cI, 6561, .inl (zia d))), (ua, .inl (cI, 3394, .inl (zia F))), (pa, .inr (1, [.ref sa, .int (zI P), .int (zI TH), .ref ba, .int (zI B), .int (zI ra), .int (zI su), .int (zI vw), .int (zI no), .int (zI dn), .int (zI ha)])), (sa, .inl (cI, 4, .inl (zia so))), (ba, .inl (cI, 2, .inl (zia bm)))] := hD
      exact wr_retv M dX2_survey_101 (u := ()) (trivial) hP hD hS
    refine lv_aload_n hx hb dX2_survey_71 rfl (lv_at hl 1 rfl) ?_
    refine lv_iload_n hx hb dX2_survey_72 rfl (lv_at hl 3 rfl) ?_
    refine lv_iload_n hx hb dX2_survey_73 rfl (lv_at hl 2 rfl) ?_
    refine z_imul hx hb dX2_survey_74 ?_
    refine pc_VN (As := [.int (zI (i * (unS P)))]) (rest := []) M (c_X1_allows l D cB cI cZ cM _ pa sa ba so bm P TH B ra su vw no dn ha (i * (unS P)) (by first | assumption | omega) (by first | assumption | omega) (by first | assumption | omega) (by first | assumption | omega) (by first | assumption | omega) (by first | assumption | omega)) gX2_survey_X1_allows_n36 rfl (NW.at hN0 61 rfl) (by decide +kernel) (by decide +kernel) (by decide +kernel) hd_X1_allows ⟨Nat.le_of_ble_eq_true rfl, Nat.le_of_ble_eq_true rfl⟩ hK hP [4, 5, 6] rfl 4 1 rfl rfl rfl hl.1 rfl rfl (Nat.le_of_ble_eq_true rfl) dX2_survey_75 ⟨Nat.le_of_ble_eq_true rfl, Nat.le_of_ble_eq_true rfl⟩ (fun r_75 h_75 => ?_)
    subst h_75
    refine z_if_eq (tgt := 90) hx hb dX2_survey_78 (by decide) (zb_bd _) (fun c_78 => ?_) (fun c_78 => ?_)
    · skip
      have c_78 := zb_f c_78
      refine z_iinc (a := i) (k := 3) (lv' := [(3, .int (zI (i + 1))), (0, .ref ga), (1, .ref pa), (2, .int (zI (unS P)))]) hx hb dX2_survey_90 hl rfl (by decide) rfl (fun ls hl => ?_)
      refine lv_goto (tgt := 55) hx hb dX2_survey_93 (by decide) ?_
      exact ih n (i + 1) g (by omega) (by omega) (by exact svAt_skip hP4 hi.1 hg c_78) _ _ hP hD hS _ (lv_sub hl [1, 2, 3, 0] rfl)
    have c_78 := zb_t c_78
    refine lv_aload_n hx hb dX2_survey_81 rfl (lv_at hl 0 rfl) ?_
    refine va_get (D := D) (ci := 2) (C := RX2) (T := TX2) (N := 5) hx hb hts inc_X2_survey_2 hown hK hP 0 rfl rfl 0 (by decide) (hts (.fieldLink RX2 11 "BedHouse$Search" "lawful" "[B") (by decide +kernel)) (fun _ h9 => h9) rfl dX2_survey_82 ?_
    refine lv_iload_n hx hb dX2_survey_85 rfl (lv_at hl 3 rfl) ?_
    refine lv_iload_n hx hb dX2_survey_86 rfl (lv_at hl 2 rfl) ?_
    refine z_imul hx hb dX2_survey_87 ?_
    refine lv_iconst (v := zI 1) hx hb dX2_survey_88 rfl ?_
    refine z_bast (ws' := [(ga, .inr (2, [.ref la, .ref fa, .ref ua, .int (zI m), .int (zI sv)])), (la, .inl (cB, 6561, .inl (zia (zup g (i * (unS P)) 1)))), (fa, .inl (cI, 6561, .inl (zia d))), (ua, .inl (cI, 3394, .inl (zia F))), (pa, .inr (1, [.ref sa, .int (zI P), .int (zI TH), .ref ba, .int (zI B), .int (zI ra), .int (zI su), .int (zI vw), .int (zI no), .int (zI dn), .int (zI ha)])), (sa, .inl (cI, 4, .inl (zia so))), (ba, .inl (cI, 2, .inl (zia bm)))]) hx hb hK hP hD hS 1 0 rfl rfl (Nat.le_of_ble_eq_true rfl) dX2_survey_89 rfl (by omega) (by decide) (fun H locs hP hD hS => ?_)
    refine z_iinc (a := i) (k := 3) (lv' := [(3, .int (zI (i + 1))), (0, .ref ga), (1, .ref pa), (2, .int (zI (unS P)))]) hx hb dX2_survey_90 hl rfl (by decide) rfl (fun ls hl => ?_)
    refine lv_goto (tgt := 55) hx hb dX2_survey_93 (by decide) ?_
    exact ih n (i + 1) (zup g (i * unS P) 1) (by omega) (by omega) (by exact svAt_set hP4 hi.1 hg c_78) _ _ hP hD hS _ (lv_sub hl [1, 2, 3, 0] rfl)
set_option maxHeartbeats 4000000 in
set_option maxRecDepth 100000 in
theorem lp_X2_survey_52 (l : Launch) (D : va_G) (cB cI cZ cM : ClassId) (ga : Nat) (la : Nat) (fa : Nat) (ua : Nat) (lw : Int → Int) (d : Int → Int) (F : Int → Int) (m : Int) (sv : Int) (pa : Nat) (sa : Nat) (ba : Nat) (so : Int → Int) (bm : Int → Int) (P : Int) (TH : Int) (B : Int) (ra : Int) (su : Int) (vw : Int) (no : Int) (dn : Int) (ha : Int) (hP4 : 0 ≤ P ∧ P ≤ 4) (hso : ∀ i : Int, 0 ≤ i → i < 4 → 0 ≤ so i ∧ so i ≤ 3) (hB2 : 0 ≤ B ∧ B ≤ 2) (hbm : ∀ i : Int, 0 ≤ i → i < 2 → 0 ≤ bm i ∧ bm i < 256) (hdn : 0 ≤ dn ∧ dn ≤ 4) (hsv : (sv = 0 ∨ sv = 1) ∧ (sv = 1 → lwOK lw so bm P B dn)) {pg : Program} {ev : Env} {sx : State} {mm : MethodId} {args : Array Value} {below : List Frame} {meth : Method} {cd : Code} (M : MX pg sx mm args meth cd cX2_survey 4 none RX2 wsX2_survey) (hK : va_K D vwCl (TYS cB cI cZ cM) sx) {A : Nat → Prop} (hA : ∀ q : Nat, sx.heap.size ≤ q → A q) : ∀ (x : Int) (g : Int → Int), (x = unS P) → (∀ j : Int, 0 ≤ j → j < 6561 → g j = 0) → ∀ (H : Heap) (locs : List Loc), va_P D vwCl [(ga, .inr (2, [.ref la, .ref fa, .ref ua, .int (zI m), .int (zI sv)])), (la, .inl (cB, 6561, .inl (zia g))), (fa, .inl (cI, 6561, .inl (zia d))), (ua, .inl (cI, 3394, .inl (zia F))), (pa, .inr (1, [.ref sa, .int (zI P), .int (zI TH), .ref ba, .int (zI B), .int (zI ra), .int (zI su), .int (zI vw), .int (zI no), .int (zI dn), .int (zI ha)])), (sa, .inl (cI, 4, .inl (zia so))), (ba, .inl (cI, 2, .inl (zia bm)))] H → va_D A [(ga, .inr (2, [.ref la, .ref fa, .ref ua, .int (zI m), .int (zI sv)])), (la, .inl (cB, 6561, .inl (zia g))), (fa, .inl (cI, 6561, .inl (zia d))), (ua, .inl (cI, 3394, .inl (zia F))), (pa, .inr (1, [.ref sa, .int (zI P), .int (zI TH), .ref ba, .int (zI B), .int (zI ra), .int (zI su), .int (zI vw), .int (zI no), .int (zI dn), .int (zI ha)])), (sa, .inl (cI, 4, .inl (zia so))), (ba, .inl (cI, 2, .inl (zia bm)))] → va_S A sx.heap H locs → ∀ ls : Array Slot, lv_has ls 4 [(0, .ref ga), (1, .ref pa)] → W pg l ev (rmW 4 0 0 91) sx mm args below meth cd H locs 0 0 (QWv below args sx A D (fun (_u : Unit) => True) (fun (_u : Unit) => [(ga, .inr (2, [.ref la, .ref fa, .ref ua, .int (zI m), .int (zI 1)])), (la, .inl (cB, 6561, .inl (zia (lwS so bm P B dn)))), (fa, .inl (cI, 6561, .inl (zia d))), (ua, .inl (cI, 3394, .inl (zia F))), (pa, .inr (1, [.ref sa, .int (zI P), .int (zI TH), .ref ba, .int (zI B), .int (zI ra), .int (zI su), .int (zI vw), .int (zI no), .int (zI dn), .int (zI ha)])), (sa, .inl (cI, 4, .inl (zia so))), (ba, .inl (cI, 2, .inl (zia bm)))]) 0 0) (F0 mm 52 ls [.int (zI x)]) := by
  intro x g hxu hz9 H locs hP hD hS ls hl
  obtain ⟨hx, hb, hr, hml, hown, hts, hlk, hN0⟩ := id M
  refine z_topz (b := unS P) (hxu) ?_
  refine lv_istore_n (lv' := [(2, .int (zI (unS P))), (0, .ref ga), (1, .ref pa)]) hx hb dX2_survey_52 rfl hl (by decide) rfl (fun ls hl => ?_)
  refine lv_iconst (v := zI 0) hx hb dX2_survey_53 rfl ?_
  refine lv_istore_n (lv' := [(3, .int (zI 0)), (2, .int (zI (unS P))), (0, .ref ga), (1, .ref pa)]) hx hb dX2_survey_54 rfl hl (by decide) rfl (fun ls hl => ?_)
  exact lp_X2_survey_55 l D cB cI cZ cM ga la fa ua lw d F m sv pa sa ba so bm P TH B ra su vw no dn ha hP4 hso hB2 hbm hdn hsv M hK hA (6561 + 1) 6561 0 g (Nat.lt_succ_self _) (by omega) (by exact svAt_0 hz9) _ _ hP hD hS _ (lv_sub hl [2, 3, 1, 0] rfl)
set_option maxHeartbeats 4000000 in
set_option maxRecDepth 100000 in
theorem lp_X2_survey_10 (l : Launch) (D : va_G) (cB cI cZ cM : ClassId) (ga : Nat) (la : Nat) (fa : Nat) (ua : Nat) (lw : Int → Int) (d : Int → Int) (F : Int → Int) (m : Int) (sv : Int) (pa : Nat) (sa : Nat) (ba : Nat) (so : Int → Int) (bm : Int → Int) (P : Int) (TH : Int) (B : Int) (ra : Int) (su : Int) (vw : Int) (no : Int) (dn : Int) (ha : Int) (hP4 : 0 ≤ P ∧ P ≤ 4) (hso : ∀ i : Int, 0 ≤ i → i < 4 → 0 ≤ so i ∧ so i ≤ 3) (hB2 : 0 ≤ B ∧ B ≤ 2) (hbm : ∀ i : Int, 0 ≤ i → i < 2 → 0 ≤ bm i ∧ bm i < 256) (hdn : 0 ≤ dn ∧ dn ≤ 4) (hsv : (sv = 0 ∨ sv = 1) ∧ (sv = 1 → lwOK lw so bm P B dn)) {pg : Program} {ev : Env} {sx : State} {mm : MethodId} {args : Array Value} {below : List Frame} {meth : Method} {cd : Code} (M : MX pg sx mm args meth cd cX2_survey 4 none RX2 wsX2_survey) (hK : va_K D vwCl (TYS cB cI cZ cM) sx) {A : Nat → Prop} (hA : ∀ q : Nat, sx.heap.size ≤ q → A q) : ∀ (N : Nat) (n : Nat) (i : Int) (g : Int → Int), (n < N) → (0 ≤ i ∧ i + n = 6561) → (∀ j : Int, 0 ≤ j → j < i → g j = 0) → ∀ (H : Heap) (locs : List Loc), va_P D vwCl [(ga, .inr (2, [.ref la, .ref fa, .ref ua, .int (zI m), .int (zI sv)])), (la, .inl (cB, 6561, .inl (zia g))), (fa, .inl (cI, 6561, .inl (zia d))), (ua, .inl (cI, 3394, .inl (zia F))), (pa, .inr (1, [.ref sa, .int (zI P), .int (zI TH), .ref ba, .int (zI B), .int (zI ra), .int (zI su), .int (zI vw), .int (zI no), .int (zI dn), .int (zI ha)])), (sa, .inl (cI, 4, .inl (zia so))), (ba, .inl (cI, 2, .inl (zia bm)))] H → va_D A [(ga, .inr (2, [.ref la, .ref fa, .ref ua, .int (zI m), .int (zI sv)])), (la, .inl (cB, 6561, .inl (zia g))), (fa, .inl (cI, 6561, .inl (zia d))), (ua, .inl (cI, 3394, .inl (zia F))), (pa, .inr (1, [.ref sa, .int (zI P), .int (zI TH), .ref ba, .int (zI B), .int (zI ra), .int (zI su), .int (zI vw), .int (zI no), .int (zI dn), .int (zI ha)])), (sa, .inl (cI, 4, .inl (zia so))), (ba, .inl (cI, 2, .inl (zia bm)))] → va_S A sx.heap H locs → ∀ ls : Array Slot, lv_has ls 4 [(0, .ref ga), (1, .ref pa), (2, .int (zI i))] → W pg l ev (rmW 4 0 0 91) sx mm args below meth cd H locs 0 0 (QWv below args sx A D (fun (_u : Unit) => True) (fun (_u : Unit) => [(ga, .inr (2, [.ref la, .ref fa, .ref ua, .int (zI m), .int (zI 1)])), (la, .inl (cB, 6561, .inl (zia (lwS so bm P B dn)))), (fa, .inl (cI, 6561, .inl (zia d))), (ua, .inl (cI, 3394, .inl (zia F))), (pa, .inr (1, [.ref sa, .int (zI P), .int (zI TH), .ref ba, .int (zI B), .int (zI ra), .int (zI su), .int (zI vw), .int (zI no), .int (zI dn), .int (zI ha)])), (sa, .inl (cI, 4, .inl (zia so))), (ba, .inl (cI, 2, .inl (zia bm)))]) 0 0) (F0 mm 10 ls []) := by
  intro N
  induction N with
  | zero => intro n i g hN; exact absurd hN (Nat.not_lt_zero _)
  | succ N ih =>
    intro n i g hN hi hz H locs hP hD hS ls hl
    obtain ⟨hx, hb, hr, hml, hown, hts, hlk, hN0⟩ := id M
    refine lv_iload_n hx hb dX2_survey_10 rfl (lv_at hl 2 rfl) ?_
    refine lv_sipush (v := zI 6561) hx hb dX2_survey_11 (by decide) ?_
    refine z_icmp_ge (tgt := 30) hx hb dX2_survey_14 (by decide) (by omega) (fun c_14 => ?_) (fun c_14 => ?_)
    · skip
      have hz9 : ∀ j : Int, 0 ≤ j → j < 6561 → g j = 0 := fun j h1 h2 => hz j h1 (by omega)
      refine lv_aload_n hx hb dX2_survey_30 rfl (lv_at hl 1 rfl) ?_
      refine va_getN (D := D) (ci := 1) (C := RX1) (T := TX1) (N := 11) hx hb hts inc_X2_survey_1 hown hK hP 4 rfl rfl 1 (by decide) ((NW.at hN0 15 rfl).use rfl) (fun _ h9 => h9) rfl dX2_survey_31 ?_
      refine z_if_ne (tgt := 43) hx hb dX2_survey_34 (by decide) (by omega) (fun c_34 => ?_) (fun c_34 => ?_)
      · skip
        refine lv_aload_n hx hb dX2_survey_43 rfl (lv_at hl 1 rfl) ?_
        refine va_getN (D := D) (ci := 1) (C := RX1) (T := TX1) (N := 11) hx hb hts inc_X2_survey_1 hown hK hP 4 rfl rfl 1 (by decide) ((NW.at hN0 15 rfl).use rfl) (fun _ h9 => h9) rfl dX2_survey_44 ?_
        refine lv_iconst (v := zI 1) hx hb dX2_survey_47 rfl ?_
        refine z_isub hx hb dX2_survey_48 ?_
        refine pc_SN (As := [.int (zI (P - 1))]) (rest := []) M (c_X4_unitOf l D cB cI cZ cM _ (P - 1) (by first | assumption | omega)) gX2_survey_X4_unitOf_n32 rfl (NW.at hN0 60 rfl) (by decide +kernel) (by decide +kernel) hd_X4_unitOf ⟨Nat.le_of_ble_eq_true rfl, Nat.le_of_ble_eq_true rfl⟩ hK hP [] rfl hl.1 rfl rfl (Nat.le_of_ble_eq_true rfl) dX2_survey_49 ⟨Nat.le_of_ble_eq_true rfl, Nat.le_of_ble_eq_true rfl⟩ (fun r_49 h_49 => ?_)
        subst h_49
        exact lp_X2_survey_52 l D cB cI cZ cM ga la fa ua lw d F m sv pa sa ba so bm P TH B ra su vw no dn ha hP4 hso hB2 hbm hdn hsv M hK hA (un (P - 1)) g (by unfold unS; rw [if_neg c_34]) (by assumption) _ _ hP hD hS _ (lv_sub hl [0, 1] rfl)
      refine lv_sipush (v := zI 6561) hx hb dX2_survey_37 (by decide) ?_
      refine lv_goto (tgt := 52) hx hb dX2_survey_40 (by decide) ?_
      exact lp_X2_survey_52 l D cB cI cZ cM ga la fa ua lw d F m sv pa sa ba so bm P TH B ra su vw no dn ha hP4 hso hB2 hbm hdn hsv M hK hA 6561 g (by unfold unS; rw [if_pos (by omega)]) (by assumption) _ _ hP hD hS _ (lv_sub hl [0, 1] rfl)
    obtain ⟨n, rfl⟩ : ∃ j : Nat, n = j + 1 := ⟨n - 1, by omega⟩
    refine lv_aload_n hx hb dX2_survey_17 rfl (lv_at hl 0 rfl) ?_
    refine va_get (D := D) (ci := 2) (C := RX2) (T := TX2) (N := 5) hx hb hts inc_X2_survey_2 hown hK hP 0 rfl rfl 0 (by decide) (hts (.fieldLink RX2 11 "BedHouse$Search" "lawful" "[B") (by decide +kernel)) (fun _ h9 => h9) rfl dX2_survey_18 ?_
    refine lv_iload_n hx hb dX2_survey_21 rfl (lv_at hl 2 rfl) ?_
    refine lv_iconst (v := zI 0) hx hb dX2_survey_22 rfl ?_
    refine z_bast (ws' := [(ga, .inr (2, [.ref la, .ref fa, .ref ua, .int (zI m), .int (zI sv)])), (la, .inl (cB, 6561, .inl (zia (zup g i 0)))), (fa, .inl (cI, 6561, .inl (zia d))), (ua, .inl (cI, 3394, .inl (zia F))), (pa, .inr (1, [.ref sa, .int (zI P), .int (zI TH), .ref ba, .int (zI B), .int (zI ra), .int (zI su), .int (zI vw), .int (zI no), .int (zI dn), .int (zI ha)])), (sa, .inl (cI, 4, .inl (zia so))), (ba, .inl (cI, 2, .inl (zia bm)))]) hx hb hK hP hD hS 1 0 rfl rfl (Nat.le_of_ble_eq_true rfl) dX2_survey_23 rfl (by omega) (by decide) (fun H locs hP hD hS => ?_)
    refine z_iinc (a := i) (k := 2) (lv' := [(2, .int (zI (i + 1))), (0, .ref ga), (1, .ref pa)]) hx hb dX2_survey_24 hl rfl (by decide) rfl (fun ls hl => ?_)
    refine lv_goto (tgt := 10) hx hb dX2_survey_27 (by decide) ?_
    exact ih n (i + 1) (zup g i 0) (by omega) (by omega) (by exact fill_step hz) _ _ hP hD hS _ (lv_sub hl [1, 2, 0] rfl)
set_option maxHeartbeats 4000000 in
set_option maxRecDepth 100000 in
theorem c_X2_survey (l : Launch) (D : va_G) (cB cI cZ cM : ClassId) (Hp : Heap) (ga : Nat) (la : Nat) (fa : Nat) (ua : Nat) (lw : Int → Int) (d : Int → Int) (F : Int → Int) (m : Int) (sv : Int) (pa : Nat) (sa : Nat) (ba : Nat) (so : Int → Int) (bm : Int → Int) (P : Int) (TH : Int) (B : Int) (ra : Int) (su : Int) (vw : Int) (no : Int) (dn : Int) (ha : Int) (hP4 : 0 ≤ P ∧ P ≤ 4) (hso : ∀ i : Int, 0 ≤ i → i < 4 → 0 ≤ so i ∧ so i ≤ 3) (hB2 : 0 ≤ B ∧ B ≤ 2) (hbm : ∀ i : Int, 0 ≤ i → i < 2 → 0 ≤ bm i ∧ bm i < 256) (hdn : 0 ≤ dn ∧ dn ≤ 4) (hsv : (sv = 0 ∨ sv = 1) ∧ (sv = 1 → lwOK lw so bm P B dn)) : cWv l yX2_survey wsX2_survey (rmW 4 0 0 91) D (TYS cB cI cZ cM) [.ref ga, .ref pa] [(ga, .inr (2, [.ref la, .ref fa, .ref ua, .int (zI m), .int (zI sv)])), (la, .inl (cB, 6561, .inl (zia lw))), (fa, .inl (cI, 6561, .inl (zia d))), (ua, .inl (cI, 3394, .inl (zia F))), (pa, .inr (1, [.ref sa, .int (zI P), .int (zI TH), .ref ba, .int (zI B), .int (zI ra), .int (zI su), .int (zI vw), .int (zI no), .int (zI dn), .int (zI ha)])), (sa, .inl (cI, 4, .inl (zia so))), (ba, .inl (cI, 2, .inl (zia bm)))] Hp (fun (_u : Unit) => True) (fun (_u : Unit) => [(ga, .inr (2, [.ref la, .ref fa, .ref ua, .int (zI m), .int (zI 1)])), (la, .inl (cB, 6561, .inl (zia (lwS so bm P B dn)))), (fa, .inl (cI, 6561, .inl (zia d))), (ua, .inl (cI, 3394, .inl (zia F))), (pa, .inr (1, [.ref sa, .int (zI P), .int (zI TH), .ref ba, .int (zI B), .int (zI ra), .int (zI su), .int (zI vw), .int (zI no), .int (zI dn), .int (zI ha)])), (sa, .inl (cI, 4, .inl (zia so))), (ba, .inl (cI, 2, .inl (zia bm)))]) 0 0 := by
  refine wr_startv (by decide) rfl (Nat.le_of_ble_eq_true rfl) ?_
  intro pg ev sx mm args below meth cd ls A M hP hD hS hA hK hl
  obtain ⟨hx, hb, hr, hml, hown, hts, hlk, hN0⟩ := id M
  have hl : lv_has ls 4 [(0, .ref ga), (1, .ref pa)] := hl
  refine W.widen (k := 0) (n := 0) (Nat.zero_le _) (Nat.zero_le _) ?_
  refine lv_aload_n hx hb dX2_survey_0 rfl (lv_at hl 0 rfl) ?_
  refine va_get (D := D) (ci := 2) (C := RX2) (T := TX2) (N := 5) hx hb hts inc_X2_survey_2 hown hK hP 0 rfl rfl 4 (by decide) (hts (.fieldLink RX2 22 "BedHouse$Search" "surveyed" "Z") (by decide +kernel)) (fun _ h9 => h9) rfl dX2_survey_1 ?_
  refine z_if_eq (tgt := 8) hx hb dX2_survey_4 (by decide) (by omega) (fun c_4 => ?_) (fun c_4 => ?_)
  · skip
    refine lv_iconst (v := zI 0) hx hb dX2_survey_8 rfl ?_
    refine lv_istore_n (lv' := [(2, .int (zI 0)), (0, .ref ga), (1, .ref pa)]) hx hb dX2_survey_9 rfl hl (by decide) rfl (fun ls hl => ?_)
    exact lp_X2_survey_10 l D cB cI cZ cM ga la fa ua lw d F m sv pa sa ba so bm P TH B ra su vw no dn ha hP4 hso hB2 hbm hdn hsv M hK hA (6561 + 1) 6561 0 lw (Nat.lt_succ_self _) (by omega) (by intro j hj hj2; omega) _ _ hP hD hS _ (lv_sub hl [1, 2, 0] rfl)
  have hP := zP_arr (G := lwS so bm P B dn) hP 1 rfl (hsv.2 (by omega))
  have hD := hD.set (p := 1) (e := .inl (cB, 6561, .inl (zia (lwS so bm P B dn)))) rfl
  have hP : va_P D vwCl [(ga, .inr (2, [.ref la, .ref fa, .ref ua, .int (zI m), .int (zI sv)])), (la, .inl (cB, 6561, .inl (zia (lwS so bm P B dn)))), (fa, .inl (cI, 6561, .inl (zia d))), (ua, .inl (cI, 3394, .inl (zia F))), (pa, .inr (1, [.ref sa, .int (zI P), .int (zI TH), .ref ba, .int (zI B), .int (zI ra), .int (zI su), .int (zI vw), .int (zI no), .int (zI dn), .int (zI ha)])), (sa, .inl (cI, 4, .inl (zia so))), (ba, .inl (cI, 2, .inl (zia bm)))] _ := hP
  have hD : va_D A [(ga, .inr (2, [.ref la, .ref fa, .ref ua, .int (zI m), .int (zI sv)])), (la, .inl (cB, 6561, .inl (zia (lwS so bm P B dn)))), (fa, .inl (cI, 6561, .inl (zia d))), (ua, .inl (cI, 3394, .inl (zia F))), (pa, .inr (1, [.ref sa, .int (zI P), .int (zI TH), .ref ba, .int (zI B), .int (zI ra), .int (zI su), .int (zI vw), .int (zI no), .int (zI dn), .int (zI ha)])), (sa, .inl (cI, 4, .inl (zia so))), (ba, .inl (cI, 2, .inl (zia bm)))] := hD
  obtain rfl : sv = 1 := by omega
  exact wr_retv M dX2_survey_7 (u := ()) (trivial) hP hD hS
set_option maxHeartbeats 4000000 in
set_option maxRecDepth 100000 in
theorem lp_X2_spread_87 (l : Launch) (D : va_G) (cB cI cZ cM : ClassId) (ga : Nat) (la : Nat) (fa : Nat) (ua : Nat) (lw : Int → Int) (d : Int → Int) (F : Int → Int) (m : Int) (sv : Int) (pa : Nat) (sa : Nat) (ba : Nat) (so : Int → Int) (bm : Int → Int) (P : Int) (TH : Int) (B : Int) (ra : Int) (su : Int) (vw : Int) (no : Int) (dn : Int) (ha : Int) (st : Int) (acts : Int) (hlw : ∀ j : Int, 0 ≤ j → j < 6561 → 0 ≤ lw j ∧ lw j ≤ 1) (hP4 : 0 ≤ P ∧ P ≤ 4) (hst : 0 ≤ st ∧ st ≤ 3394) (hFs : ∀ j : Int, 0 ≤ j → j < st → 0 ≤ F j ∧ F j < 6561) (hac : -100000 ≤ acts ∧ acts ≤ 100000) {pg : Program} {ev : Env} {sx : State} {mm : MethodId} {args : Array Value} {below : List Frame} {meth : Method} {cd : Code} (M : MX pg sx mm args meth cd cX2_spread 6 none RX2 wsX2_spread) (hK : va_K D vwCl (TYS cB cI cZ cM) sx) {A : Nat → Prop} (hA : ∀ q : Nat, sx.heap.size ≤ q → A q) : ∀ (N : Nat) (n : Nat) (i : Int) (S : BQ), (n < N) → (0 ≤ i ∧ i + n = 3394) → (qok S) → (goF lw P acts n i S = sprA lw P F st acts) → ∀ (H : Heap) (locs : List Loc), va_P D vwCl [(ga, .inr (2, [.ref la, .ref fa, .ref ua, .int (zI S.2.1), .int (zI sv)])), (la, .inl (cB, 6561, .inl (zia lw))), (fa, .inl (cI, 6561, .inl (zia S.2.2))), (ua, .inl (cI, 3394, .inl (zia S.1))), (pa, .inr (1, [.ref sa, .int (zI P), .int (zI TH), .ref ba, .int (zI B), .int (zI ra), .int (zI su), .int (zI vw), .int (zI no), .int (zI dn), .int (zI ha)])), (sa, .inl (cI, 4, .inl (zia so))), (ba, .inl (cI, 2, .inl (zia bm)))] H → va_D A [(ga, .inr (2, [.ref la, .ref fa, .ref ua, .int (zI S.2.1), .int (zI sv)])), (la, .inl (cB, 6561, .inl (zia lw))), (fa, .inl (cI, 6561, .inl (zia S.2.2))), (ua, .inl (cI, 3394, .inl (zia S.1))), (pa, .inr (1, [.ref sa, .int (zI P), .int (zI TH), .ref ba, .int (zI B), .int (zI ra), .int (zI su), .int (zI vw), .int (zI no), .int (zI dn), .int (zI ha)])), (sa, .inl (cI, 4, .inl (zia so))), (ba, .inl (cI, 2, .inl (zia bm)))] → va_S A sx.heap H locs → ∀ ls : Array Slot, lv_has ls 6 [(0, .ref ga), (1, .ref pa), (2, .int (zI st)), (3, .int (zI acts)), (4, .int (zI i))] → W pg l ev (rmW 3 0 0 68) sx mm args below meth cd H locs 0 0 (QWv below args sx A D (fun (u : BQ) => u = sprA lw P F st acts) (fun (u : BQ) => [(ga, .inr (2, [.ref la, .ref fa, .ref ua, .int (zI u.2.1), .int (zI sv)])), (la, .inl (cB, 6561, .inl (zia lw))), (fa, .inl (cI, 6561, .inl (zia u.2.2))), (ua, .inl (cI, 3394, .inl (zia u.1))), (pa, .inr (1, [.ref sa, .int (zI P), .int (zI TH), .ref ba, .int (zI B), .int (zI ra), .int (zI su), .int (zI vw), .int (zI no), .int (zI dn), .int (zI ha)])), (sa, .inl (cI, 4, .inl (zia so))), (ba, .inl (cI, 2, .inl (zia bm)))]) 0 0) (F0 mm 87 ls []) := by
  intro N
  induction N with
  | zero => intro n i S hN; exact absurd hN (Nat.not_lt_zero _)
  | succ N ih =>
    intro n i S hN hi hs hv H locs hP hD hS ls hl
    obtain ⟨hx, hb, hr, hml, hown, hts, hlk, hN0⟩ := id M
    have hsm := hs.1
    refine lv_iload hx hb dX2_spread_87 (lv_at hl 4 rfl) ?_
    refine lv_aload_n hx hb dX2_spread_89 rfl (lv_at hl 0 rfl) ?_
    refine va_get (D := D) (ci := 2) (C := RX2) (T := TX2) (N := 5) hx hb hts inc_X2_spread_2 hown hK hP 0 rfl rfl 3 (by decide) (hts (.fieldLink RX2 44 "BedHouse$Search" "reached" "I") (by decide +kernel)) (fun _ h9 => h9) rfl dX2_spread_90 ?_
    refine z_icmp_ge (tgt := 145) hx hb dX2_spread_93 (by decide) (by omega) (fun c_93 => ?_) (fun c_93 => ?_)
    · skip
      obtain ⟨hs1, hs2, hs3⟩ := id hs
      exact wr_retv M dX2_spread_145 (u := S) (by rw [← hv, goF_stop n (by omega)]) hP hD hS
    obtain ⟨hs1, hs2, hs3⟩ := id hs
    have hF2 := hs2 i hi.1 c_93
    obtain ⟨n, rfl⟩ : ∃ j : Nat, n = j + 1 := ⟨n - 1, by omega⟩
    refine lv_iload hx hb dX2_spread_96 (lv_at hl 4 rfl) ?_
    refine lv_sipush (v := zI 3394) hx hb dX2_spread_98 (by decide) ?_
    refine z_icmp_ge (tgt := 145) hx hb dX2_spread_101 (by decide) (by omega) (fun c_101 => ?_) (fun c_101 => ?_)
    · skip
      exfalso; omega
    refine lv_aload_n hx hb dX2_spread_104 rfl (lv_at hl 0 rfl) ?_
    refine va_get (D := D) (ci := 2) (C := RX2) (T := TX2) (N := 5) hx hb hts inc_X2_spread_2 hown hK hP 0 rfl rfl 2 (by decide) (hts (.fieldLink RX2 19 "BedHouse$Search" "queue" "[I") (by decide +kernel)) (fun _ h9 => h9) rfl dX2_spread_105 ?_
    refine lv_iload hx hb dX2_spread_108 (lv_at hl 4 rfl) ?_
    refine z_iald hx hb hK hP 3 1 rfl rfl (Nat.le_of_ble_eq_true rfl) dX2_spread_110 (by omega) ?_
    refine lv_istore (lv' := [(5, .int (zI (S.1 i))), (0, .ref ga), (1, .ref pa), (2, .int (zI st)), (3, .int (zI acts)), (4, .int (zI i))]) hx hb dX2_spread_111 hl (by decide) rfl (fun ls hl => ?_)
    refine lv_aload_n hx hb dX2_spread_113 rfl (lv_at hl 1 rfl) ?_
    refine lv_iload hx hb dX2_spread_114 (lv_at hl 0 rfl) ?_
    have hft := ftA_in (d := S.2.2) (h := S.1 i) (by omega)
    refine pc_V (As := [.int (zI (S.1 i))]) (rest := []) M (c_X2_farTo l D cB cI cZ cM _ ga la fa ua lw S.2.2 S.1 S.2.1 sv (S.1 i) (by first | assumption | omega)) gX2_spread_X2_farTo rfl ⟨rfl, hd_X2_farTo⟩ ⟨Nat.le_of_ble_eq_true rfl, Nat.le_of_ble_eq_true rfl⟩ hK hP [0, 1, 2, 3] rfl 0 2 rfl rfl rfl hl.1 rfl rfl (Nat.le_of_ble_eq_true rfl) dX2_spread_116 ⟨Nat.le_of_ble_eq_true rfl, Nat.le_of_ble_eq_true rfl⟩ (fun r_116 h_116 => ?_)
    subst h_116
    refine lv_iload_n hx hb dX2_spread_119 rfl (lv_at hl 4 rfl) ?_
    refine z_icmp_lt (tgt := 124) hx hb dX2_spread_120 (by decide) (by omega) (fun c_120 => ?_) (fun c_120 => ?_)
    · skip
      refine lv_aload_n hx hb dX2_spread_124 rfl (lv_at hl 1 rfl) ?_
      refine lv_aload_n hx hb dX2_spread_125 rfl (lv_at hl 2 rfl) ?_
      refine lv_iload hx hb dX2_spread_126 (lv_at hl 0 rfl) ?_
      refine lv_aload_n hx hb dX2_spread_128 rfl (lv_at hl 1 rfl) ?_
      refine lv_iload hx hb dX2_spread_129 (lv_at hl 0 rfl) ?_
      refine pc_V (As := [.int (zI (S.1 i))]) (rest := [.int (zI (S.1 i)), .ref pa, .ref ga]) M (c_X2_farTo l D cB cI cZ cM _ ga la fa ua lw S.2.2 S.1 S.2.1 sv (S.1 i) (by first | assumption | omega)) gX2_spread_X2_farTo rfl ⟨rfl, hd_X2_farTo⟩ ⟨Nat.le_of_ble_eq_true rfl, Nat.le_of_ble_eq_true rfl⟩ hK hP [0, 1, 2, 3] rfl 0 2 rfl rfl rfl hl.1 rfl rfl (Nat.le_of_ble_eq_true rfl) dX2_spread_131 ⟨Nat.le_of_ble_eq_true rfl, Nat.le_of_ble_eq_true rfl⟩ (fun r_131 h_131 => ?_)
      subst h_131
      refine lv_iconst (v := zI 1) hx hb dX2_spread_134 rfl ?_
      refine z_iadd hx hb dX2_spread_135 ?_
      refine wc_Vv (As := [.ref pa, .int (zI (S.1 i)), .int (zI ((ftA S.2.2 (S.1 i)) + 1))]) (rest := []) (wr := []) (ws' := (fun u_136 : BQ => [(ga, .inr (2, [.ref la, .ref fa, .ref ua, .int (zI u_136.2.1), .int (zI sv)])), (la, .inl (cB, 6561, .inl (zia lw))), (fa, .inl (cI, 6561, .inl (zia u_136.2.2))), (ua, .inl (cI, 3394, .inl (zia u_136.1))), (pa, .inr (1, [.ref sa, .int (zI P), .int (zI TH), .ref ba, .int (zI B), .int (zI ra), .int (zI su), .int (zI vw), .int (zI no), .int (zI dn), .int (zI ha)])), (sa, .inl (cI, 4, .inl (zia so))), (ba, .inl (cI, 2, .inl (zia bm)))])) M (c_X2_spreadByOneAct l D cB cI cZ cM _ ga la fa ua lw S.2.2 S.1 S.2.1 sv pa sa ba so bm P TH B ra su vw no dn ha (S.1 i) ((ftA S.2.2 (S.1 i)) + 1) (by first | assumption | omega) (hs) (by first | assumption | omega) (by first | assumption | omega) (by first | assumption | omega)) gX2_spread_X2_spreadByOneAct rfl ⟨rfl, hd_X2_spreadByOneAct⟩ ⟨Nat.le_of_ble_eq_true rfl, Nat.le_of_ble_eq_true rfl⟩ hK hP hD hS hA [0, 1, 2, 3, 4, 5, 6] [] [0, 1, 2, 3, 4, 5, 6] rfl rfl (by decide) (by decide) (by decide) (fun _ => rfl) 0 2 rfl rfl rfl hl.1 rfl rfl (Nat.le_of_ble_eq_true rfl) dX2_spread_136 ⟨Nat.le_of_ble_eq_true rfl, Nat.le_of_ble_eq_true rfl⟩ (by decide) (fun u_136 H locs h_136 hP hD hS => ?_)
      have h136q := (oneA_qok (lw := lw) (P := P) (h := S.1 i) (n := ftA S.2.2 (S.1 i) + 1) hs (by omega)).1
      rw [show oneA lw P (S.1 i) (ftA S.2.2 (S.1 i) + 1) S = u_136 from h_136.symm] at h136q
      refine z_iinc (a := i) (k := 5) (lv' := [(4, .int (zI (i + 1))), (5, .int (zI (S.1 i))), (0, .ref ga), (1, .ref pa), (2, .int (zI st)), (3, .int (zI acts))]) hx hb dX2_spread_139 hl rfl (by decide) rfl (fun ls hl => ?_)
      refine lv_goto (tgt := 87) hx hb dX2_spread_142 (by decide) ?_
      exact ih n (i + 1) u_136 (by omega) (by omega) (by exact h136q) (by rw [← hv, goF, if_pos c_93, if_neg (by omega), h_136]) _ _ hP hD hS _ (lv_sub hl [2, 3, 4, 5, 0] rfl)
    exact wr_retv M dX2_spread_123 (u := S) (by rw [← hv, goF, if_pos c_93, if_pos c_120]) hP hD hS
set_option maxHeartbeats 4000000 in
set_option maxRecDepth 100000 in
theorem lp_X2_spread_29 (l : Launch) (D : va_G) (cB cI cZ cM : ClassId) (ga : Nat) (la : Nat) (fa : Nat) (ua : Nat) (lw : Int → Int) (d : Int → Int) (F : Int → Int) (m : Int) (sv : Int) (pa : Nat) (sa : Nat) (ba : Nat) (so : Int → Int) (bm : Int → Int) (P : Int) (TH : Int) (B : Int) (ra : Int) (su : Int) (vw : Int) (no : Int) (dn : Int) (ha : Int) (st : Int) (acts : Int) (hlw : ∀ j : Int, 0 ≤ j → j < 6561 → 0 ≤ lw j ∧ lw j ≤ 1) (hP4 : 0 ≤ P ∧ P ≤ 4) (hst : 0 ≤ st ∧ st ≤ 3394) (hFs : ∀ j : Int, 0 ≤ j → j < st → 0 ≤ F j ∧ F j < 6561) (hac : -100000 ≤ acts ∧ acts ≤ 100000) {pg : Program} {ev : Env} {sx : State} {mm : MethodId} {args : Array Value} {below : List Frame} {meth : Method} {cd : Code} (M : MX pg sx mm args meth cd cX2_spread 6 none RX2 wsX2_spread) (hK : va_K D vwCl (TYS cB cI cZ cM) sx) {A : Nat → Prop} (hA : ∀ q : Nat, sx.heap.size ≤ q → A q) : ∀ (N : Nat) (n : Nat) (i : Int) (g : Int → Int), (n < N) → (0 ≤ i ∧ i + n = st) → (stF F n i g = stF F st.toNat 0 (fun _ => -9)) → ∀ (H : Heap) (locs : List Loc), va_P D vwCl [(ga, .inr (2, [.ref la, .ref fa, .ref ua, .int (zI m), .int (zI sv)])), (la, .inl (cB, 6561, .inl (zia lw))), (fa, .inl (cI, 6561, .inl (zia g))), (ua, .inl (cI, 3394, .inl (zia F))), (pa, .inr (1, [.ref sa, .int (zI P), .int (zI TH), .ref ba, .int (zI B), .int (zI ra), .int (zI su), .int (zI vw), .int (zI no), .int (zI dn), .int (zI ha)])), (sa, .inl (cI, 4, .inl (zia so))), (ba, .inl (cI, 2, .inl (zia bm)))] H → va_D A [(ga, .inr (2, [.ref la, .ref fa, .ref ua, .int (zI m), .int (zI sv)])), (la, .inl (cB, 6561, .inl (zia lw))), (fa, .inl (cI, 6561, .inl (zia g))), (ua, .inl (cI, 3394, .inl (zia F))), (pa, .inr (1, [.ref sa, .int (zI P), .int (zI TH), .ref ba, .int (zI B), .int (zI ra), .int (zI su), .int (zI vw), .int (zI no), .int (zI dn), .int (zI ha)])), (sa, .inl (cI, 4, .inl (zia so))), (ba, .inl (cI, 2, .inl (zia bm)))] → va_S A sx.heap H locs → ∀ ls : Array Slot, lv_has ls 6 [(0, .ref ga), (1, .ref pa), (2, .int (zI st)), (3, .int (zI acts)), (4, .int (zI i))] → W pg l ev (rmW 3 0 0 68) sx mm args below meth cd H locs 0 0 (QWv below args sx A D (fun (u : BQ) => u = sprA lw P F st acts) (fun (u : BQ) => [(ga, .inr (2, [.ref la, .ref fa, .ref ua, .int (zI u.2.1), .int (zI sv)])), (la, .inl (cB, 6561, .inl (zia lw))), (fa, .inl (cI, 6561, .inl (zia u.2.2))), (ua, .inl (cI, 3394, .inl (zia u.1))), (pa, .inr (1, [.ref sa, .int (zI P), .int (zI TH), .ref ba, .int (zI B), .int (zI ra), .int (zI su), .int (zI vw), .int (zI no), .int (zI dn), .int (zI ha)])), (sa, .inl (cI, 4, .inl (zia so))), (ba, .inl (cI, 2, .inl (zia bm)))]) 0 0) (F0 mm 29 ls []) := by
  intro N
  induction N with
  | zero => intro n i g hN; exact absurd hN (Nat.not_lt_zero _)
  | succ N ih =>
    intro n i g hN hi hv H locs hP hD hS ls hl
    obtain ⟨hx, hb, hr, hml, hown, hts, hlk, hN0⟩ := id M
    refine lv_iload hx hb dX2_spread_29 (lv_at hl 4 rfl) ?_
    refine lv_iload_n hx hb dX2_spread_31 rfl (lv_at hl 2 rfl) ?_
    refine z_icmp_ge (tgt := 79) hx hb dX2_spread_32 (by decide) (by omega) (fun c_32 => ?_) (fun c_32 => ?_)
    · skip
      obtain rfl : n = 0 := by omega
      have hP := zP_arr (G := stF F st.toNat 0 (fun _ => -9)) hP 2 rfl (fun j h1 h2 => by rw [← hv]; rfl)
      have hD := hD.set (p := 2) (e := .inl (cI, 6561, .inl (zia (stF F st.toNat 0 (fun _ => -9))))) rfl
      have hP : va_P D vwCl [(ga, .inr (2, [.ref la, .ref fa, .ref ua, .int (zI m), .int (zI sv)])), (la, .inl (cB, 6561, .inl (zia lw))), (fa, .inl (cI, 6561, .inl (zia (stF F st.toNat 0 (fun _ => -9))))), (ua, .inl (cI, 3394, .inl (zia F))), (pa, .inr (1, [.ref sa, .int (zI P), .int (zI TH), .ref ba, .int (zI B), .int (zI ra), .int (zI su), .int (zI vw), .int (zI no), .int (zI dn), .int (zI ha)])), (sa, .inl (cI, 4, .inl (zia so))), (ba, .inl (cI, 2, .inl (zia bm)))] _ := hP
      have hD : va_D A [(ga, .inr (2, [.ref la, .ref fa, .ref ua, .int (zI m), .int (zI sv)])), (la, .inl (cB, 6561, .inl (zia lw))), (fa, .inl (cI, 6561, .inl (zia (stF F st.toNat 0 (fun _ => -9))))), (ua, .inl (cI, 3394, .inl (zia F))), (pa, .inr (1, [.ref sa, .int (zI P), .int (zI TH), .ref ba, .int (zI B), .int (zI ra), .int (zI su), .int (zI vw), .int (zI no), .int (zI dn), .int (zI ha)])), (sa, .inl (cI, 4, .inl (zia so))), (ba, .inl (cI, 2, .inl (zia bm)))] := hD
      refine lv_aload_n hx hb dX2_spread_79 rfl (lv_at hl 0 rfl) ?_
      refine lv_iload_n hx hb dX2_spread_80 rfl (lv_at hl 2 rfl) ?_
      refine va_put (D := D) (ci := 2) (v := .int (zI st)) (ty := .int) (C := RX2) (T := TX2) (N := 5) hx hb hts inc_X2_spread_2 tyX2 tyX2_ok nmX2 hown hK hP hD hS 0 rfl rfl 3 (by decide) (hts (.fieldLink RX2 44 "BedHouse$Search" "reached" "I") (by decide +kernel)) (fun _ h9 => h9) rfl (by decide +kernel) rfl rfl (Nat.le_of_ble_eq_true rfl) dX2_spread_81 (fun H locs hP hD hS => ?_)
      have hP : va_P D vwCl [(ga, .inr (2, [.ref la, .ref fa, .ref ua, .int (zI st), .int (zI sv)])), (la, .inl (cB, 6561, .inl (zia lw))), (fa, .inl (cI, 6561, .inl (zia (stF F st.toNat 0 (fun _ => -9))))), (ua, .inl (cI, 3394, .inl (zia F))), (pa, .inr (1, [.ref sa, .int (zI P), .int (zI TH), .ref ba, .int (zI B), .int (zI ra), .int (zI su), .int (zI vw), .int (zI no), .int (zI dn), .int (zI ha)])), (sa, .inl (cI, 4, .inl (zia so))), (ba, .inl (cI, 2, .inl (zia bm)))] H := hP
      have hD : va_D A [(ga, .inr (2, [.ref la, .ref fa, .ref ua, .int (zI st), .int (zI sv)])), (la, .inl (cB, 6561, .inl (zia lw))), (fa, .inl (cI, 6561, .inl (zia (stF F st.toNat 0 (fun _ => -9))))), (ua, .inl (cI, 3394, .inl (zia F))), (pa, .inr (1, [.ref sa, .int (zI P), .int (zI TH), .ref ba, .int (zI B), .int (zI ra), .int (zI su), .int (zI vw), .int (zI no), .int (zI dn), .int (zI ha)])), (sa, .inl (cI, 4, .inl (zia so))), (ba, .inl (cI, 2, .inl (zia bm)))] := hD
      refine lv_iconst (v := zI 0) hx hb dX2_spread_84 rfl ?_
      refine lv_istore (lv' := [(4, .int (zI 0)), (0, .ref ga), (1, .ref pa), (2, .int (zI st)), (3, .int (zI acts))]) hx hb dX2_spread_85 hl (by decide) rfl (fun ls hl => ?_)
      exact lp_X2_spread_87 l D cB cI cZ cM ga la fa ua lw d F m sv pa sa ba so bm P TH B ra su vw no dn ha st acts hlw hP4 hst hFs hac M hK hA (3394 + 1) 3394 0 (F, st, stF F st.toNat 0 (fun _ => -9)) (Nat.lt_succ_self _) (by omega) (by exact st_qok hst hFs) (by rfl) _ _ hP hD hS _ (lv_sub hl [1, 2, 3, 4, 0] rfl)
    obtain ⟨n, rfl⟩ : ∃ j : Nat, n = j + 1 := ⟨n - 1, by omega⟩
    have hFi := hFs i (by omega) (by omega)
    refine lv_iload hx hb dX2_spread_35 (lv_at hl 4 rfl) ?_
    refine lv_sipush (v := zI 3394) hx hb dX2_spread_37 (by decide) ?_
    refine z_icmp_ge (tgt := 79) hx hb dX2_spread_40 (by decide) (by omega) (fun c_40 => ?_) (fun c_40 => ?_)
    · skip
      exfalso; omega
    refine lv_aload_n hx hb dX2_spread_43 rfl (lv_at hl 0 rfl) ?_
    refine va_get (D := D) (ci := 2) (C := RX2) (T := TX2) (N := 5) hx hb hts inc_X2_spread_2 hown hK hP 0 rfl rfl 2 (by decide) (hts (.fieldLink RX2 19 "BedHouse$Search" "queue" "[I") (by decide +kernel)) (fun _ h9 => h9) rfl dX2_spread_44 ?_
    refine lv_iload hx hb dX2_spread_47 (lv_at hl 4 rfl) ?_
    refine z_iald hx hb hK hP 3 1 rfl rfl (Nat.le_of_ble_eq_true rfl) dX2_spread_49 (by omega) ?_
    refine lv_istore (lv' := [(5, .int (zI (F i))), (0, .ref ga), (1, .ref pa), (2, .int (zI st)), (3, .int (zI acts)), (4, .int (zI i))]) hx hb dX2_spread_50 hl (by decide) rfl (fun ls hl => ?_)
    refine lv_iload hx hb dX2_spread_52 (lv_at hl 0 rfl) ?_
    refine z_if_lt (tgt := 73) hx hb dX2_spread_54 (by decide) (by omega) (fun c_54 => ?_) (fun c_54 => ?_)
    · skip
      exfalso; omega
    refine lv_iload hx hb dX2_spread_57 (lv_at hl 0 rfl) ?_
    refine lv_sipush (v := zI 6561) hx hb dX2_spread_59 (by decide) ?_
    refine z_icmp_ge (tgt := 73) hx hb dX2_spread_62 (by decide) (by omega) (fun c_62 => ?_) (fun c_62 => ?_)
    · skip
      exfalso; omega
    refine lv_aload_n hx hb dX2_spread_65 rfl (lv_at hl 1 rfl) ?_
    refine va_get (D := D) (ci := 2) (C := RX2) (T := TX2) (N := 5) hx hb hts inc_X2_spread_2 hown hK hP 0 rfl rfl 1 (by decide) (hts (.fieldLink RX2 15 "BedHouse$Search" "far" "[I") (by decide +kernel)) (fun _ h9 => h9) rfl dX2_spread_66 ?_
    refine lv_iload hx hb dX2_spread_69 (lv_at hl 0 rfl) ?_
    refine lv_iconst (v := zI 0) hx hb dX2_spread_71 rfl ?_
    refine z_iast (ws' := [(ga, .inr (2, [.ref la, .ref fa, .ref ua, .int (zI m), .int (zI sv)])), (la, .inl (cB, 6561, .inl (zia lw))), (fa, .inl (cI, 6561, .inl (zia (zup g (F i) 0)))), (ua, .inl (cI, 3394, .inl (zia F))), (pa, .inr (1, [.ref sa, .int (zI P), .int (zI TH), .ref ba, .int (zI B), .int (zI ra), .int (zI su), .int (zI vw), .int (zI no), .int (zI dn), .int (zI ha)])), (sa, .inl (cI, 4, .inl (zia so))), (ba, .inl (cI, 2, .inl (zia bm)))]) hx hb hK hP hD hS 2 1 rfl rfl (Nat.le_of_ble_eq_true rfl) dX2_spread_72 rfl (by omega) (fun H locs hP hD hS => ?_)
    refine z_iinc (a := i) (k := 5) (lv' := [(4, .int (zI (i + 1))), (5, .int (zI (F i))), (0, .ref ga), (1, .ref pa), (2, .int (zI st)), (3, .int (zI acts))]) hx hb dX2_spread_73 hl rfl (by decide) rfl (fun ls hl => ?_)
    refine lv_goto (tgt := 29) hx hb dX2_spread_76 (by decide) ?_
    exact ih n (i + 1) (zup g (F i) 0) (by omega) (by omega) (by rw [← hv, stF, if_pos hFi]) _ _ hP hD hS _ (lv_sub hl [2, 3, 4, 5, 0] rfl)
set_option maxHeartbeats 4000000 in
set_option maxRecDepth 100000 in
theorem lp_X2_spread_3 (l : Launch) (D : va_G) (cB cI cZ cM : ClassId) (ga : Nat) (la : Nat) (fa : Nat) (ua : Nat) (lw : Int → Int) (d : Int → Int) (F : Int → Int) (m : Int) (sv : Int) (pa : Nat) (sa : Nat) (ba : Nat) (so : Int → Int) (bm : Int → Int) (P : Int) (TH : Int) (B : Int) (ra : Int) (su : Int) (vw : Int) (no : Int) (dn : Int) (ha : Int) (st : Int) (acts : Int) (hlw : ∀ j : Int, 0 ≤ j → j < 6561 → 0 ≤ lw j ∧ lw j ≤ 1) (hP4 : 0 ≤ P ∧ P ≤ 4) (hst : 0 ≤ st ∧ st ≤ 3394) (hFs : ∀ j : Int, 0 ≤ j → j < st → 0 ≤ F j ∧ F j < 6561) (hac : -100000 ≤ acts ∧ acts ≤ 100000) {pg : Program} {ev : Env} {sx : State} {mm : MethodId} {args : Array Value} {below : List Frame} {meth : Method} {cd : Code} (M : MX pg sx mm args meth cd cX2_spread 6 none RX2 wsX2_spread) (hK : va_K D vwCl (TYS cB cI cZ cM) sx) {A : Nat → Prop} (hA : ∀ q : Nat, sx.heap.size ≤ q → A q) : ∀ (N : Nat) (n : Nat) (i : Int) (g : Int → Int), (n < N) → (0 ≤ i ∧ i + n = 6561) → (∀ j : Int, 0 ≤ j → j < i → g j = -9) → ∀ (H : Heap) (locs : List Loc), va_P D vwCl [(ga, .inr (2, [.ref la, .ref fa, .ref ua, .int (zI m), .int (zI sv)])), (la, .inl (cB, 6561, .inl (zia lw))), (fa, .inl (cI, 6561, .inl (zia g))), (ua, .inl (cI, 3394, .inl (zia F))), (pa, .inr (1, [.ref sa, .int (zI P), .int (zI TH), .ref ba, .int (zI B), .int (zI ra), .int (zI su), .int (zI vw), .int (zI no), .int (zI dn), .int (zI ha)])), (sa, .inl (cI, 4, .inl (zia so))), (ba, .inl (cI, 2, .inl (zia bm)))] H → va_D A [(ga, .inr (2, [.ref la, .ref fa, .ref ua, .int (zI m), .int (zI sv)])), (la, .inl (cB, 6561, .inl (zia lw))), (fa, .inl (cI, 6561, .inl (zia g))), (ua, .inl (cI, 3394, .inl (zia F))), (pa, .inr (1, [.ref sa, .int (zI P), .int (zI TH), .ref ba, .int (zI B), .int (zI ra), .int (zI su), .int (zI vw), .int (zI no), .int (zI dn), .int (zI ha)])), (sa, .inl (cI, 4, .inl (zia so))), (ba, .inl (cI, 2, .inl (zia bm)))] → va_S A sx.heap H locs → ∀ ls : Array Slot, lv_has ls 6 [(0, .ref ga), (1, .ref pa), (2, .int (zI st)), (3, .int (zI acts)), (4, .int (zI i))] → W pg l ev (rmW 3 0 0 68) sx mm args below meth cd H locs 0 0 (QWv below args sx A D (fun (u : BQ) => u = sprA lw P F st acts) (fun (u : BQ) => [(ga, .inr (2, [.ref la, .ref fa, .ref ua, .int (zI u.2.1), .int (zI sv)])), (la, .inl (cB, 6561, .inl (zia lw))), (fa, .inl (cI, 6561, .inl (zia u.2.2))), (ua, .inl (cI, 3394, .inl (zia u.1))), (pa, .inr (1, [.ref sa, .int (zI P), .int (zI TH), .ref ba, .int (zI B), .int (zI ra), .int (zI su), .int (zI vw), .int (zI no), .int (zI dn), .int (zI ha)])), (sa, .inl (cI, 4, .inl (zia so))), (ba, .inl (cI, 2, .inl (zia bm)))]) 0 0) (F0 mm 3 ls []) := by
  intro N
  induction N with
  | zero => intro n i g hN; exact absurd hN (Nat.not_lt_zero _)
  | succ N ih =>
    intro n i g hN hi hz H locs hP hD hS ls hl
    obtain ⟨hx, hb, hr, hml, hown, hts, hlk, hN0⟩ := id M
    refine lv_iload hx hb dX2_spread_3 (lv_at hl 4 rfl) ?_
    refine lv_sipush (v := zI 6561) hx hb dX2_spread_5 (by decide) ?_
    refine z_icmp_ge (tgt := 26) hx hb dX2_spread_8 (by decide) (by omega) (fun c_8 => ?_) (fun c_8 => ?_)
    · skip
      have hP := zP_arr (G := fun _ => -9) hP 2 rfl (fun j h1 h2 => hz j h1 (by omega))
      have hD := hD.set (p := 2) (e := .inl (cI, 6561, .inl (zia (fun _ => -9)))) rfl
      have hP : va_P D vwCl [(ga, .inr (2, [.ref la, .ref fa, .ref ua, .int (zI m), .int (zI sv)])), (la, .inl (cB, 6561, .inl (zia lw))), (fa, .inl (cI, 6561, .inl (zia (fun _ => -9)))), (ua, .inl (cI, 3394, .inl (zia F))), (pa, .inr (1, [.ref sa, .int (zI P), .int (zI TH), .ref ba, .int (zI B), .int (zI ra), .int (zI su), .int (zI vw), .int (zI no), .int (zI dn), .int (zI ha)])), (sa, .inl (cI, 4, .inl (zia so))), (ba, .inl (cI, 2, .inl (zia bm)))] _ := hP
      have hD : va_D A [(ga, .inr (2, [.ref la, .ref fa, .ref ua, .int (zI m), .int (zI sv)])), (la, .inl (cB, 6561, .inl (zia lw))), (fa, .inl (cI, 6561, .inl (zia (fun _ => -9)))), (ua, .inl (cI, 3394, .inl (zia F))), (pa, .inr (1, [.ref sa, .int (zI P), .int (zI TH), .ref ba, .int (zI B), .int (zI ra), .int (zI su), .int (zI vw), .int (zI no), .int (zI dn), .int (zI ha)])), (sa, .inl (cI, 4, .inl (zia so))), (ba, .inl (cI, 2, .inl (zia bm)))] := hD
      refine lv_iconst (v := zI 0) hx hb dX2_spread_26 rfl ?_
      refine lv_istore (lv' := [(4, .int (zI 0)), (0, .ref ga), (1, .ref pa), (2, .int (zI st)), (3, .int (zI acts))]) hx hb dX2_spread_27 hl (by decide) rfl (fun ls hl => ?_)
      exact lp_X2_spread_29 l D cB cI cZ cM ga la fa ua lw d F m sv pa sa ba so bm P TH B ra su vw no dn ha st acts hlw hP4 hst hFs hac M hK hA (st.toNat + 1) st.toNat 0 (fun _ => -9) (Nat.lt_succ_self _) (by omega) (by rfl) _ _ hP hD hS _ (lv_sub hl [1, 2, 3, 4, 0] rfl)
    obtain ⟨n, rfl⟩ : ∃ j : Nat, n = j + 1 := ⟨n - 1, by omega⟩
    refine lv_aload_n hx hb dX2_spread_11 rfl (lv_at hl 0 rfl) ?_
    refine va_get (D := D) (ci := 2) (C := RX2) (T := TX2) (N := 5) hx hb hts inc_X2_spread_2 hown hK hP 0 rfl rfl 1 (by decide) (hts (.fieldLink RX2 15 "BedHouse$Search" "far" "[I") (by decide +kernel)) (fun _ h9 => h9) rfl dX2_spread_12 ?_
    refine lv_iload hx hb dX2_spread_15 (lv_at hl 4 rfl) ?_
    refine lv_bipush (v := zI (-9)) hx hb dX2_spread_17 (by decide) ?_
    refine z_iast (ws' := [(ga, .inr (2, [.ref la, .ref fa, .ref ua, .int (zI m), .int (zI sv)])), (la, .inl (cB, 6561, .inl (zia lw))), (fa, .inl (cI, 6561, .inl (zia (zup g i (-9))))), (ua, .inl (cI, 3394, .inl (zia F))), (pa, .inr (1, [.ref sa, .int (zI P), .int (zI TH), .ref ba, .int (zI B), .int (zI ra), .int (zI su), .int (zI vw), .int (zI no), .int (zI dn), .int (zI ha)])), (sa, .inl (cI, 4, .inl (zia so))), (ba, .inl (cI, 2, .inl (zia bm)))]) hx hb hK hP hD hS 2 1 rfl rfl (Nat.le_of_ble_eq_true rfl) dX2_spread_19 rfl (by omega) (fun H locs hP hD hS => ?_)
    refine z_iinc (a := i) (k := 4) (lv' := [(4, .int (zI (i + 1))), (0, .ref ga), (1, .ref pa), (2, .int (zI st)), (3, .int (zI acts))]) hx hb dX2_spread_20 hl rfl (by decide) rfl (fun ls hl => ?_)
    refine lv_goto (tgt := 3) hx hb dX2_spread_23 (by decide) ?_
    exact ih n (i + 1) (zup g i (-9)) (by omega) (by omega) (by exact fill_step hz) _ _ hP hD hS _ (lv_sub hl [1, 2, 3, 4, 0] rfl)
set_option maxHeartbeats 4000000 in
set_option maxRecDepth 100000 in
theorem c_X2_spread (l : Launch) (D : va_G) (cB cI cZ cM : ClassId) (Hp : Heap) (ga : Nat) (la : Nat) (fa : Nat) (ua : Nat) (lw : Int → Int) (d : Int → Int) (F : Int → Int) (m : Int) (sv : Int) (pa : Nat) (sa : Nat) (ba : Nat) (so : Int → Int) (bm : Int → Int) (P : Int) (TH : Int) (B : Int) (ra : Int) (su : Int) (vw : Int) (no : Int) (dn : Int) (ha : Int) (st : Int) (acts : Int) (hlw : ∀ j : Int, 0 ≤ j → j < 6561 → 0 ≤ lw j ∧ lw j ≤ 1) (hP4 : 0 ≤ P ∧ P ≤ 4) (hst : 0 ≤ st ∧ st ≤ 3394) (hFs : ∀ j : Int, 0 ≤ j → j < st → 0 ≤ F j ∧ F j < 6561) (hac : -100000 ≤ acts ∧ acts ≤ 100000) : cWv l yX2_spread wsX2_spread (rmW 3 0 0 68) D (TYS cB cI cZ cM) [.ref ga, .ref pa, .int (zI st), .int (zI acts)] [(ga, .inr (2, [.ref la, .ref fa, .ref ua, .int (zI m), .int (zI sv)])), (la, .inl (cB, 6561, .inl (zia lw))), (fa, .inl (cI, 6561, .inl (zia d))), (ua, .inl (cI, 3394, .inl (zia F))), (pa, .inr (1, [.ref sa, .int (zI P), .int (zI TH), .ref ba, .int (zI B), .int (zI ra), .int (zI su), .int (zI vw), .int (zI no), .int (zI dn), .int (zI ha)])), (sa, .inl (cI, 4, .inl (zia so))), (ba, .inl (cI, 2, .inl (zia bm)))] Hp (fun (u : BQ) => u = sprA lw P F st acts) (fun (u : BQ) => [(ga, .inr (2, [.ref la, .ref fa, .ref ua, .int (zI u.2.1), .int (zI sv)])), (la, .inl (cB, 6561, .inl (zia lw))), (fa, .inl (cI, 6561, .inl (zia u.2.2))), (ua, .inl (cI, 3394, .inl (zia u.1))), (pa, .inr (1, [.ref sa, .int (zI P), .int (zI TH), .ref ba, .int (zI B), .int (zI ra), .int (zI su), .int (zI vw), .int (zI no), .int (zI dn), .int (zI ha)])), (sa, .inl (cI, 4, .inl (zia so))), (ba, .inl (cI, 2, .inl (zia bm)))]) 0 0 := by
  refine wr_startv (by decide) rfl (Nat.le_of_ble_eq_true rfl) ?_
  intro pg ev sx mm args below meth cd ls A M hP hD hS hA hK hl
  obtain ⟨hx, hb, hr, hml, hown, hts, hlk, hN0⟩ := id M
  have hl : lv_has ls 6 [(0, .ref ga), (1, .ref pa), (2, .int (zI st)), (3, .int (zI acts))] := hl
  refine W.widen (k := 0) (n := 0) (Nat.zero_le _) (Nat.zero_le _) ?_
  refine lv_iconst (v := zI 0) hx hb dX2_spread_0 rfl ?_
  refine lv_istore (lv' := [(4, .int (zI 0)), (0, .ref ga), (1, .ref pa), (2, .int (zI st)), (3, .int (zI acts))]) hx hb dX2_spread_1 hl (by decide) rfl (fun ls hl => ?_)
  exact lp_X2_spread_3 l D cB cI cZ cM ga la fa ua lw d F m sv pa sa ba so bm P TH B ra su vw no dn ha st acts hlw hP4 hst hFs hac M hK hA (6561 + 1) 6561 0 d (Nat.lt_succ_self _) (by omega) (by intro j hj hj2; omega) _ _ hP hD hS _ (lv_sub hl [1, 2, 3, 4, 0] rfl)
set_option maxHeartbeats 4000000 in
set_option maxRecDepth 100000 in
theorem c_X2_spreadFrom (l : Launch) (D : va_G) (cB cI cZ cM : ClassId) (Hp : Heap) (ga : Nat) (la : Nat) (fa : Nat) (ua : Nat) (lw : Int → Int) (d : Int → Int) (F : Int → Int) (m : Int) (sv : Int) (pa : Nat) (sa : Nat) (ba : Nat) (so : Int → Int) (bm : Int → Int) (P : Int) (TH : Int) (B : Int) (ra : Int) (su : Int) (vw : Int) (no : Int) (dn : Int) (ha : Int) (h : Int) (hlw : ∀ j : Int, 0 ≤ j → j < 6561 → 0 ≤ lw j ∧ lw j ≤ 1) (hP4 : 0 ≤ P ∧ P ≤ 4) (hh : 0 ≤ h ∧ h < 6561) : cWv l yX2_spreadFrom wsX2_spreadFrom (rmW 4 0 0 93) D (TYS cB cI cZ cM) [.ref ga, .ref pa, .int (zI h)] [(ga, .inr (2, [.ref la, .ref fa, .ref ua, .int (zI m), .int (zI sv)])), (la, .inl (cB, 6561, .inl (zia lw))), (fa, .inl (cI, 6561, .inl (zia d))), (ua, .inl (cI, 3394, .inl (zia F))), (pa, .inr (1, [.ref sa, .int (zI P), .int (zI TH), .ref ba, .int (zI B), .int (zI ra), .int (zI su), .int (zI vw), .int (zI no), .int (zI dn), .int (zI ha)])), (sa, .inl (cI, 4, .inl (zia so))), (ba, .inl (cI, 2, .inl (zia bm)))] Hp (fun (u : BQ) => u = sprA lw P (zup F 0 h) 1 6561) (fun (u : BQ) => [(ga, .inr (2, [.ref la, .ref fa, .ref ua, .int (zI u.2.1), .int (zI sv)])), (la, .inl (cB, 6561, .inl (zia lw))), (fa, .inl (cI, 6561, .inl (zia u.2.2))), (ua, .inl (cI, 3394, .inl (zia u.1))), (pa, .inr (1, [.ref sa, .int (zI P), .int (zI TH), .ref ba, .int (zI B), .int (zI ra), .int (zI su), .int (zI vw), .int (zI no), .int (zI dn), .int (zI ha)])), (sa, .inl (cI, 4, .inl (zia so))), (ba, .inl (cI, 2, .inl (zia bm)))]) 0 0 := by
  refine wr_startv (by decide) rfl (Nat.le_of_ble_eq_true rfl) ?_
  intro pg ev sx mm args below meth cd ls A M hP hD hS hA hK hl
  obtain ⟨hx, hb, hr, hml, hown, hts, hlk, hN0⟩ := id M
  have hl : lv_has ls 3 [(0, .ref ga), (1, .ref pa), (2, .int (zI h))] := hl
  refine W.widen (k := 0) (n := 0) (Nat.zero_le _) (Nat.zero_le _) ?_
  refine lv_aload_n hx hb dX2_spreadFrom_0 rfl (lv_at hl 0 rfl) ?_
  refine va_get (D := D) (ci := 2) (C := RX2) (T := TX2) (N := 5) hx hb hts inc_X2_spreadFrom_2 hown hK hP 0 rfl rfl 2 (by decide) (hts (.fieldLink RX2 19 "BedHouse$Search" "queue" "[I") (by decide +kernel)) (fun _ h9 => h9) rfl dX2_spreadFrom_1 ?_
  refine lv_iconst (v := zI 0) hx hb dX2_spreadFrom_4 rfl ?_
  refine lv_iload_n hx hb dX2_spreadFrom_5 rfl (lv_at hl 2 rfl) ?_
  refine z_iast (ws' := [(ga, .inr (2, [.ref la, .ref fa, .ref ua, .int (zI m), .int (zI sv)])), (la, .inl (cB, 6561, .inl (zia lw))), (fa, .inl (cI, 6561, .inl (zia d))), (ua, .inl (cI, 3394, .inl (zia (zup F 0 h)))), (pa, .inr (1, [.ref sa, .int (zI P), .int (zI TH), .ref ba, .int (zI B), .int (zI ra), .int (zI su), .int (zI vw), .int (zI no), .int (zI dn), .int (zI ha)])), (sa, .inl (cI, 4, .inl (zia so))), (ba, .inl (cI, 2, .inl (zia bm)))]) hx hb hK hP hD hS 3 1 rfl rfl (Nat.le_of_ble_eq_true rfl) dX2_spreadFrom_6 rfl (by omega) (fun H locs hP hD hS => ?_)
  refine lv_aload_n hx hb dX2_spreadFrom_7 rfl (lv_at hl 0 rfl) ?_
  refine lv_aload_n hx hb dX2_spreadFrom_8 rfl (lv_at hl 1 rfl) ?_
  refine lv_iconst (v := zI 1) hx hb dX2_spreadFrom_9 rfl ?_
  refine lv_sipush (v := zI 6561) hx hb dX2_spreadFrom_10 (by decide) ?_
  refine wc_Vv (As := [.ref pa, .int (zI 1), .int (zI 6561)]) (rest := []) (wr := []) (ws' := (fun u_13 : BQ => [(ga, .inr (2, [.ref la, .ref fa, .ref ua, .int (zI u_13.2.1), .int (zI sv)])), (la, .inl (cB, 6561, .inl (zia lw))), (fa, .inl (cI, 6561, .inl (zia u_13.2.2))), (ua, .inl (cI, 3394, .inl (zia u_13.1))), (pa, .inr (1, [.ref sa, .int (zI P), .int (zI TH), .ref ba, .int (zI B), .int (zI ra), .int (zI su), .int (zI vw), .int (zI no), .int (zI dn), .int (zI ha)])), (sa, .inl (cI, 4, .inl (zia so))), (ba, .inl (cI, 2, .inl (zia bm)))])) M (c_X2_spread l D cB cI cZ cM _ ga la fa ua lw d (zup F 0 h) m sv pa sa ba so bm P TH B ra su vw no dn ha 1 6561 (by first | assumption | omega) (by first | assumption | omega) (by first | assumption | omega) (fun j h1 h2 => by rw [show j = 0 by omega, zup_s]; exact hh) (by first | assumption | omega)) gX2_spreadFrom_X2_spread rfl ⟨rfl, hd_X2_spread⟩ ⟨Nat.le_of_ble_eq_true rfl, Nat.le_of_ble_eq_true rfl⟩ hK hP hD hS hA [0, 1, 2, 3, 4, 5, 6] [] [0, 1, 2, 3, 4, 5, 6] rfl rfl (by decide) (by decide) (by decide) (fun _ => rfl) 0 2 rfl rfl rfl hl.1 rfl rfl (Nat.le_of_ble_eq_true rfl) dX2_spreadFrom_13 ⟨Nat.le_of_ble_eq_true rfl, Nat.le_of_ble_eq_true rfl⟩ (by decide) (fun u_13 H locs h_13 hP hD hS => ?_)
  exact wr_retv M dX2_spreadFrom_16 (u := u_13) (h_13) hP hD hS
