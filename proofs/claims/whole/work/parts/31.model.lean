theorem inc_X5_houses_5 : ∀ w ∈ wsX50, w ∈ wsX5_houses := by decide +kernel
theorem inc_X5_isBorne_5 : ∀ w ∈ wsX50, w ∈ wsX5_isBorne := by decide +kernel
theorem inc_X5_isLawful_5 : ∀ w ∈ wsX50, w ∈ wsX5_isLawful := by decide +kernel
theorem inc_X5_isLit_5 : ∀ w ∈ wsX50, w ∈ wsX5_isLit := by decide +kernel
theorem inc_X5_isPanel_5 : ∀ w ∈ wsX50, w ∈ wsX5_isPanel := by decide +kernel
theorem inc_X5_leaksIn_5 : ∀ w ∈ wsX50, w ∈ wsX5_leaksIn := by decide +kernel
theorem inc_X5_lying_5 : ∀ w ∈ wsX50, w ∈ wsX5_lying := by decide +kernel
theorem inc_X5_panelAt_5 : ∀ w ∈ wsX50, w ∈ wsX5_panelAt := by decide +kernel
theorem inc_X5_slotIn_5 : ∀ w ∈ wsX50, w ∈ wsX5_slotIn := by decide +kernel
theorem inc_X5_sortAt_5 : ∀ w ∈ wsX50, w ∈ wsX5_sortAt := by decide +kernel
theorem inc_X5_with_5 : ∀ w ∈ wsX50, w ∈ wsX5_with := by decide +kernel
theorem inc_X5_worthOf_5 : ∀ w ∈ wsX50, w ∈ wsX5_worthOf := by decide +kernel
theorem hd_X5_in : yX5_in.cls ≠ "java/lang/invoke/MethodHandle" ∧ yX5_in.cls ≠ "java/lang/invoke/VarHandle" ∧ (parseMethodDescriptor yX5_in.desc).map (fun d => d.parameters.length) = some 3 := by decide +kernel
theorem hd_X5_isBorne : yX5_isBorne.cls ≠ "java/lang/invoke/MethodHandle" ∧ yX5_isBorne.cls ≠ "java/lang/invoke/VarHandle" ∧ (parseMethodDescriptor yX5_isBorne.desc).map (fun d => d.parameters.length) = some 2 := by decide +kernel
theorem hd_X5_isLit : yX5_isLit.cls ≠ "java/lang/invoke/MethodHandle" ∧ yX5_isLit.cls ≠ "java/lang/invoke/VarHandle" ∧ (parseMethodDescriptor yX5_isLit.desc).map (fun d => d.parameters.length) = some 2 := by decide +kernel
theorem hd_X5_isOpen : yX5_isOpen.cls ≠ "java/lang/invoke/MethodHandle" ∧ yX5_isOpen.cls ≠ "java/lang/invoke/VarHandle" ∧ (parseMethodDescriptor yX5_isOpen.desc).map (fun d => d.parameters.length) = some 2 := by decide +kernel
theorem hd_X5_leaksIn : yX5_leaksIn.cls ≠ "java/lang/invoke/MethodHandle" ∧ yX5_leaksIn.cls ≠ "java/lang/invoke/VarHandle" ∧ (parseMethodDescriptor yX5_leaksIn.desc).map (fun d => d.parameters.length) = some 1 := by decide +kernel
theorem hd_X5_lying : yX5_lying.cls ≠ "java/lang/invoke/MethodHandle" ∧ yX5_lying.cls ≠ "java/lang/invoke/VarHandle" ∧ (parseMethodDescriptor yX5_lying.desc).map (fun d => d.parameters.length) = some 1 := by decide +kernel
theorem hd_X5_panelAt : yX5_panelAt.cls ≠ "java/lang/invoke/MethodHandle" ∧ yX5_panelAt.cls ≠ "java/lang/invoke/VarHandle" ∧ (parseMethodDescriptor yX5_panelAt.desc).map (fun d => d.parameters.length) = some 2 := by decide +kernel
theorem hd_X5_power : yX5_power.cls ≠ "java/lang/invoke/MethodHandle" ∧ yX5_power.cls ≠ "java/lang/invoke/VarHandle" ∧ (parseMethodDescriptor yX5_power.desc).map (fun d => d.parameters.length) = some 1 := by decide +kernel
theorem hd_X5_slotIn : yX5_slotIn.cls ≠ "java/lang/invoke/MethodHandle" ∧ yX5_slotIn.cls ≠ "java/lang/invoke/VarHandle" ∧ (parseMethodDescriptor yX5_slotIn.desc).map (fun d => d.parameters.length) = some 2 := by decide +kernel
theorem hd_X5_sortAt : yX5_sortAt.cls ≠ "java/lang/invoke/MethodHandle" ∧ yX5_sortAt.cls ≠ "java/lang/invoke/VarHandle" ∧ (parseMethodDescriptor yX5_sortAt.desc).map (fun d => d.parameters.length) = some 2 := by decide +kernel
set_option maxHeartbeats 4000000 in
set_option maxRecDepth 100000 in
theorem c_X5_in (l : Launch) (D : va_G) (cB cI cZ cM : ClassId) (Hp : Heap) (v : Int) (a : Int) (b : Int) (hv0 : -2147483648 ≤ v ∧ v < 2147483648) (ha0 : -2147483648 ≤ a ∧ a < 2147483648) (hb0 : -2147483648 ≤ b ∧ b < 2147483648) : cP l yX5_in wsX5_in 0 0 D (TYS cB cI cZ cM) [.int (zI v), .int (zI a), .int (zI b)] [] Hp (fun r => r = zI (zb (a ≤ v ∧ v ≤ b))) := by
  refine pu_start (by decide) rfl (Nat.le_of_ble_eq_true rfl) ?_
  intro pg ev sx mm args below meth cd ls M hP hK hl
  obtain ⟨hx, hb, hr, hml, hown, hts, hlk, hN0⟩ := id M
  have hl : lv_has ls 3 [(0, .int (zI v)), (1, .int (zI a)), (2, .int (zI b))] := hl
  refine lv_iload_n hx hb dX5_in_0 rfl (lv_at hl 0 rfl) ?_
  refine lv_iload_n hx hb dX5_in_1 rfl (lv_at hl 1 rfl) ?_
  refine z_icmp_lt (tgt := 14) hx hb dX5_in_2 (by decide) (by omega) (fun c_2 => ?_) (fun c_2 => ?_)
  · skip
    refine lv_iconst (v := zI 0) hx hb dX5_in_14 rfl ?_
    exact pu_retz M (rfl) dX5_in_15 (congrArg zI (by unfold zb; first | (rw [if_pos (by omega)]; done) | (rw [if_neg (by omega)]; done)))
  refine lv_iload_n hx hb dX5_in_5 rfl (lv_at hl 0 rfl) ?_
  refine lv_iload_n hx hb dX5_in_6 rfl (lv_at hl 2 rfl) ?_
  refine z_icmp_gt (tgt := 14) hx hb dX5_in_7 (by decide) (by omega) (fun c_7 => ?_) (fun c_7 => ?_)
  · skip
    refine lv_iconst (v := zI 0) hx hb dX5_in_14 rfl ?_
    exact pu_retz M (rfl) dX5_in_15 (congrArg zI (by unfold zb; first | (rw [if_pos (by omega)]; done) | (rw [if_neg (by omega)]; done)))
  refine lv_iconst (v := zI 1) hx hb dX5_in_10 rfl ?_
  refine lv_goto (tgt := 15) hx hb dX5_in_11 (by decide) ?_
  exact pu_retz M (rfl) dX5_in_15 (congrArg zI (by unfold zb; first | (rw [if_pos (by omega)]; done) | (rw [if_neg (by omega)]; done)))
set_option maxHeartbeats 4000000 in
set_option maxRecDepth 100000 in
theorem lp_X5_power_4 (l : Launch) (D : va_G) (cB cI cZ cM : ClassId) (n : Int) (hn : -100 ≤ n ∧ n ≤ 4) {pg : Program} {ev : Env} {sx : State} {mm : MethodId} {args : Array Value} {below : List Frame} {meth : Method} {cd : Code} (M : MX pg sx mm args meth cd cX5_power 3 (some .int) RX5 wsX5_power) (hP : va_P D vwCl [] sx.heap) (hK : va_K D vwCl (TYS cB cI cZ cM) sx) : ∀ (N : Nat) (j : Nat) (i : Int) (v : Int), (j < N) → (0 ≤ i ∧ i + j = (n.toNat : Int)) → (v = pw9 i) → ∀ ls : Array Slot, lv_has ls 3 [(0, .int (zI n)), (1, .int (zI v)), (2, .int (zI i))] → W pg l ev (rmP 0 0) sx mm args below meth cd sx.heap [] 0 0 (QP below args sx (fun r => r = zI (pw9 n))) (F0 mm 4 ls []) := by
  intro N
  induction N with
  | zero => intro j i v hN; exact absurd hN (Nat.not_lt_zero _)
  | succ N ih =>
    intro j i v hN hi hv ls hl
    obtain ⟨hx, hb, hr, hml, hown, hts, hlk, hN0⟩ := id M
    refine lv_iload_n hx hb dX5_power_4 rfl (lv_at hl 2 rfl) ?_
    refine lv_iload_n hx hb dX5_power_5 rfl (lv_at hl 0 rfl) ?_
    refine z_icmp_ge (tgt := 20) hx hb dX5_power_6 (by decide) (by omega) (fun c_6 => ?_) (fun c_6 => ?_)
    · skip
      obtain rfl : j = 0 := by omega
      refine lv_iload_n hx hb dX5_power_20 rfl (lv_at hl 1 rfl) ?_
      exact pu_ret M dX5_power_21 (congrArg zI (by rw [hv]; unfold pw9; congr 2; omega))
    obtain ⟨j, rfl⟩ : ∃ x : Nat, j = x + 1 := ⟨j - 1, by omega⟩
    refine lv_iload_n hx hb dX5_power_9 rfl (lv_at hl 1 rfl) ?_
    refine lv_bipush (v := zI 9) hx hb dX5_power_10 (by decide) ?_
    refine z_imul hx hb dX5_power_12 ?_
    refine lv_istore_n (lv' := [(1, .int (zI (v * 9))), (0, .int (zI n)), (2, .int (zI i))]) hx hb dX5_power_13 rfl hl (by decide) rfl (fun ls hl => ?_)
    refine z_iinc (a := i) (k := 2) (lv' := [(2, .int (zI (i + 1))), (1, .int (zI (v * 9))), (0, .int (zI n))]) hx hb dX5_power_14 hl rfl (by decide) rfl (fun ls hl => ?_)
    refine lv_goto (tgt := 4) hx hb dX5_power_17 (by decide) ?_
    exact ih j (i + 1) (v * 9) (by omega) (by omega) (by rw [hv, pw9_s (by omega)]) _ (lv_sub hl [2, 1, 0] rfl)
set_option maxHeartbeats 4000000 in
set_option maxRecDepth 100000 in
theorem c_X5_power (l : Launch) (D : va_G) (cB cI cZ cM : ClassId) (Hp : Heap) (n : Int) (hn : -100 ≤ n ∧ n ≤ 4) : cP l yX5_power wsX5_power 0 0 D (TYS cB cI cZ cM) [.int (zI n)] [] Hp (fun r => r = zI (pw9 n)) := by
  refine pu_start (by decide) rfl (Nat.le_of_ble_eq_true rfl) ?_
  intro pg ev sx mm args below meth cd ls M hP hK hl
  obtain ⟨hx, hb, hr, hml, hown, hts, hlk, hN0⟩ := id M
  have hl : lv_has ls 3 [(0, .int (zI n))] := hl
  refine lv_iconst (v := zI 1) hx hb dX5_power_0 rfl ?_
  refine lv_istore_n (lv' := [(1, .int (zI 1)), (0, .int (zI n))]) hx hb dX5_power_1 rfl hl (by decide) rfl (fun ls hl => ?_)
  refine lv_iconst (v := zI 0) hx hb dX5_power_2 rfl ?_
  refine lv_istore_n (lv' := [(2, .int (zI 0)), (1, .int (zI 1)), (0, .int (zI n))]) hx hb dX5_power_3 rfl hl (by decide) rfl (fun ls hl => ?_)
  exact lp_X5_power_4 l D cB cI cZ cM n hn M hP hK (n.toNat + 1) n.toNat 0 1 (Nat.lt_succ_self _) (by omega) (by rfl) _ (lv_sub hl [2, 1, 0] rfl)
set_option maxHeartbeats 4000000 in
set_option maxRecDepth 100000 in
theorem c_X5_isPanel (l : Launch) (D : va_G) (cB cI cZ cM : ClassId) (Hp : Heap) (o0 : Nat) (o1 : Nat) (o2 : Nat) (o3 : Nat) (o4 : Nat) (o5 : Nat) (o6 : Nat) (o7 : Nat) (o8 : Nat) (o9 : Nat) (oz : Nat) (tr : Int64) (td : Int) (g1 : Int) (g2 : Int) (g3 : Int) (g4 : Int) (g5 : Int) (g6 : Int) (g7 : Int) (f2 : Int → Int) (p : Int) (hPm : 0 ≤ f2 0 ∧ f2 0 ≤ 4) (hp0 : -2147483648 ≤ p ∧ p < 2147483648) : cP l yX5_isPanel wsX5_isPanel 1 22 D (TYS cB cI cZ cM) [.ref o0, .int (zI p)] [(o0, .inr (5, [.long tr, .ref o1, .int (zI td), .ref o2, .ref o3, .ref o4, .ref o5, .int (zI g1), .int (zI g2), .int (zI g3), .int (zI g4), .int (zI g5), .int (zI g6), .ref o6, .ref o7, .ref o8, .ref o9, .int (zI g7), .ref oz])), (o2, .inl (cI, 16, .inl (zia f2)))] Hp (fun r => r = zI (zb (0 ≤ p ∧ p < f2 0))) := by
  refine pu_start (by decide) rfl (Nat.le_of_ble_eq_true rfl) ?_
  intro pg ev sx mm args below meth cd ls M hP hK hl
  obtain ⟨hx, hb, hr, hml, hown, hts, hlk, hN0⟩ := id M
  have hl : lv_has ls 2 [(0, .ref o0), (1, .int (zI p))] := hl
  refine lv_iload_n hx hb dX5_isPanel_0 rfl (lv_at hl 1 rfl) ?_
  refine lv_iconst (v := zI 0) hx hb dX5_isPanel_1 rfl ?_
  refine lv_aload_n hx hb dX5_isPanel_2 rfl (lv_at hl 0 rfl) ?_
  refine va_get (D := D) (ci := 5) (C := RX5) (T := TX5) (N := 19) hx hb hts inc_X5_isPanel_5 hown hK hP 0 rfl rfl 3 (by decide) (hts (.fieldLink RX5 13 "BedHouseModel" "plan" "[I") (by decide +kernel)) (fun _ h9 => h9) rfl dX5_isPanel_3 ?_
  refine lv_iconst (v := zI 0) hx hb dX5_isPanel_6 rfl ?_
  refine z_iald hx hb hK hP 1 1 rfl rfl (Nat.le_of_ble_eq_true rfl) dX5_isPanel_7 (by omega) ?_
  refine lv_iconst (v := zI 1) hx hb dX5_isPanel_8 rfl ?_
  refine z_isub hx hb dX5_isPanel_9 ?_
  refine pc_J (As := [.int (zI p), .int (zI 0), .int (zI ((f2 0) - 1))]) (rest := []) M (c_X5_in l D cB cI cZ cM _ p 0 ((f2 0) - 1) (by first | assumption | omega) (by first | assumption | omega) (by first | assumption | omega)) gX5_isPanel_X5_in rfl hd_X5_in ⟨Nat.le_of_ble_eq_true rfl, Nat.le_of_ble_eq_true rfl⟩ hK hP [] rfl hl.1 rfl rfl (Nat.le_of_ble_eq_true rfl) dX5_isPanel_10 ⟨Nat.le_of_ble_eq_true rfl, Nat.le_of_ble_eq_true rfl⟩ (fun r_10 h_10 => ?_)
  subst h_10
  exact pu_retz M (zb_nar (zb_01 _)) dX5_isPanel_13 (congrArg zI (by unfold zb; split <;> split <;> omega))
set_option maxHeartbeats 4000000 in
set_option maxRecDepth 100000 in
theorem c_X5_houses (l : Launch) (D : va_G) (cB cI cZ cM : ClassId) (Hp : Heap) (o0 : Nat) (o1 : Nat) (o2 : Nat) (o3 : Nat) (o4 : Nat) (o5 : Nat) (o6 : Nat) (o7 : Nat) (o8 : Nat) (o9 : Nat) (oz : Nat) (tr : Int64) (td : Int) (g1 : Int) (g2 : Int) (g3 : Int) (g4 : Int) (g5 : Int) (g6 : Int) (g7 : Int) (f2 : Int → Int) (hPm : 0 ≤ f2 0 ∧ f2 0 ≤ 4) : cP l yX5_houses wsX5_houses 1 22 D (TYS cB cI cZ cM) [.ref o0] [(o0, .inr (5, [.long tr, .ref o1, .int (zI td), .ref o2, .ref o3, .ref o4, .ref o5, .int (zI g1), .int (zI g2), .int (zI g3), .int (zI g4), .int (zI g5), .int (zI g6), .ref o6, .ref o7, .ref o8, .ref o9, .int (zI g7), .ref oz])), (o2, .inl (cI, 16, .inl (zia f2)))] Hp (fun r => r = zI (pw9 (f2 0))) := by
  refine pu_start (by decide) rfl (Nat.le_of_ble_eq_true rfl) ?_
  intro pg ev sx mm args below meth cd ls M hP hK hl
  obtain ⟨hx, hb, hr, hml, hown, hts, hlk, hN0⟩ := id M
  have hl : lv_has ls 1 [(0, .ref o0)] := hl
  refine lv_aload_n hx hb dX5_houses_0 rfl (lv_at hl 0 rfl) ?_
  refine va_get (D := D) (ci := 5) (C := RX5) (T := TX5) (N := 19) hx hb hts inc_X5_houses_5 hown hK hP 0 rfl rfl 3 (by decide) (hts (.fieldLink RX5 13 "BedHouseModel" "plan" "[I") (by decide +kernel)) (fun _ h9 => h9) rfl dX5_houses_1 ?_
  refine lv_iconst (v := zI 0) hx hb dX5_houses_4 rfl ?_
  refine z_iald hx hb hK hP 1 1 rfl rfl (Nat.le_of_ble_eq_true rfl) dX5_houses_5 (by omega) ?_
  refine pc_J (As := [.int (zI (f2 0))]) (rest := []) M (c_X5_power l D cB cI cZ cM _ (f2 0) (by first | assumption | omega)) gX5_houses_X5_power rfl hd_X5_power ⟨Nat.le_of_ble_eq_true rfl, Nat.le_of_ble_eq_true rfl⟩ hK hP [] rfl hl.1 rfl rfl (Nat.le_of_ble_eq_true rfl) dX5_houses_6 ⟨Nat.le_of_ble_eq_true rfl, Nat.le_of_ble_eq_true rfl⟩ (fun r_6 h_6 => ?_)
  subst h_6
  exact pu_ret M dX5_houses_9 (congrArg zI (by rfl))
set_option maxHeartbeats 4000000 in
set_option maxRecDepth 100000 in
theorem c_X5_slotIn (l : Launch) (D : va_G) (cB cI cZ cM : ClassId) (Hp : Heap) (o0 : Nat) (o1 : Nat) (o2 : Nat) (o3 : Nat) (o4 : Nat) (o5 : Nat) (o6 : Nat) (o7 : Nat) (o8 : Nat) (o9 : Nat) (oz : Nat) (tr : Int64) (td : Int) (g1 : Int) (g2 : Int) (g3 : Int) (g4 : Int) (g5 : Int) (g6 : Int) (g7 : Int) (f2 : Int → Int) (h : Int) (p : Int) (hPm : 0 ≤ f2 0 ∧ f2 0 ≤ 4) (hh : 0 ≤ h ∧ h < pw9 (f2 0)) (hp : 0 ≤ p ∧ p < f2 0) : cP l yX5_slotIn wsX5_slotIn 1 22 D (TYS cB cI cZ cM) [.ref o0, .int (zI h), .int (zI p)] [(o0, .inr (5, [.long tr, .ref o1, .int (zI td), .ref o2, .ref o3, .ref o4, .ref o5, .int (zI g1), .int (zI g2), .int (zI g3), .int (zI g4), .int (zI g5), .int (zI g6), .ref o6, .ref o7, .ref o8, .ref o9, .int (zI g7), .ref oz])), (o2, .inl (cI, 16, .inl (zia f2)))] Hp (fun r => r = zI (slI (f2 0) h p)) := by
  refine pu_start (by decide) rfl (Nat.le_of_ble_eq_true rfl) ?_
  intro pg ev sx mm args below meth cd ls M hP hK hl
  obtain ⟨hx, hb, hr, hml, hown, hts, hlk, hN0⟩ := id M
  have hl : lv_has ls 3 [(0, .ref o0), (1, .int (zI h)), (2, .int (zI p))] := hl
  have h9r := pw9_rng (n := f2 0) (by omega)
  refine lv_iload_n hx hb dX5_slotIn_0 rfl (lv_at hl 1 rfl) ?_
  refine lv_aload_n hx hb dX5_slotIn_1 rfl (lv_at hl 0 rfl) ?_
  refine va_get (D := D) (ci := 5) (C := RX5) (T := TX5) (N := 19) hx hb hts inc_X5_slotIn_5 hown hK hP 0 rfl rfl 3 (by decide) (hts (.fieldLink RX5 13 "BedHouseModel" "plan" "[I") (by decide +kernel)) (fun _ h9 => h9) rfl dX5_slotIn_2 ?_
  refine lv_iconst (v := zI 0) hx hb dX5_slotIn_5 rfl ?_
  refine z_iald hx hb hK hP 1 1 rfl rfl (Nat.le_of_ble_eq_true rfl) dX5_slotIn_6 (by omega) ?_
  refine lv_iconst (v := zI 1) hx hb dX5_slotIn_7 rfl ?_
  refine z_isub hx hb dX5_slotIn_8 ?_
  refine lv_iload_n hx hb dX5_slotIn_9 rfl (lv_at hl 2 rfl) ?_
  refine z_isub hx hb dX5_slotIn_10 ?_
  refine pc_J (As := [.int (zI (((f2 0) - 1) - p))]) (rest := [.int (zI h)]) M (c_X5_power l D cB cI cZ cM _ (((f2 0) - 1) - p) (by first | assumption | omega)) gX5_slotIn_X5_power rfl hd_X5_power ⟨Nat.le_of_ble_eq_true rfl, Nat.le_of_ble_eq_true rfl⟩ hK hP [] rfl hl.1 rfl rfl (Nat.le_of_ble_eq_true rfl) dX5_slotIn_11 ⟨Nat.le_of_ble_eq_true rfl, Nat.le_of_ble_eq_true rfl⟩ (fun r_11 h_11 => ?_)
  subst h_11
  have h9p := pw9_rng (n := f2 0 - 1 - p) (by omega)
  refine z_idiv hx hb dX5_slotIn_14 (by omega) ?_
  refine lv_bipush (v := zI 9) hx hb dX5_slotIn_15 (by decide) ?_
  have h9d := div_rng9 (h := h) (n := f2 0 - 1 - p) hh.1 (by omega)
  refine z_irem hx hb dX5_slotIn_17 (by omega) ?_
  exact pu_ret M dX5_slotIn_18 (congrArg zI (by rfl))
set_option maxHeartbeats 4000000 in
set_option maxRecDepth 100000 in
theorem c_X5_with (l : Launch) (D : va_G) (cB cI cZ cM : ClassId) (Hp : Heap) (o0 : Nat) (o1 : Nat) (o2 : Nat) (o3 : Nat) (o4 : Nat) (o5 : Nat) (o6 : Nat) (o7 : Nat) (o8 : Nat) (o9 : Nat) (oz : Nat) (tr : Int64) (td : Int) (g1 : Int) (g2 : Int) (g3 : Int) (g4 : Int) (g5 : Int) (g6 : Int) (g7 : Int) (f2 : Int → Int) (h : Int) (p : Int) (k : Int) (hPm : 0 ≤ f2 0 ∧ f2 0 ≤ 4) (hh : 0 ≤ h ∧ h < pw9 (f2 0)) (hp : 0 ≤ p ∧ p < f2 0) : cP l yX5_with wsX5_with 2 44 D (TYS cB cI cZ cM) [.ref o0, .int (zI h), .int (zI p), .int (zI k)] [(o0, .inr (5, [.long tr, .ref o1, .int (zI td), .ref o2, .ref o3, .ref o4, .ref o5, .int (zI g1), .int (zI g2), .int (zI g3), .int (zI g4), .int (zI g5), .int (zI g6), .ref o6, .ref o7, .ref o8, .ref o9, .int (zI g7), .ref oz])), (o2, .inl (cI, 16, .inl (zia f2)))] Hp (fun r => r = zI (wtI (f2 0) h p k)) := by
  refine pu_start (by decide) rfl (Nat.le_of_ble_eq_true rfl) ?_
  intro pg ev sx mm args below meth cd ls M hP hK hl
  obtain ⟨hx, hb, hr, hml, hown, hts, hlk, hN0⟩ := id M
  have hl : lv_has ls 4 [(0, .ref o0), (1, .int (zI h)), (2, .int (zI p)), (3, .int (zI k))] := hl
  refine lv_iload_n hx hb dX5_with_0 rfl (lv_at hl 1 rfl) ?_
  refine lv_iload_n hx hb dX5_with_1 rfl (lv_at hl 3 rfl) ?_
  refine lv_aload_n hx hb dX5_with_2 rfl (lv_at hl 0 rfl) ?_
  refine lv_iload_n hx hb dX5_with_3 rfl (lv_at hl 1 rfl) ?_
  refine lv_iload_n hx hb dX5_with_4 rfl (lv_at hl 2 rfl) ?_
  refine pc_V (As := [.int (zI h), .int (zI p)]) (rest := [.int (zI k), .int (zI h)]) M (c_X5_slotIn l D cB cI cZ cM _ o0 o1 o2 o3 o4 o5 o6 o7 o8 o9 oz tr td g1 g2 g3 g4 g5 g6 g7 f2 h p (by first | assumption | omega) (by first | assumption | omega) (by first | assumption | omega)) gX5_with_X5_slotIn rfl ⟨rfl, hd_X5_slotIn⟩ ⟨Nat.le_of_ble_eq_true rfl, Nat.le_of_ble_eq_true rfl⟩ hK hP [0, 1] rfl 0 5 rfl rfl rfl hl.1 rfl rfl (Nat.le_of_ble_eq_true rfl) dX5_with_5 ⟨Nat.le_of_ble_eq_true rfl, Nat.le_of_ble_eq_true rfl⟩ (fun r_5 h_5 => ?_)
  subst h_5
  refine z_isub hx hb dX5_with_8 ?_
  refine lv_aload_n hx hb dX5_with_9 rfl (lv_at hl 0 rfl) ?_
  refine va_get (D := D) (ci := 5) (C := RX5) (T := TX5) (N := 19) hx hb hts inc_X5_with_5 hown hK hP 0 rfl rfl 3 (by decide) (hts (.fieldLink RX5 13 "BedHouseModel" "plan" "[I") (by decide +kernel)) (fun _ h9 => h9) rfl dX5_with_10 ?_
  refine lv_iconst (v := zI 0) hx hb dX5_with_13 rfl ?_
  refine z_iald hx hb hK hP 1 1 rfl rfl (Nat.le_of_ble_eq_true rfl) dX5_with_14 (by omega) ?_
  refine lv_iconst (v := zI 1) hx hb dX5_with_15 rfl ?_
  refine z_isub hx hb dX5_with_16 ?_
  refine lv_iload_n hx hb dX5_with_17 rfl (lv_at hl 2 rfl) ?_
  refine z_isub hx hb dX5_with_18 ?_
  refine pc_J (As := [.int (zI (((f2 0) - 1) - p))]) (rest := [.int (zI (k - (slI (f2 0) h p))), .int (zI h)]) M (c_X5_power l D cB cI cZ cM _ (((f2 0) - 1) - p) (by first | assumption | omega)) gX5_with_X5_power rfl hd_X5_power ⟨Nat.le_of_ble_eq_true rfl, Nat.le_of_ble_eq_true rfl⟩ hK hP [] rfl hl.1 rfl rfl (Nat.le_of_ble_eq_true rfl) dX5_with_19 ⟨Nat.le_of_ble_eq_true rfl, Nat.le_of_ble_eq_true rfl⟩ (fun r_19 h_19 => ?_)
  subst h_19
  refine z_imul hx hb dX5_with_22 ?_
  refine z_iadd hx hb dX5_with_23 ?_
  exact pu_ret M dX5_with_24 (congrArg zI (by rfl))
set_option maxHeartbeats 4000000 in
set_option maxRecDepth 100000 in
theorem lp_X5_panelAt_2 (l : Launch) (D : va_G) (cB cI cZ cM : ClassId) (o0 : Nat) (o1 : Nat) (o2 : Nat) (o3 : Nat) (o4 : Nat) (o5 : Nat) (o6 : Nat) (o7 : Nat) (o8 : Nat) (o9 : Nat) (oz : Nat) (tr : Int64) (td : Int) (g1 : Int) (g2 : Int) (g3 : Int) (g4 : Int) (g5 : Int) (g6 : Int) (g7 : Int) (f2 : Int → Int) (h : Int) (k : Int) (hPm : 0 ≤ f2 0 ∧ f2 0 ≤ 4) (hh : 0 ≤ h ∧ h < pw9 (f2 0)) (hk0 : -2147483648 ≤ k ∧ k < 2147483648) {pg : Program} {ev : Env} {sx : State} {mm : MethodId} {args : Array Value} {below : List Frame} {meth : Method} {cd : Code} (M : MX pg sx mm args meth cd cX5_panelAt 4 (some .int) RX5 wsX5_panelAt) (hP : va_P D vwCl [(o0, .inr (5, [.long tr, .ref o1, .int (zI td), .ref o2, .ref o3, .ref o4, .ref o5, .int (zI g1), .int (zI g2), .int (zI g3), .int (zI g4), .int (zI g5), .int (zI g6), .ref o6, .ref o7, .ref o8, .ref o9, .int (zI g7), .ref oz])), (o2, .inl (cI, 16, .inl (zia f2)))] sx.heap) (hK : va_K D vwCl (TYS cB cI cZ cM) sx) : ∀ (N : Nat) (n : Nat) (i : Int), (n < N) → (0 ≤ i ∧ i + n = f2 0) → (patF (slI (f2 0) h) k n i = patF (slI (f2 0) h) k (f2 0).toNat 0) → ∀ ls : Array Slot, lv_has ls 4 [(0, .ref o0), (1, .int (zI h)), (2, .int (zI k)), (3, .int (zI i))] → W pg l ev (rmP 2 44) sx mm args below meth cd sx.heap [] 0 0 (QP below args sx (fun r => r = zI (patF (slI (f2 0) h) k (f2 0).toNat 0))) (F0 mm 2 ls []) := by
  intro N
  induction N with
  | zero => intro n i hN; exact absurd hN (Nat.not_lt_zero _)
  | succ N ih =>
    intro n i hN hi hv ls hl
    obtain ⟨hx, hb, hr, hml, hown, hts, hlk, hN0⟩ := id M
    refine lv_iload_n hx hb dX5_panelAt_2 rfl (lv_at hl 3 rfl) ?_
    refine lv_aload_n hx hb dX5_panelAt_3 rfl (lv_at hl 0 rfl) ?_
    refine va_get (D := D) (ci := 5) (C := RX5) (T := TX5) (N := 19) hx hb hts inc_X5_panelAt_5 hown hK hP 0 rfl rfl 3 (by decide) (hts (.fieldLink RX5 13 "BedHouseModel" "plan" "[I") (by decide +kernel)) (fun _ h9 => h9) rfl dX5_panelAt_4 ?_
    refine lv_iconst (v := zI 0) hx hb dX5_panelAt_7 rfl ?_
    refine z_iald hx hb hK hP 1 1 rfl rfl (Nat.le_of_ble_eq_true rfl) dX5_panelAt_8 (by omega) ?_
    refine z_icmp_ge (tgt := 30) hx hb dX5_panelAt_9 (by decide) (by omega) (fun c_9 => ?_) (fun c_9 => ?_)
    · skip
      obtain rfl : n = 0 := by omega
      refine lv_bipush (v := zI (-9)) hx hb dX5_panelAt_30 (by decide) ?_
      exact pu_ret M dX5_panelAt_32 (congrArg zI (by rw [← hv]; rfl))
    obtain ⟨n, rfl⟩ : ∃ j : Nat, n = j + 1 := ⟨n - 1, by omega⟩
    refine lv_aload_n hx hb dX5_panelAt_12 rfl (lv_at hl 0 rfl) ?_
    refine lv_iload_n hx hb dX5_panelAt_13 rfl (lv_at hl 1 rfl) ?_
    refine lv_iload_n hx hb dX5_panelAt_14 rfl (lv_at hl 3 rfl) ?_
    refine pc_V (As := [.int (zI h), .int (zI i)]) (rest := []) M (c_X5_slotIn l D cB cI cZ cM _ o0 o1 o2 o3 o4 o5 o6 o7 o8 o9 oz tr td g1 g2 g3 g4 g5 g6 g7 f2 h i (by first | assumption | omega) (by first | assumption | omega) (by first | assumption | omega)) gX5_panelAt_X5_slotIn rfl ⟨rfl, hd_X5_slotIn⟩ ⟨Nat.le_of_ble_eq_true rfl, Nat.le_of_ble_eq_true rfl⟩ hK hP [0, 1] rfl 0 5 rfl rfl rfl hl.1 rfl rfl (Nat.le_of_ble_eq_true rfl) dX5_panelAt_15 ⟨Nat.le_of_ble_eq_true rfl, Nat.le_of_ble_eq_true rfl⟩ (fun r_15 h_15 => ?_)
    subst h_15
    refine lv_iload_n hx hb dX5_panelAt_18 rfl (lv_at hl 2 rfl) ?_
    have hsl := slI_rng (f2 0) i hh.1
    refine z_icmp_ne (tgt := 24) hx hb dX5_panelAt_19 (by decide) (by omega) (fun c_19 => ?_) (fun c_19 => ?_)
    · skip
      refine z_iinc (a := i) (k := 3) (lv' := [(3, .int (zI (i + 1))), (0, .ref o0), (1, .int (zI h)), (2, .int (zI k))]) hx hb dX5_panelAt_24 hl rfl (by decide) rfl (fun ls hl => ?_)
      refine lv_goto (tgt := 2) hx hb dX5_panelAt_27 (by decide) ?_
      exact ih n (i + 1) (by omega) (by omega) (by rw [← hv, patF, if_neg c_19]) _ (lv_sub hl [1, 2, 3, 0] rfl)
    refine lv_iload_n hx hb dX5_panelAt_22 rfl (lv_at hl 3 rfl) ?_
    exact pu_ret M dX5_panelAt_23 (congrArg zI (by rw [← hv, patF, if_pos c_19]))
set_option maxHeartbeats 4000000 in
set_option maxRecDepth 100000 in
theorem c_X5_panelAt (l : Launch) (D : va_G) (cB cI cZ cM : ClassId) (Hp : Heap) (o0 : Nat) (o1 : Nat) (o2 : Nat) (o3 : Nat) (o4 : Nat) (o5 : Nat) (o6 : Nat) (o7 : Nat) (o8 : Nat) (o9 : Nat) (oz : Nat) (tr : Int64) (td : Int) (g1 : Int) (g2 : Int) (g3 : Int) (g4 : Int) (g5 : Int) (g6 : Int) (g7 : Int) (f2 : Int → Int) (h : Int) (k : Int) (hPm : 0 ≤ f2 0 ∧ f2 0 ≤ 4) (hh : 0 ≤ h ∧ h < pw9 (f2 0)) (hk0 : -2147483648 ≤ k ∧ k < 2147483648) : cP l yX5_panelAt wsX5_panelAt 2 44 D (TYS cB cI cZ cM) [.ref o0, .int (zI h), .int (zI k)] [(o0, .inr (5, [.long tr, .ref o1, .int (zI td), .ref o2, .ref o3, .ref o4, .ref o5, .int (zI g1), .int (zI g2), .int (zI g3), .int (zI g4), .int (zI g5), .int (zI g6), .ref o6, .ref o7, .ref o8, .ref o9, .int (zI g7), .ref oz])), (o2, .inl (cI, 16, .inl (zia f2)))] Hp (fun r => r = zI (patF (slI (f2 0) h) k (f2 0).toNat 0)) := by
  refine pu_start (by decide) rfl (Nat.le_of_ble_eq_true rfl) ?_
  intro pg ev sx mm args below meth cd ls M hP hK hl
  obtain ⟨hx, hb, hr, hml, hown, hts, hlk, hN0⟩ := id M
  have hl : lv_has ls 4 [(0, .ref o0), (1, .int (zI h)), (2, .int (zI k))] := hl
  refine lv_iconst (v := zI 0) hx hb dX5_panelAt_0 rfl ?_
  refine lv_istore_n (lv' := [(3, .int (zI 0)), (0, .ref o0), (1, .int (zI h)), (2, .int (zI k))]) hx hb dX5_panelAt_1 rfl hl (by decide) rfl (fun ls hl => ?_)
  exact lp_X5_panelAt_2 l D cB cI cZ cM o0 o1 o2 o3 o4 o5 o6 o7 o8 o9 oz tr td g1 g2 g3 g4 g5 g6 g7 f2 h k hPm hh hk0 M hP hK (((f2 0).toNat) + 1) ((f2 0).toNat) 0 (Nat.lt_succ_self _) (by omega) (by rfl) _ (lv_sub hl [1, 2, 3, 0] rfl)
set_option maxHeartbeats 4000000 in
set_option maxRecDepth 100000 in
theorem lp_X5_lying_4 (l : Launch) (D : va_G) (cB cI cZ cM : ClassId) (o0 : Nat) (o1 : Nat) (o2 : Nat) (o3 : Nat) (o4 : Nat) (o5 : Nat) (o6 : Nat) (o7 : Nat) (o8 : Nat) (o9 : Nat) (oz : Nat) (tr : Int64) (td : Int) (g1 : Int) (g2 : Int) (g3 : Int) (g4 : Int) (g5 : Int) (g6 : Int) (g7 : Int) (f2 : Int → Int) (h : Int) (hPm : 0 ≤ f2 0 ∧ f2 0 ≤ 4) (hh : 0 ≤ h ∧ h < pw9 (f2 0)) {pg : Program} {ev : Env} {sx : State} {mm : MethodId} {args : Array Value} {below : List Frame} {meth : Method} {cd : Code} (M : MX pg sx mm args meth cd cX5_lying 4 (some .int) RX5 wsX5_lying) (hP : va_P D vwCl [(o0, .inr (5, [.long tr, .ref o1, .int (zI td), .ref o2, .ref o3, .ref o4, .ref o5, .int (zI g1), .int (zI g2), .int (zI g3), .int (zI g4), .int (zI g5), .int (zI g6), .ref o6, .ref o7, .ref o8, .ref o9, .int (zI g7), .ref oz])), (o2, .inl (cI, 16, .inl (zia f2)))] sx.heap) (hK : va_K D vwCl (TYS cB cI cZ cM) sx) : ∀ (N : Nat) (n : Nat) (i : Int) (a : Int), (n < N) → (0 ≤ i ∧ i + n = f2 0) → (0 ≤ a ∧ a ≤ i) → (a + lyC (slI (f2 0) h) n i = lyC (slI (f2 0) h) (f2 0).toNat 0) → ∀ ls : Array Slot, lv_has ls 4 [(0, .ref o0), (1, .int (zI h)), (2, .int (zI a)), (3, .int (zI i))] → W pg l ev (rmP 2 44) sx mm args below meth cd sx.heap [] 0 0 (QP below args sx (fun r => r = zI (lyC (slI (f2 0) h) (f2 0).toNat 0))) (F0 mm 4 ls []) := by
  intro N
  induction N with
  | zero => intro n i a hN; exact absurd hN (Nat.not_lt_zero _)
  | succ N ih =>
    intro n i a hN hi ha hv ls hl
    obtain ⟨hx, hb, hr, hml, hown, hts, hlk, hN0⟩ := id M
    refine lv_iload_n hx hb dX5_lying_4 rfl (lv_at hl 3 rfl) ?_
    refine lv_aload_n hx hb dX5_lying_5 rfl (lv_at hl 0 rfl) ?_
    refine va_get (D := D) (ci := 5) (C := RX5) (T := TX5) (N := 19) hx hb hts inc_X5_lying_5 hown hK hP 0 rfl rfl 3 (by decide) (hts (.fieldLink RX5 13 "BedHouseModel" "plan" "[I") (by decide +kernel)) (fun _ h9 => h9) rfl dX5_lying_6 ?_
    refine lv_iconst (v := zI 0) hx hb dX5_lying_9 rfl ?_
    refine z_iald hx hb hK hP 1 1 rfl rfl (Nat.le_of_ble_eq_true rfl) dX5_lying_10 (by omega) ?_
    refine z_icmp_ge (tgt := 39) hx hb dX5_lying_11 (by decide) (by omega) (fun c_11 => ?_) (fun c_11 => ?_)
    · skip
      obtain rfl : n = 0 := by omega
      refine lv_iload_n hx hb dX5_lying_39 rfl (lv_at hl 2 rfl) ?_
      exact pu_ret M dX5_lying_40 (congrArg zI (by rw [← hv, lyC]; omega))
    obtain ⟨n, rfl⟩ : ∃ j : Nat, n = j + 1 := ⟨n - 1, by omega⟩
    refine lv_iload_n hx hb dX5_lying_14 rfl (lv_at hl 2 rfl) ?_
    refine lv_aload_n hx hb dX5_lying_15 rfl (lv_at hl 0 rfl) ?_
    refine lv_iload_n hx hb dX5_lying_16 rfl (lv_at hl 1 rfl) ?_
    refine lv_iload_n hx hb dX5_lying_17 rfl (lv_at hl 3 rfl) ?_
    refine pc_V (As := [.int (zI h), .int (zI i)]) (rest := [.int (zI a)]) M (c_X5_slotIn l D cB cI cZ cM _ o0 o1 o2 o3 o4 o5 o6 o7 o8 o9 oz tr td g1 g2 g3 g4 g5 g6 g7 f2 h i (by first | assumption | omega) (by first | assumption | omega) (by first | assumption | omega)) gX5_lying_X5_slotIn rfl ⟨rfl, hd_X5_slotIn⟩ ⟨Nat.le_of_ble_eq_true rfl, Nat.le_of_ble_eq_true rfl⟩ hK hP [0, 1] rfl 0 5 rfl rfl rfl hl.1 rfl rfl (Nat.le_of_ble_eq_true rfl) dX5_lying_18 ⟨Nat.le_of_ble_eq_true rfl, Nat.le_of_ble_eq_true rfl⟩ (fun r_18 h_18 => ?_)
    subst h_18
    refine lv_bipush (v := zI 8) hx hb dX5_lying_21 (by decide) ?_
    have hsl := slI_rng (f2 0) i hh.1
    refine z_icmp_ne (tgt := 30) hx hb dX5_lying_23 (by decide) (by omega) (fun c_23 => ?_) (fun c_23 => ?_)
    · skip
      refine lv_iconst (v := zI 0) hx hb dX5_lying_30 rfl ?_
      refine z_iadd hx hb dX5_lying_31 ?_
      refine lv_istore_n (lv' := [(2, .int (zI (a + 0))), (0, .ref o0), (1, .int (zI h)), (3, .int (zI i))]) hx hb dX5_lying_32 rfl hl (by decide) rfl (fun ls hl => ?_)
      refine z_iinc (a := i) (k := 3) (lv' := [(3, .int (zI (i + 1))), (2, .int (zI (a + 0))), (0, .ref o0), (1, .int (zI h))]) hx hb dX5_lying_33 hl rfl (by decide) rfl (fun ls hl => ?_)
      refine lv_goto (tgt := 4) hx hb dX5_lying_36 (by decide) ?_
      exact ih n (i + 1) (a + 0) (by omega) (by omega) (by omega) (by rw [← hv, lyC, if_neg c_23]; omega) _ (lv_sub hl [2, 3, 1, 0] rfl)
    refine lv_iconst (v := zI 1) hx hb dX5_lying_26 rfl ?_
    refine lv_goto (tgt := 31) hx hb dX5_lying_27 (by decide) ?_
    refine z_iadd hx hb dX5_lying_31 ?_
    refine lv_istore_n (lv' := [(2, .int (zI (a + 1))), (0, .ref o0), (1, .int (zI h)), (3, .int (zI i))]) hx hb dX5_lying_32 rfl hl (by decide) rfl (fun ls hl => ?_)
    refine z_iinc (a := i) (k := 3) (lv' := [(3, .int (zI (i + 1))), (2, .int (zI (a + 1))), (0, .ref o0), (1, .int (zI h))]) hx hb dX5_lying_33 hl rfl (by decide) rfl (fun ls hl => ?_)
    refine lv_goto (tgt := 4) hx hb dX5_lying_36 (by decide) ?_
    exact ih n (i + 1) (a + 1) (by omega) (by omega) (by omega) (by rw [← hv, lyC, if_pos c_23]; omega) _ (lv_sub hl [2, 3, 1, 0] rfl)
set_option maxHeartbeats 4000000 in
set_option maxRecDepth 100000 in
theorem c_X5_lying (l : Launch) (D : va_G) (cB cI cZ cM : ClassId) (Hp : Heap) (o0 : Nat) (o1 : Nat) (o2 : Nat) (o3 : Nat) (o4 : Nat) (o5 : Nat) (o6 : Nat) (o7 : Nat) (o8 : Nat) (o9 : Nat) (oz : Nat) (tr : Int64) (td : Int) (g1 : Int) (g2 : Int) (g3 : Int) (g4 : Int) (g5 : Int) (g6 : Int) (g7 : Int) (f2 : Int → Int) (h : Int) (hPm : 0 ≤ f2 0 ∧ f2 0 ≤ 4) (hh : 0 ≤ h ∧ h < pw9 (f2 0)) : cP l yX5_lying wsX5_lying 2 44 D (TYS cB cI cZ cM) [.ref o0, .int (zI h)] [(o0, .inr (5, [.long tr, .ref o1, .int (zI td), .ref o2, .ref o3, .ref o4, .ref o5, .int (zI g1), .int (zI g2), .int (zI g3), .int (zI g4), .int (zI g5), .int (zI g6), .ref o6, .ref o7, .ref o8, .ref o9, .int (zI g7), .ref oz])), (o2, .inl (cI, 16, .inl (zia f2)))] Hp (fun r => r = zI (lyC (slI (f2 0) h) (f2 0).toNat 0)) := by
  refine pu_start (by decide) rfl (Nat.le_of_ble_eq_true rfl) ?_
  intro pg ev sx mm args below meth cd ls M hP hK hl
  obtain ⟨hx, hb, hr, hml, hown, hts, hlk, hN0⟩ := id M
  have hl : lv_has ls 4 [(0, .ref o0), (1, .int (zI h))] := hl
  refine lv_iconst (v := zI 0) hx hb dX5_lying_0 rfl ?_
  refine lv_istore_n (lv' := [(2, .int (zI 0)), (0, .ref o0), (1, .int (zI h))]) hx hb dX5_lying_1 rfl hl (by decide) rfl (fun ls hl => ?_)
  refine lv_iconst (v := zI 0) hx hb dX5_lying_2 rfl ?_
  refine lv_istore_n (lv' := [(3, .int (zI 0)), (2, .int (zI 0)), (0, .ref o0), (1, .int (zI h))]) hx hb dX5_lying_3 rfl hl (by decide) rfl (fun ls hl => ?_)
  exact lp_X5_lying_4 l D cB cI cZ cM o0 o1 o2 o3 o4 o5 o6 o7 o8 o9 oz tr td g1 g2 g3 g4 g5 g6 g7 f2 h hPm hh M hP hK (((f2 0).toNat) + 1) ((f2 0).toNat) 0 0 (Nat.lt_succ_self _) (by omega) (by omega) (by omega) _ (lv_sub hl [2, 3, 1, 0] rfl)
set_option maxHeartbeats 4000000 in
set_option maxRecDepth 100000 in
theorem lp_X5_isBorne_5 (l : Launch) (D : va_G) (cB cI cZ cM : ClassId) (o0 : Nat) (o1 : Nat) (o2 : Nat) (o3 : Nat) (o4 : Nat) (o5 : Nat) (o6 : Nat) (o7 : Nat) (o8 : Nat) (o9 : Nat) (oz : Nat) (tr : Int64) (td : Int) (g1 : Int) (g2 : Int) (g3 : Int) (g4 : Int) (g5 : Int) (g6 : Int) (g7 : Int) (f2 : Int → Int) (f3 : Int → Int) (f5 : Int → Int) (h : Int) (k : Int) (hPm : 0 ≤ f2 0 ∧ f2 0 ≤ 4) (hh : 0 ≤ h ∧ h < pw9 (f2 0)) (hso : ∀ i : Int, 0 ≤ i → i < 4 → 0 ≤ f3 i ∧ f3 i ≤ 3) (hbm : ∀ i : Int, 0 ≤ i → i < 2 → 0 ≤ f5 i ∧ f5 i < 256) (hk : 0 ≤ k ∧ k < 2) {pg : Program} {ev : Env} {sx : State} {mm : MethodId} {args : Array Value} {below : List Frame} {meth : Method} {cd : Code} (M : MX pg sx mm args meth cd cX5_isBorne 6 (some .boolean) RX5 wsX5_isBorne) (hP : va_P D vwCl [(o0, .inr (5, [.long tr, .ref o1, .int (zI td), .ref o2, .ref o3, .ref o4, .ref o5, .int (zI g1), .int (zI g2), .int (zI g3), .int (zI g4), .int (zI g5), .int (zI g6), .ref o6, .ref o7, .ref o8, .ref o9, .int (zI g7), .ref oz])), (o2, .inl (cI, 16, .inl (zia f2))), (o3, .inl (cI, 8, .inl (zia f3))), (o5, .inl (cI, 4, .inl (zia f5)))] sx.heap) (hK : va_K D vwCl (TYS cB cI cZ cM) sx) : ∀ (N : Nat) (n : Nat) (i : Int) (a : Int), (n < N) → (0 ≤ i ∧ i + n = f2 0) → (a = 0 ∨ a = 1) → ((decide (a = 1) || boF (slI (f2 0) h) f3 (f5 k) n i) = boF (slI (f2 0) h) f3 (f5 k) (f2 0).toNat 0) → ∀ ls : Array Slot, lv_has ls 6 [(0, .ref o0), (1, .int (zI h)), (2, .int (zI k)), (3, .int (zI a)), (4, .int (zI i))] → W pg l ev (rmP 2 44) sx mm args below meth cd sx.heap [] 0 0 (QP below args sx (fun r => r = zI (zb (boF (slI (f2 0) h) f3 (f5 k) (f2 0).toNat 0 = true)))) (F0 mm 5 ls []) := by
  intro N
  induction N with
  | zero => intro n i a hN; exact absurd hN (Nat.not_lt_zero _)
  | succ N ih =>
    intro n i a hN hi ha hv ls hl
    obtain ⟨hx, hb, hr, hml, hown, hts, hlk, hN0⟩ := id M
    refine lv_iload hx hb dX5_isBorne_5 (lv_at hl 4 rfl) ?_
    refine lv_aload_n hx hb dX5_isBorne_7 rfl (lv_at hl 0 rfl) ?_
    refine va_get (D := D) (ci := 5) (C := RX5) (T := TX5) (N := 19) hx hb hts inc_X5_isBorne_5 hown hK hP 0 rfl rfl 3 (by decide) (hts (.fieldLink RX5 13 "BedHouseModel" "plan" "[I") (by decide +kernel)) (fun _ h9 => h9) rfl dX5_isBorne_8 ?_
    refine lv_iconst (v := zI 0) hx hb dX5_isBorne_11 rfl ?_
    refine z_iald hx hb hK hP 1 1 rfl rfl (Nat.le_of_ble_eq_true rfl) dX5_isBorne_12 (by omega) ?_
    refine z_icmp_ge (tgt := 73) hx hb dX5_isBorne_13 (by decide) (by omega) (fun c_13 => ?_) (fun c_13 => ?_)
    · skip
      obtain rfl : n = 0 := by omega
      refine lv_iload_n hx hb dX5_isBorne_73 rfl (lv_at hl 3 rfl) ?_
      exact pu_retz M (zb_nar ha) dX5_isBorne_74 (congrArg zI (by rw [← hv, boF, Bool.or_false]; exact zb_of ha))
    obtain ⟨n, rfl⟩ : ∃ j : Nat, n = j + 1 := ⟨n - 1, by omega⟩
    refine lv_aload_n hx hb dX5_isBorne_16 rfl (lv_at hl 0 rfl) ?_
    refine lv_iload_n hx hb dX5_isBorne_17 rfl (lv_at hl 1 rfl) ?_
    refine lv_iload hx hb dX5_isBorne_18 (lv_at hl 4 rfl) ?_
    refine pc_V (As := [.int (zI h), .int (zI i)]) (rest := []) M (c_X5_slotIn l D cB cI cZ cM _ o0 o1 o2 o3 o4 o5 o6 o7 o8 o9 oz tr td g1 g2 g3 g4 g5 g6 g7 f2 h i (by first | assumption | omega) (by first | assumption | omega) (by first | assumption | omega)) gX5_isBorne_X5_slotIn rfl ⟨rfl, hd_X5_slotIn⟩ ⟨Nat.le_of_ble_eq_true rfl, Nat.le_of_ble_eq_true rfl⟩ hK hP [0, 1] rfl 0 5 rfl rfl rfl hl.1 rfl rfl (Nat.le_of_ble_eq_true rfl) dX5_isBorne_20 ⟨Nat.le_of_ble_eq_true rfl, Nat.le_of_ble_eq_true rfl⟩ (fun r_20 h_20 => ?_)
    subst h_20
    have hsl := slI_rng (f2 0) i hh.1
    refine lv_istore (lv' := [(5, .int (zI (slI (f2 0) h i))), (0, .ref o0), (1, .int (zI h)), (2, .int (zI k)), (3, .int (zI a)), (4, .int (zI i))]) hx hb dX5_isBorne_23 hl (by decide) rfl (fun ls hl => ?_)
    refine lv_iload_n hx hb dX5_isBorne_25 rfl (lv_at hl 4 rfl) ?_
    refine z_if_ne (tgt := 61) hx hb dX5_isBorne_26 (by decide) (by omega) (fun c_26 => ?_) (fun c_26 => ?_)
    · skip
      refine lv_iconst (v := zI 1) hx hb dX5_isBorne_61 rfl ?_
      refine lv_goto (tgt := 66) hx hb dX5_isBorne_62 (by decide) ?_
      refine lv_istore_n (lv' := [(3, .int (zI 1)), (5, .int (zI (slI (f2 0) h i))), (0, .ref o0), (1, .int (zI h)), (2, .int (zI k)), (4, .int (zI i))]) hx hb dX5_isBorne_66 rfl hl (by decide) rfl (fun ls hl => ?_)
      refine z_iinc (a := i) (k := 5) (lv' := [(4, .int (zI (i + 1))), (3, .int (zI 1)), (5, .int (zI (slI (f2 0) h i))), (0, .ref o0), (1, .int (zI h)), (2, .int (zI k))]) hx hb dX5_isBorne_67 hl rfl (by decide) rfl (fun ls hl => ?_)
      refine lv_goto (tgt := 5) hx hb dX5_isBorne_70 (by decide) ?_
      exact ih n (i + 1) 1 (by omega) (by omega) (by omega) (by rw [← hv, decide_eq_true (show a = 1 by omega)]; simp) _ (lv_sub hl [3, 4, 5, 1, 0] rfl)
    refine lv_aload_n hx hb dX5_isBorne_29 rfl (lv_at hl 1 rfl) ?_
    refine va_get (D := D) (ci := 5) (C := RX5) (T := TX5) (N := 19) hx hb hts inc_X5_isBorne_5 hown hK hP 0 rfl rfl 4 (by decide) (hts (.fieldLink RX5 17 "BedHouseModel" "sorts" "[I") (by decide +kernel)) (fun _ h9 => h9) rfl dX5_isBorne_30 ?_
    refine lv_iload hx hb dX5_isBorne_33 (lv_at hl 5 rfl) ?_
    refine z_iald hx hb hK hP 2 1 rfl rfl (Nat.le_of_ble_eq_true rfl) dX5_isBorne_35 (by omega) ?_
    have hs3 := hso i (by omega) (by omega)
    refine z_if_ne (tgt := 65) hx hb dX5_isBorne_36 (by decide) (by omega) (fun c_36 => ?_) (fun c_36 => ?_)
    · skip
      refine lv_iconst (v := zI 0) hx hb dX5_isBorne_65 rfl ?_
      refine lv_istore_n (lv' := [(3, .int (zI 0)), (5, .int (zI (slI (f2 0) h i))), (0, .ref o0), (1, .int (zI h)), (2, .int (zI k)), (4, .int (zI i))]) hx hb dX5_isBorne_66 rfl hl (by decide) rfl (fun ls hl => ?_)
      refine z_iinc (a := i) (k := 5) (lv' := [(4, .int (zI (i + 1))), (3, .int (zI 0)), (5, .int (zI (slI (f2 0) h i))), (0, .ref o0), (1, .int (zI h)), (2, .int (zI k))]) hx hb dX5_isBorne_67 hl rfl (by decide) rfl (fun ls hl => ?_)
      refine lv_goto (tgt := 5) hx hb dX5_isBorne_70 (by decide) ?_
      exact ih n (i + 1) 0 (by omega) (by omega) (by omega) (by rw [← hv, boF, decide_eq_false (show ¬ a = 1 by omega), decide_eq_false (show ¬ (f3 i = 0 ∧ slI (f2 0) h i < 8 ∧ ztb (f5 k) (slI (f2 0) h i) = true) from fun q => c_36 q.1)]; rfl) _ (lv_sub hl [3, 4, 5, 1, 0] rfl)
    refine lv_iload hx hb dX5_isBorne_39 (lv_at hl 0 rfl) ?_
    refine lv_bipush (v := zI 8) hx hb dX5_isBorne_41 (by decide) ?_
    refine z_icmp_ge (tgt := 65) hx hb dX5_isBorne_43 (by decide) (by omega) (fun c_43 => ?_) (fun c_43 => ?_)
    · skip
      refine lv_iconst (v := zI 0) hx hb dX5_isBorne_65 rfl ?_
      refine lv_istore_n (lv' := [(3, .int (zI 0)), (5, .int (zI (slI (f2 0) h i))), (0, .ref o0), (1, .int (zI h)), (2, .int (zI k)), (4, .int (zI i))]) hx hb dX5_isBorne_66 rfl hl (by decide) rfl (fun ls hl => ?_)
      refine z_iinc (a := i) (k := 5) (lv' := [(4, .int (zI (i + 1))), (3, .int (zI 0)), (5, .int (zI (slI (f2 0) h i))), (0, .ref o0), (1, .int (zI h)), (2, .int (zI k))]) hx hb dX5_isBorne_67 hl rfl (by decide) rfl (fun ls hl => ?_)
      refine lv_goto (tgt := 5) hx hb dX5_isBorne_70 (by decide) ?_
      exact ih n (i + 1) 0 (by omega) (by omega) (by omega) (by rw [← hv, boF, decide_eq_false (show ¬ a = 1 by omega), decide_eq_false (show ¬ (f3 i = 0 ∧ slI (f2 0) h i < 8 ∧ ztb (f5 k) (slI (f2 0) h i) = true) from fun q => absurd q.2.1 (by omega))]; rfl) _ (lv_sub hl [3, 4, 5, 1, 0] rfl)
    refine lv_aload_n hx hb dX5_isBorne_46 rfl (lv_at hl 1 rfl) ?_
    refine va_get (D := D) (ci := 5) (C := RX5) (T := TX5) (N := 19) hx hb hts inc_X5_isBorne_5 hown hK hP 0 rfl rfl 6 (by decide) (hts (.fieldLink RX5 23 "BedHouseModel" "beams" "[I") (by decide +kernel)) (fun _ h9 => h9) rfl dX5_isBorne_47 ?_
    refine lv_iload_n hx hb dX5_isBorne_50 rfl (lv_at hl 3 rfl) ?_
    refine z_iald hx hb hK hP 3 1 rfl rfl (Nat.le_of_ble_eq_true rfl) dX5_isBorne_51 (by omega) ?_
    refine lv_iload hx hb dX5_isBorne_52 (lv_at hl 0 rfl) ?_
    have hb5 := hbm k (by omega) (by omega)
    refine z_ishr hx hb dX5_isBorne_54 (by omega) ?_
    refine lv_iconst (v := zI 1) hx hb dX5_isBorne_55 rfl ?_
    refine z_ibit hx hb dX5_isBorne_56 ?_
    refine lv_iconst (v := zI 1) hx hb dX5_isBorne_57 rfl ?_
    refine z_icmp_ne (tgt := 65) hx hb dX5_isBorne_58 (by decide) (⟨zbit_bd _ _, by omega⟩) (fun c_58 => ?_) (fun c_58 => ?_)
    · skip
      have c_58 := zbit_ne1 c_58
      refine lv_iconst (v := zI 0) hx hb dX5_isBorne_65 rfl ?_
      refine lv_istore_n (lv' := [(3, .int (zI 0)), (5, .int (zI (slI (f2 0) h i))), (0, .ref o0), (1, .int (zI h)), (2, .int (zI k)), (4, .int (zI i))]) hx hb dX5_isBorne_66 rfl hl (by decide) rfl (fun ls hl => ?_)
      refine z_iinc (a := i) (k := 5) (lv' := [(4, .int (zI (i + 1))), (3, .int (zI 0)), (5, .int (zI (slI (f2 0) h i))), (0, .ref o0), (1, .int (zI h)), (2, .int (zI k))]) hx hb dX5_isBorne_67 hl rfl (by decide) rfl (fun ls hl => ?_)
      refine lv_goto (tgt := 5) hx hb dX5_isBorne_70 (by decide) ?_
      exact ih n (i + 1) 0 (by omega) (by omega) (by omega) (by rw [← hv, boF, decide_eq_false (show ¬ a = 1 by omega), decide_eq_false (show ¬ (f3 i = 0 ∧ slI (f2 0) h i < 8 ∧ ztb (f5 k) (slI (f2 0) h i) = true) from fun q => by rw [c_58] at q; exact absurd q.2.2 (by decide))]; rfl) _ (lv_sub hl [3, 4, 5, 1, 0] rfl)
    have c_58 := (zbit_1 _ _).mp c_58
    refine lv_iconst (v := zI 1) hx hb dX5_isBorne_61 rfl ?_
    refine lv_goto (tgt := 66) hx hb dX5_isBorne_62 (by decide) ?_
    refine lv_istore_n (lv' := [(3, .int (zI 1)), (5, .int (zI (slI (f2 0) h i))), (0, .ref o0), (1, .int (zI h)), (2, .int (zI k)), (4, .int (zI i))]) hx hb dX5_isBorne_66 rfl hl (by decide) rfl (fun ls hl => ?_)
    refine z_iinc (a := i) (k := 5) (lv' := [(4, .int (zI (i + 1))), (3, .int (zI 1)), (5, .int (zI (slI (f2 0) h i))), (0, .ref o0), (1, .int (zI h)), (2, .int (zI k))]) hx hb dX5_isBorne_67 hl rfl (by decide) rfl (fun ls hl => ?_)
    refine lv_goto (tgt := 5) hx hb dX5_isBorne_70 (by decide) ?_
    exact ih n (i + 1) 1 (by omega) (by omega) (by omega) (by rw [← hv, boF, decide_eq_false (show ¬ a = 1 by omega), decide_eq_true (And.intro (show f3 i = 0 by omega) (And.intro (by omega) c_58))]; simp) _ (lv_sub hl [3, 4, 5, 1, 0] rfl)
set_option maxHeartbeats 4000000 in
set_option maxRecDepth 100000 in
theorem c_X5_isBorne (l : Launch) (D : va_G) (cB cI cZ cM : ClassId) (Hp : Heap) (o0 : Nat) (o1 : Nat) (o2 : Nat) (o3 : Nat) (o4 : Nat) (o5 : Nat) (o6 : Nat) (o7 : Nat) (o8 : Nat) (o9 : Nat) (oz : Nat) (tr : Int64) (td : Int) (g1 : Int) (g2 : Int) (g3 : Int) (g4 : Int) (g5 : Int) (g6 : Int) (g7 : Int) (f2 : Int → Int) (f3 : Int → Int) (f5 : Int → Int) (h : Int) (k : Int) (hPm : 0 ≤ f2 0 ∧ f2 0 ≤ 4) (hh : 0 ≤ h ∧ h < pw9 (f2 0)) (hso : ∀ i : Int, 0 ≤ i → i < 4 → 0 ≤ f3 i ∧ f3 i ≤ 3) (hbm : ∀ i : Int, 0 ≤ i → i < 2 → 0 ≤ f5 i ∧ f5 i < 256) (hk : 0 ≤ k ∧ k < 2) : cP l yX5_isBorne wsX5_isBorne 2 44 D (TYS cB cI cZ cM) [.ref o0, .int (zI h), .int (zI k)] [(o0, .inr (5, [.long tr, .ref o1, .int (zI td), .ref o2, .ref o3, .ref o4, .ref o5, .int (zI g1), .int (zI g2), .int (zI g3), .int (zI g4), .int (zI g5), .int (zI g6), .ref o6, .ref o7, .ref o8, .ref o9, .int (zI g7), .ref oz])), (o2, .inl (cI, 16, .inl (zia f2))), (o3, .inl (cI, 8, .inl (zia f3))), (o5, .inl (cI, 4, .inl (zia f5)))] Hp (fun r => r = zI (zb (boF (slI (f2 0) h) f3 (f5 k) (f2 0).toNat 0 = true))) := by
  refine pu_start (by decide) rfl (Nat.le_of_ble_eq_true rfl) ?_
  intro pg ev sx mm args below meth cd ls M hP hK hl
  obtain ⟨hx, hb, hr, hml, hown, hts, hlk, hN0⟩ := id M
  have hl : lv_has ls 6 [(0, .ref o0), (1, .int (zI h)), (2, .int (zI k))] := hl
  refine lv_iconst (v := zI 0) hx hb dX5_isBorne_0 rfl ?_
  refine lv_istore_n (lv' := [(3, .int (zI 0)), (0, .ref o0), (1, .int (zI h)), (2, .int (zI k))]) hx hb dX5_isBorne_1 rfl hl (by decide) rfl (fun ls hl => ?_)
  refine lv_iconst (v := zI 0) hx hb dX5_isBorne_2 rfl ?_
  refine lv_istore (lv' := [(4, .int (zI 0)), (3, .int (zI 0)), (0, .ref o0), (1, .int (zI h)), (2, .int (zI k))]) hx hb dX5_isBorne_3 hl (by decide) rfl (fun ls hl => ?_)
  exact lp_X5_isBorne_5 l D cB cI cZ cM o0 o1 o2 o3 o4 o5 o6 o7 o8 o9 oz tr td g1 g2 g3 g4 g5 g6 g7 f2 f3 f5 h k hPm hh hso hbm hk M hP hK (((f2 0).toNat) + 1) ((f2 0).toNat) 0 0 (Nat.lt_succ_self _) (by omega) (by omega) (by simp) _ (lv_sub hl [2, 3, 4, 1, 0] rfl)
set_option maxHeartbeats 4000000 in
set_option maxRecDepth 100000 in
theorem lp_X5_isLawful_99 (l : Launch) (D : va_G) (cB cI cZ cM : ClassId) (o0 : Nat) (o1 : Nat) (o2 : Nat) (o3 : Nat) (o4 : Nat) (o5 : Nat) (o6 : Nat) (o7 : Nat) (o8 : Nat) (o9 : Nat) (oz : Nat) (tr : Int64) (td : Int) (g1 : Int) (g2 : Int) (g3 : Int) (g4 : Int) (g5 : Int) (g6 : Int) (g7 : Int) (f2 : Int → Int) (f3 : Int → Int) (f5 : Int → Int) (h : Int) (hPm : 0 ≤ f2 0 ∧ f2 0 ≤ 4) (hB1 : 0 ≤ f2 1 ∧ f2 1 ≤ 2) (hdn6 : 0 ≤ f2 6 ∧ f2 6 ≤ 4) (hh : 0 ≤ h ∧ h < pw9 (f2 0)) (hso : ∀ i : Int, 0 ≤ i → i < 4 → 0 ≤ f3 i ∧ f3 i ≤ 3) (hbm : ∀ i : Int, 0 ≤ i → i < 2 → 0 ≤ f5 i ∧ f5 i < 256) {pg : Program} {ev : Env} {sx : State} {mm : MethodId} {args : Array Value} {below : List Frame} {meth : Method} {cd : Code} (M : MX pg sx mm args meth cd cX5_isLawful 6 (some .boolean) RX5 wsX5_isLawful) (hP : va_P D vwCl [(o0, .inr (5, [.long tr, .ref o1, .int (zI td), .ref o2, .ref o3, .ref o4, .ref o5, .int (zI g1), .int (zI g2), .int (zI g3), .int (zI g4), .int (zI g5), .int (zI g6), .ref o6, .ref o7, .ref o8, .ref o9, .int (zI g7), .ref oz])), (o2, .inl (cI, 16, .inl (zia f2))), (o3, .inl (cI, 8, .inl (zia f3))), (o5, .inl (cI, 4, .inl (zia f5)))] sx.heap) (hK : va_K D vwCl (TYS cB cI cZ cM) sx) : ∀ (N : Nat) (n : Nat) (i : Int) (a : Int), (n < N) → (0 ≤ i ∧ i + n = f2 1) → (a = 0 ∨ a = 1) → ((decide (a = 1) && bbF (slI (f2 0) h) f3 f5 (f2 0).toNat n i) = mlw (slI (f2 0) h) f3 f5 (f2 0) (f2 1) (f2 6)) → ∀ ls : Array Slot, lv_has ls 6 [(0, .ref o0), (1, .int (zI h)), (2, .int (zI a)), (4, .int (zI i))] → W pg l ev (rmP 3 69) sx mm args below meth cd sx.heap [] 0 0 (QP below args sx (fun r => r = zI (zb (mlw (slI (f2 0) h) f3 f5 (f2 0) (f2 1) (f2 6) = true)))) (F0 mm 99 ls []) := by
  intro N
  induction N with
  | zero => intro n i a hN; exact absurd hN (Nat.not_lt_zero _)
  | succ N ih =>
    intro n i a hN hi ha hv ls hl
    obtain ⟨hx, hb, hr, hml, hown, hts, hlk, hN0⟩ := id M
    refine lv_iload hx hb dX5_isLawful_99 (lv_at hl 3 rfl) ?_
    refine lv_aload_n hx hb dX5_isLawful_101 rfl (lv_at hl 0 rfl) ?_
    refine va_get (D := D) (ci := 5) (C := RX5) (T := TX5) (N := 19) hx hb hts inc_X5_isLawful_5 hown hK hP 0 rfl rfl 3 (by decide) (hts (.fieldLink RX5 13 "BedHouseModel" "plan" "[I") (by decide +kernel)) (fun _ h9 => h9) rfl dX5_isLawful_102 ?_
    refine lv_iconst (v := zI 1) hx hb dX5_isLawful_105 rfl ?_
    refine z_iald hx hb hK hP 1 1 rfl rfl (Nat.le_of_ble_eq_true rfl) dX5_isLawful_106 (by omega) ?_
    refine z_icmp_ge (tgt := 128) hx hb dX5_isLawful_107 (by decide) (by omega) (fun c_107 => ?_) (fun c_107 => ?_)
    · skip
      obtain rfl : n = 0 := by omega
      refine lv_iload_n hx hb dX5_isLawful_128 rfl (lv_at hl 2 rfl) ?_
      exact pu_retz M (zb_nar ha) dX5_isLawful_129 (congrArg zI (by rw [← hv, bbF, Bool.and_true]; exact zb_of ha))
    obtain ⟨n, rfl⟩ : ∃ j : Nat, n = j + 1 := ⟨n - 1, by omega⟩
    refine lv_iload_n hx hb dX5_isLawful_110 rfl (lv_at hl 2 rfl) ?_
    refine z_if_eq (tgt := 128) hx hb dX5_isLawful_111 (by decide) (by omega) (fun c_111 => ?_) (fun c_111 => ?_)
    · skip
      refine lv_iload_n hx hb dX5_isLawful_128 rfl (lv_at hl 2 rfl) ?_
      exact pu_retz M (zb_nar ha) dX5_isLawful_129 (congrArg zI (by rw [← hv, decide_eq_false (show ¬ a = 1 by omega)]; rw [Bool.false_and]; show a = 0; omega))
    refine lv_aload_n hx hb dX5_isLawful_114 rfl (lv_at hl 0 rfl) ?_
    refine lv_iload_n hx hb dX5_isLawful_115 rfl (lv_at hl 1 rfl) ?_
    refine lv_iload hx hb dX5_isLawful_116 (lv_at hl 3 rfl) ?_
    refine pc_V (As := [.int (zI h), .int (zI i)]) (rest := []) M (c_X5_isBorne l D cB cI cZ cM _ o0 o1 o2 o3 o4 o5 o6 o7 o8 o9 oz tr td g1 g2 g3 g4 g5 g6 g7 f2 f3 f5 h i (by first | assumption | omega) (by first | assumption | omega) (by first | assumption | omega) (by first | assumption | omega) (by first | assumption | omega)) gX5_isLawful_X5_isBorne rfl ⟨rfl, hd_X5_isBorne⟩ ⟨Nat.le_of_ble_eq_true rfl, Nat.le_of_ble_eq_true rfl⟩ hK hP [0, 1, 2, 3] rfl 0 5 rfl rfl rfl hl.1 rfl rfl (Nat.le_of_ble_eq_true rfl) dX5_isLawful_118 ⟨Nat.le_of_ble_eq_true rfl, Nat.le_of_ble_eq_true rfl⟩ (fun r_118 h_118 => ?_)
    subst h_118
    refine lv_istore_n (lv' := [(2, .int (zI (zb (boF (slI (f2 0) h) f3 (f5 i) (f2 0).toNat 0 = true)))), (0, .ref o0), (1, .int (zI h)), (4, .int (zI i))]) hx hb dX5_isLawful_121 rfl hl (by decide) rfl (fun ls hl => ?_)
    refine z_iinc (a := i) (k := 3) (lv' := [(4, .int (zI (i + 1))), (2, .int (zI (zb (boF (slI (f2 0) h) f3 (f5 i) (f2 0).toNat 0 = true)))), (0, .ref o0), (1, .int (zI h))]) hx hb dX5_isLawful_122 hl rfl (by decide) rfl (fun ls hl => ?_)
    refine lv_goto (tgt := 99) hx hb dX5_isLawful_125 (by decide) ?_
    exact ih n (i + 1) (zb (boF (slI (f2 0) h) f3 (f5 i) (f2 0).toNat 0 = true)) (by omega) (by omega) (by unfold zb; split <;> omega) (by rw [← hv, bbF, zb_dec, decide_eq_true (show a = 1 by omega), Bool.true_and]) _ (lv_sub hl [2, 3, 1, 0] rfl)
set_option maxHeartbeats 4000000 in
set_option maxRecDepth 100000 in
theorem lp_X5_isLawful_26 (l : Launch) (D : va_G) (cB cI cZ cM : ClassId) (o0 : Nat) (o1 : Nat) (o2 : Nat) (o3 : Nat) (o4 : Nat) (o5 : Nat) (o6 : Nat) (o7 : Nat) (o8 : Nat) (o9 : Nat) (oz : Nat) (tr : Int64) (td : Int) (g1 : Int) (g2 : Int) (g3 : Int) (g4 : Int) (g5 : Int) (g6 : Int) (g7 : Int) (f2 : Int → Int) (f3 : Int → Int) (f5 : Int → Int) (h : Int) (hPm : 0 ≤ f2 0 ∧ f2 0 ≤ 4) (hB1 : 0 ≤ f2 1 ∧ f2 1 ≤ 2) (hdn6 : 0 ≤ f2 6 ∧ f2 6 ≤ 4) (hh : 0 ≤ h ∧ h < pw9 (f2 0)) (hso : ∀ i : Int, 0 ≤ i → i < 4 → 0 ≤ f3 i ∧ f3 i ≤ 3) (hbm : ∀ i : Int, 0 ≤ i → i < 2 → 0 ≤ f5 i ∧ f5 i < 256) {pg : Program} {ev : Env} {sx : State} {mm : MethodId} {args : Array Value} {below : List Frame} {meth : Method} {cd : Code} (M : MX pg sx mm args meth cd cX5_isLawful 6 (some .boolean) RX5 wsX5_isLawful) (hP : va_P D vwCl [(o0, .inr (5, [.long tr, .ref o1, .int (zI td), .ref o2, .ref o3, .ref o4, .ref o5, .int (zI g1), .int (zI g2), .int (zI g3), .int (zI g4), .int (zI g5), .int (zI g6), .ref o6, .ref o7, .ref o8, .ref o9, .int (zI g7), .ref oz])), (o2, .inl (cI, 16, .inl (zia f2))), (o3, .inl (cI, 8, .inl (zia f3))), (o5, .inl (cI, 4, .inl (zia f5)))] sx.heap) (hK : va_K D vwCl (TYS cB cI cZ cM) sx) : ∀ (N : Nat) (n : Nat) (i : Int) (a : Int) (t : Int), (n < N) → (0 ≤ i ∧ i + n = f2 0) → (a = 0 ∨ a = 1) → (0 ≤ t ∧ t < 256) → (((decide (a = 1) && dsF (slI (f2 0) h) n i t) && bbF (slI (f2 0) h) f3 f5 (f2 0).toNat (f2 1).toNat 0) = mlw (slI (f2 0) h) f3 f5 (f2 0) (f2 1) (f2 6)) → ∀ ls : Array Slot, lv_has ls 6 [(0, .ref o0), (1, .int (zI h)), (2, .int (zI a)), (3, .int (zI t)), (4, .int (zI i))] → W pg l ev (rmP 3 69) sx mm args below meth cd sx.heap [] 0 0 (QP below args sx (fun r => r = zI (zb (mlw (slI (f2 0) h) f3 f5 (f2 0) (f2 1) (f2 6) = true)))) (F0 mm 26 ls []) := by
  intro N
  induction N with
  | zero => intro n i a t hN; exact absurd hN (Nat.not_lt_zero _)
  | succ N ih =>
    intro n i a t hN hi ha ht hv ls hl
    obtain ⟨hx, hb, hr, hml, hown, hts, hlk, hN0⟩ := id M
    refine lv_iload hx hb dX5_isLawful_26 (lv_at hl 4 rfl) ?_
    refine lv_aload_n hx hb dX5_isLawful_28 rfl (lv_at hl 0 rfl) ?_
    refine va_get (D := D) (ci := 5) (C := RX5) (T := TX5) (N := 19) hx hb hts inc_X5_isLawful_5 hown hK hP 0 rfl rfl 3 (by decide) (hts (.fieldLink RX5 13 "BedHouseModel" "plan" "[I") (by decide +kernel)) (fun _ h9 => h9) rfl dX5_isLawful_29 ?_
    refine lv_iconst (v := zI 0) hx hb dX5_isLawful_32 rfl ?_
    refine z_iald hx hb hK hP 1 1 rfl rfl (Nat.le_of_ble_eq_true rfl) dX5_isLawful_33 (by omega) ?_
    refine z_icmp_ge (tgt := 96) hx hb dX5_isLawful_34 (by decide) (by omega) (fun c_34 => ?_) (fun c_34 => ?_)
    · skip
      obtain rfl : n = 0 := by omega
      refine lv_iconst (v := zI 0) hx hb dX5_isLawful_96 rfl ?_
      refine lv_istore (lv' := [(4, .int (zI 0)), (0, .ref o0), (1, .int (zI h)), (2, .int (zI a)), (3, .int (zI t))]) hx hb dX5_isLawful_97 hl (by decide) rfl (fun ls hl => ?_)
      exact lp_X5_isLawful_99 l D cB cI cZ cM o0 o1 o2 o3 o4 o5 o6 o7 o8 o9 oz tr td g1 g2 g3 g4 g5 g6 g7 f2 f3 f5 h hPm hB1 hdn6 hh hso hbm M hP hK (((f2 1).toNat) + 1) ((f2 1).toNat) 0 a (Nat.lt_succ_self _) (by omega) (by omega) (by rw [← hv, dsF, Bool.and_true]) _ (lv_sub hl [1, 2, 3, 0] rfl)
    obtain ⟨n, rfl⟩ : ∃ j : Nat, n = j + 1 := ⟨n - 1, by omega⟩
    refine lv_iload_n hx hb dX5_isLawful_37 rfl (lv_at hl 2 rfl) ?_
    refine z_if_eq (tgt := 96) hx hb dX5_isLawful_38 (by decide) (by omega) (fun c_38 => ?_) (fun c_38 => ?_)
    · skip
      refine lv_iconst (v := zI 0) hx hb dX5_isLawful_96 rfl ?_
      refine lv_istore (lv' := [(4, .int (zI 0)), (0, .ref o0), (1, .int (zI h)), (2, .int (zI a)), (3, .int (zI t))]) hx hb dX5_isLawful_97 hl (by decide) rfl (fun ls hl => ?_)
      exact lp_X5_isLawful_99 l D cB cI cZ cM o0 o1 o2 o3 o4 o5 o6 o7 o8 o9 oz tr td g1 g2 g3 g4 g5 g6 g7 f2 f3 f5 h hPm hB1 hdn6 hh hso hbm M hP hK (((f2 1).toNat) + 1) ((f2 1).toNat) 0 a (Nat.lt_succ_self _) (by omega) (by omega) (by rw [← hv, decide_eq_false (show ¬ a = 1 by omega)]; rfl) _ (lv_sub hl [1, 2, 3, 0] rfl)
    refine lv_aload_n hx hb dX5_isLawful_41 rfl (lv_at hl 0 rfl) ?_
    refine lv_iload_n hx hb dX5_isLawful_42 rfl (lv_at hl 1 rfl) ?_
    refine lv_iload hx hb dX5_isLawful_43 (lv_at hl 4 rfl) ?_
    refine pc_V (As := [.int (zI h), .int (zI i)]) (rest := []) M (c_X5_slotIn l D cB cI cZ cM _ o0 o1 o2 o3 o4 o5 o6 o7 o8 o9 oz tr td g1 g2 g3 g4 g5 g6 g7 f2 h i (by first | assumption | omega) (by first | assumption | omega) (by first | assumption | omega)) gX5_isLawful_X5_slotIn rfl ⟨rfl, hd_X5_slotIn⟩ ⟨Nat.le_of_ble_eq_true rfl, Nat.le_of_ble_eq_true rfl⟩ hK hP [0, 1] rfl 0 5 rfl rfl rfl hl.1 rfl rfl (Nat.le_of_ble_eq_true rfl) dX5_isLawful_45 ⟨Nat.le_of_ble_eq_true rfl, Nat.le_of_ble_eq_true rfl⟩ (fun r_45 h_45 => ?_)
    subst h_45
    refine lv_istore (lv' := [(5, .int (zI (slI (f2 0) h i))), (0, .ref o0), (1, .int (zI h)), (2, .int (zI a)), (3, .int (zI t)), (4, .int (zI i))]) hx hb dX5_isLawful_48 hl (by decide) rfl (fun ls hl => ?_)
    have hsl := slI_rng (f2 0) i hh.1
    refine lv_iload hx hb dX5_isLawful_50 (lv_at hl 0 rfl) ?_
    refine lv_bipush (v := zI 8) hx hb dX5_isLawful_52 (by decide) ?_
    refine z_icmp_eq (tgt := 66) hx hb dX5_isLawful_54 (by decide) (by omega) (fun c_54 => ?_) (fun c_54 => ?_)
    · skip
      refine lv_iconst (v := zI 1) hx hb dX5_isLawful_66 rfl ?_
      refine lv_goto (tgt := 71) hx hb dX5_isLawful_67 (by decide) ?_
      refine lv_istore_n (lv' := [(2, .int (zI 1)), (5, .int (zI (slI (f2 0) h i))), (0, .ref o0), (1, .int (zI h)), (3, .int (zI t)), (4, .int (zI i))]) hx hb dX5_isLawful_71 rfl hl (by decide) rfl (fun ls hl => ?_)
      refine lv_iload_n hx hb dX5_isLawful_72 rfl (lv_at hl 4 rfl) ?_
      refine lv_iload hx hb dX5_isLawful_73 (lv_at hl 1 rfl) ?_
      refine lv_bipush (v := zI 8) hx hb dX5_isLawful_75 (by decide) ?_
      refine z_icmp_ne (tgt := 84) hx hb dX5_isLawful_77 (by decide) (by omega) (fun c_77 => ?_) (fun c_77 => ?_)
      · skip
        exfalso; omega
      refine lv_iconst (v := zI 0) hx hb dX5_isLawful_80 rfl ?_
      refine lv_goto (tgt := 88) hx hb dX5_isLawful_81 (by decide) ?_
      refine z_ior hx hb dX5_isLawful_88 (⟨by omega, by first | omega | exact zpw_nn _⟩) ?_
      refine lv_istore_n (lv' := [(3, .int (zI (zbor t 0))), (2, .int (zI 1)), (5, .int (zI (slI (f2 0) h i))), (0, .ref o0), (1, .int (zI h)), (4, .int (zI i))]) hx hb dX5_isLawful_89 rfl hl (by decide) rfl (fun ls hl => ?_)
      refine z_iinc (a := i) (k := 5) (lv' := [(4, .int (zI (i + 1))), (3, .int (zI (zbor t 0))), (2, .int (zI 1)), (5, .int (zI (slI (f2 0) h i))), (0, .ref o0), (1, .int (zI h))]) hx hb dX5_isLawful_90 hl rfl (by decide) rfl (fun ls hl => ?_)
      refine lv_goto (tgt := 26) hx hb dX5_isLawful_93 (by decide) ?_
      exact ih n (i + 1) 1 (zbor t 0) (by omega) (by omega) (by omega) (by exact zbor_256 ⟨by omega, by omega⟩ (by first | exact ⟨by omega, by omega⟩ | exact ⟨zpw_nn _, zpw_lt (n := 8) (by omega) (by omega)⟩)) (by rw [← hv, dsF, decide_eq_true (show a = 1 by omega), decide_eq_true (Or.inl c_54), if_pos c_54]; rfl) _ (lv_sub hl [4, 5, 2, 1, 0] rfl)
    refine lv_iload_n hx hb dX5_isLawful_57 rfl (lv_at hl 4 rfl) ?_
    refine lv_iload hx hb dX5_isLawful_58 (lv_at hl 0 rfl) ?_
    refine z_ishr hx hb dX5_isLawful_60 (by omega) ?_
    refine lv_iconst (v := zI 1) hx hb dX5_isLawful_61 rfl ?_
    refine z_ibit hx hb dX5_isLawful_62 ?_
    refine z_if_ne (tgt := 70) hx hb dX5_isLawful_63 (by decide) (zbit_bd _ _) (fun c_63 => ?_) (fun c_63 => ?_)
    · skip
      have c_63 := zbit_nz c_63
      refine lv_iconst (v := zI 0) hx hb dX5_isLawful_70 rfl ?_
      refine lv_istore_n (lv' := [(2, .int (zI 0)), (5, .int (zI (slI (f2 0) h i))), (0, .ref o0), (1, .int (zI h)), (3, .int (zI t)), (4, .int (zI i))]) hx hb dX5_isLawful_71 rfl hl (by decide) rfl (fun ls hl => ?_)
      refine lv_iload_n hx hb dX5_isLawful_72 rfl (lv_at hl 4 rfl) ?_
      refine lv_iload hx hb dX5_isLawful_73 (lv_at hl 1 rfl) ?_
      refine lv_bipush (v := zI 8) hx hb dX5_isLawful_75 (by decide) ?_
      refine z_icmp_ne (tgt := 84) hx hb dX5_isLawful_77 (by decide) (by omega) (fun c_77 => ?_) (fun c_77 => ?_)
      · skip
        refine lv_iconst (v := zI 1) hx hb dX5_isLawful_84 rfl ?_
        refine lv_iload hx hb dX5_isLawful_85 (lv_at hl 1 rfl) ?_
        refine z_ishl1 hx hb dX5_isLawful_87 (by omega) ?_
        refine z_ior hx hb dX5_isLawful_88 (⟨by omega, by first | omega | exact zpw_nn _⟩) ?_
        refine lv_istore_n (lv' := [(3, .int (zI (zbor t (zpw (slI (f2 0) h i))))), (2, .int (zI 0)), (5, .int (zI (slI (f2 0) h i))), (0, .ref o0), (1, .int (zI h)), (4, .int (zI i))]) hx hb dX5_isLawful_89 rfl hl (by decide) rfl (fun ls hl => ?_)
        refine z_iinc (a := i) (k := 5) (lv' := [(4, .int (zI (i + 1))), (3, .int (zI (zbor t (zpw (slI (f2 0) h i))))), (2, .int (zI 0)), (5, .int (zI (slI (f2 0) h i))), (0, .ref o0), (1, .int (zI h))]) hx hb dX5_isLawful_90 hl rfl (by decide) rfl (fun ls hl => ?_)
        refine lv_goto (tgt := 26) hx hb dX5_isLawful_93 (by decide) ?_
        exact ih n (i + 1) 0 (zbor t (zpw (slI (f2 0) h i))) (by omega) (by omega) (by omega) (by exact zbor_256 ⟨by omega, by omega⟩ (by first | exact ⟨by omega, by omega⟩ | exact ⟨zpw_nn _, zpw_lt (n := 8) (by omega) (by omega)⟩)) (by rw [← hv, dsF, decide_eq_true (show a = 1 by omega), decide_eq_false (show ¬ (slI (f2 0) h i = 8 ∨ ztb t (slI (f2 0) h i) = false) from fun q => q.elim c_54 (fun q => by rw [q] at c_63; exact absurd c_63 (by decide)))]; rfl) _ (lv_sub hl [4, 5, 2, 1, 0] rfl)
      exfalso; omega
    have c_63 := (zbit_0 _ _).mp c_63
    refine lv_iconst (v := zI 1) hx hb dX5_isLawful_66 rfl ?_
    refine lv_goto (tgt := 71) hx hb dX5_isLawful_67 (by decide) ?_
    refine lv_istore_n (lv' := [(2, .int (zI 1)), (5, .int (zI (slI (f2 0) h i))), (0, .ref o0), (1, .int (zI h)), (3, .int (zI t)), (4, .int (zI i))]) hx hb dX5_isLawful_71 rfl hl (by decide) rfl (fun ls hl => ?_)
    refine lv_iload_n hx hb dX5_isLawful_72 rfl (lv_at hl 4 rfl) ?_
    refine lv_iload hx hb dX5_isLawful_73 (lv_at hl 1 rfl) ?_
    refine lv_bipush (v := zI 8) hx hb dX5_isLawful_75 (by decide) ?_
    refine z_icmp_ne (tgt := 84) hx hb dX5_isLawful_77 (by decide) (by omega) (fun c_77 => ?_) (fun c_77 => ?_)
    · skip
      refine lv_iconst (v := zI 1) hx hb dX5_isLawful_84 rfl ?_
      refine lv_iload hx hb dX5_isLawful_85 (lv_at hl 1 rfl) ?_
      refine z_ishl1 hx hb dX5_isLawful_87 (by omega) ?_
      refine z_ior hx hb dX5_isLawful_88 (⟨by omega, by first | omega | exact zpw_nn _⟩) ?_
      refine lv_istore_n (lv' := [(3, .int (zI (zbor t (zpw (slI (f2 0) h i))))), (2, .int (zI 1)), (5, .int (zI (slI (f2 0) h i))), (0, .ref o0), (1, .int (zI h)), (4, .int (zI i))]) hx hb dX5_isLawful_89 rfl hl (by decide) rfl (fun ls hl => ?_)
      refine z_iinc (a := i) (k := 5) (lv' := [(4, .int (zI (i + 1))), (3, .int (zI (zbor t (zpw (slI (f2 0) h i))))), (2, .int (zI 1)), (5, .int (zI (slI (f2 0) h i))), (0, .ref o0), (1, .int (zI h))]) hx hb dX5_isLawful_90 hl rfl (by decide) rfl (fun ls hl => ?_)
      refine lv_goto (tgt := 26) hx hb dX5_isLawful_93 (by decide) ?_
      exact ih n (i + 1) 1 (zbor t (zpw (slI (f2 0) h i))) (by omega) (by omega) (by omega) (by exact zbor_256 ⟨by omega, by omega⟩ (by first | exact ⟨by omega, by omega⟩ | exact ⟨zpw_nn _, zpw_lt (n := 8) (by omega) (by omega)⟩)) (by rw [← hv, dsF, decide_eq_true (show a = 1 by omega), decide_eq_true (Or.inr c_63), if_neg c_54]; rfl) _ (lv_sub hl [4, 5, 2, 1, 0] rfl)
    exfalso; omega
set_option maxHeartbeats 4000000 in
set_option maxRecDepth 100000 in
theorem c_X5_isLawful (l : Launch) (D : va_G) (cB cI cZ cM : ClassId) (Hp : Heap) (o0 : Nat) (o1 : Nat) (o2 : Nat) (o3 : Nat) (o4 : Nat) (o5 : Nat) (o6 : Nat) (o7 : Nat) (o8 : Nat) (o9 : Nat) (oz : Nat) (tr : Int64) (td : Int) (g1 : Int) (g2 : Int) (g3 : Int) (g4 : Int) (g5 : Int) (g6 : Int) (g7 : Int) (f2 : Int → Int) (f3 : Int → Int) (f5 : Int → Int) (h : Int) (hPm : 0 ≤ f2 0 ∧ f2 0 ≤ 4) (hB1 : 0 ≤ f2 1 ∧ f2 1 ≤ 2) (hdn6 : 0 ≤ f2 6 ∧ f2 6 ≤ 4) (hh : 0 ≤ h ∧ h < pw9 (f2 0)) (hso : ∀ i : Int, 0 ≤ i → i < 4 → 0 ≤ f3 i ∧ f3 i ≤ 3) (hbm : ∀ i : Int, 0 ≤ i → i < 2 → 0 ≤ f5 i ∧ f5 i < 256) : cP l yX5_isLawful wsX5_isLawful 3 69 D (TYS cB cI cZ cM) [.ref o0, .int (zI h)] [(o0, .inr (5, [.long tr, .ref o1, .int (zI td), .ref o2, .ref o3, .ref o4, .ref o5, .int (zI g1), .int (zI g2), .int (zI g3), .int (zI g4), .int (zI g5), .int (zI g6), .ref o6, .ref o7, .ref o8, .ref o9, .int (zI g7), .ref oz])), (o2, .inl (cI, 16, .inl (zia f2))), (o3, .inl (cI, 8, .inl (zia f3))), (o5, .inl (cI, 4, .inl (zia f5)))] Hp (fun r => r = zI (zb (mlw (slI (f2 0) h) f3 f5 (f2 0) (f2 1) (f2 6) = true))) := by
  refine pu_start (by decide) rfl (Nat.le_of_ble_eq_true rfl) ?_
  intro pg ev sx mm args below meth cd ls M hP hK hl
  obtain ⟨hx, hb, hr, hml, hown, hts, hlk, hN0⟩ := id M
  have hl : lv_has ls 6 [(0, .ref o0), (1, .int (zI h))] := hl
  refine lv_aload_n hx hb dX5_isLawful_0 rfl (lv_at hl 0 rfl) ?_
  refine lv_iload_n hx hb dX5_isLawful_1 rfl (lv_at hl 1 rfl) ?_
  refine pc_V (As := [.int (zI h)]) (rest := []) M (c_X5_lying l D cB cI cZ cM _ o0 o1 o2 o3 o4 o5 o6 o7 o8 o9 oz tr td g1 g2 g3 g4 g5 g6 g7 f2 h (by first | assumption | omega) (by first | assumption | omega)) gX5_isLawful_X5_lying rfl ⟨rfl, hd_X5_lying⟩ ⟨Nat.le_of_ble_eq_true rfl, Nat.le_of_ble_eq_true rfl⟩ hK hP [0, 1] rfl 0 5 rfl rfl rfl hl.1 rfl rfl (Nat.le_of_ble_eq_true rfl) dX5_isLawful_2 ⟨Nat.le_of_ble_eq_true rfl, Nat.le_of_ble_eq_true rfl⟩ (fun r_2 h_2 => ?_)
  subst h_2
  have hly := lyC_rng (slI (f2 0) h) (f2 0).toNat 0
  refine lv_aload_n hx hb dX5_isLawful_5 rfl (lv_at hl 0 rfl) ?_
  refine va_get (D := D) (ci := 5) (C := RX5) (T := TX5) (N := 19) hx hb hts inc_X5_isLawful_5 hown hK hP 0 rfl rfl 3 (by decide) (hts (.fieldLink RX5 13 "BedHouseModel" "plan" "[I") (by decide +kernel)) (fun _ h9 => h9) rfl dX5_isLawful_6 ?_
  refine lv_bipush (v := zI 6) hx hb dX5_isLawful_9 (by decide) ?_
  refine z_iald hx hb hK hP 1 1 rfl rfl (Nat.le_of_ble_eq_true rfl) dX5_isLawful_11 (by omega) ?_
  refine z_icmp_gt (tgt := 19) hx hb dX5_isLawful_12 (by decide) (by omega) (fun c_12 => ?_) (fun c_12 => ?_)
  · skip
    refine lv_iconst (v := zI 0) hx hb dX5_isLawful_19 rfl ?_
    refine lv_istore_n (lv' := [(2, .int (zI 0)), (0, .ref o0), (1, .int (zI h))]) hx hb dX5_isLawful_20 rfl hl (by decide) rfl (fun ls hl => ?_)
    refine lv_iconst (v := zI 0) hx hb dX5_isLawful_21 rfl ?_
    refine lv_istore_n (lv' := [(3, .int (zI 0)), (2, .int (zI 0)), (0, .ref o0), (1, .int (zI h))]) hx hb dX5_isLawful_22 rfl hl (by decide) rfl (fun ls hl => ?_)
    refine lv_iconst (v := zI 0) hx hb dX5_isLawful_23 rfl ?_
    refine lv_istore (lv' := [(4, .int (zI 0)), (3, .int (zI 0)), (2, .int (zI 0)), (0, .ref o0), (1, .int (zI h))]) hx hb dX5_isLawful_24 hl (by decide) rfl (fun ls hl => ?_)
    exact lp_X5_isLawful_26 l D cB cI cZ cM o0 o1 o2 o3 o4 o5 o6 o7 o8 o9 oz tr td g1 g2 g3 g4 g5 g6 g7 f2 f3 f5 h hPm hB1 hdn6 hh hso hbm M hP hK (((f2 0).toNat) + 1) ((f2 0).toNat) 0 0 0 (Nat.lt_succ_self _) (by omega) (by exact Or.inl rfl) (by omega) (by unfold mlw; rw [decide_eq_false (show ¬ lyC (slI (f2 0) h) (f2 0).toNat 0 ≤ f2 6 by omega)]; rfl) _ (lv_sub hl [3, 4, 2, 1, 0] rfl)
  refine lv_iconst (v := zI 1) hx hb dX5_isLawful_15 rfl ?_
  refine lv_goto (tgt := 20) hx hb dX5_isLawful_16 (by decide) ?_
  refine lv_istore_n (lv' := [(2, .int (zI 1)), (0, .ref o0), (1, .int (zI h))]) hx hb dX5_isLawful_20 rfl hl (by decide) rfl (fun ls hl => ?_)
  refine lv_iconst (v := zI 0) hx hb dX5_isLawful_21 rfl ?_
  refine lv_istore_n (lv' := [(3, .int (zI 0)), (2, .int (zI 1)), (0, .ref o0), (1, .int (zI h))]) hx hb dX5_isLawful_22 rfl hl (by decide) rfl (fun ls hl => ?_)
  refine lv_iconst (v := zI 0) hx hb dX5_isLawful_23 rfl ?_
  refine lv_istore (lv' := [(4, .int (zI 0)), (3, .int (zI 0)), (2, .int (zI 1)), (0, .ref o0), (1, .int (zI h))]) hx hb dX5_isLawful_24 hl (by decide) rfl (fun ls hl => ?_)
  exact lp_X5_isLawful_26 l D cB cI cZ cM o0 o1 o2 o3 o4 o5 o6 o7 o8 o9 oz tr td g1 g2 g3 g4 g5 g6 g7 f2 f3 f5 h hPm hB1 hdn6 hh hso hbm M hP hK (((f2 0).toNat) + 1) ((f2 0).toNat) 0 1 0 (Nat.lt_succ_self _) (by omega) (by exact Or.inr rfl) (by omega) (by unfold mlw; rw [decide_eq_true (show lyC (slI (f2 0) h) (f2 0).toNat 0 ≤ f2 6 by omega)]; rfl) _ (lv_sub hl [3, 4, 2, 1, 0] rfl)
set_option maxHeartbeats 4000000 in
set_option maxRecDepth 100000 in
theorem c_X5_sortAt (l : Launch) (D : va_G) (cB cI cZ cM : ClassId) (Hp : Heap) (o0 : Nat) (o1 : Nat) (o2 : Nat) (o3 : Nat) (o4 : Nat) (o5 : Nat) (o6 : Nat) (o7 : Nat) (o8 : Nat) (o9 : Nat) (oz : Nat) (tr : Int64) (td : Int) (g1 : Int) (g2 : Int) (g3 : Int) (g4 : Int) (g5 : Int) (g6 : Int) (g7 : Int) (f2 : Int → Int) (f3 : Int → Int) (h : Int) (k : Int) (hPm : 0 ≤ f2 0 ∧ f2 0 ≤ 4) (hh : 0 ≤ h ∧ h < pw9 (f2 0)) (hso : ∀ i : Int, 0 ≤ i → i < 4 → 0 ≤ f3 i ∧ f3 i ≤ 3) (hk0 : -2147483648 ≤ k ∧ k < 2147483648) : cP l yX5_sortAt wsX5_sortAt 3 67 D (TYS cB cI cZ cM) [.ref o0, .int (zI h), .int (zI k)] [(o0, .inr (5, [.long tr, .ref o1, .int (zI td), .ref o2, .ref o3, .ref o4, .ref o5, .int (zI g1), .int (zI g2), .int (zI g3), .int (zI g4), .int (zI g5), .int (zI g6), .ref o6, .ref o7, .ref o8, .ref o9, .int (zI g7), .ref oz])), (o2, .inl (cI, 16, .inl (zia f2))), (o3, .inl (cI, 8, .inl (zia f3)))] Hp (fun r => r = zI (stA (slI (f2 0) h) f3 (f2 0) k)) := by
  refine pu_start (by decide) rfl (Nat.le_of_ble_eq_true rfl) ?_
  intro pg ev sx mm args below meth cd ls M hP hK hl
  obtain ⟨hx, hb, hr, hml, hown, hts, hlk, hN0⟩ := id M
  have hl : lv_has ls 4 [(0, .ref o0), (1, .int (zI h)), (2, .int (zI k))] := hl
  refine lv_aload_n hx hb dX5_sortAt_0 rfl (lv_at hl 0 rfl) ?_
  refine lv_iload_n hx hb dX5_sortAt_1 rfl (lv_at hl 1 rfl) ?_
  refine lv_iload_n hx hb dX5_sortAt_2 rfl (lv_at hl 2 rfl) ?_
  refine pc_V (As := [.int (zI h), .int (zI k)]) (rest := []) M (c_X5_panelAt l D cB cI cZ cM _ o0 o1 o2 o3 o4 o5 o6 o7 o8 o9 oz tr td g1 g2 g3 g4 g5 g6 g7 f2 h k (by first | assumption | omega) (by first | assumption | omega) (by first | assumption | omega)) gX5_sortAt_X5_panelAt rfl ⟨rfl, hd_X5_panelAt⟩ ⟨Nat.le_of_ble_eq_true rfl, Nat.le_of_ble_eq_true rfl⟩ hK hP [0, 1] rfl 0 5 rfl rfl rfl hl.1 rfl rfl (Nat.le_of_ble_eq_true rfl) dX5_sortAt_3 ⟨Nat.le_of_ble_eq_true rfl, Nat.le_of_ble_eq_true rfl⟩ (fun r_3 h_3 => ?_)
  subst h_3
  have hpf := patF_rng (slI (f2 0) h) k (f2 0).toNat 0 (by omega)
  refine lv_istore_n (lv' := [(3, .int (zI (patF (slI (f2 0) h) k (f2 0).toNat 0))), (0, .ref o0), (1, .int (zI h)), (2, .int (zI k))]) hx hb dX5_sortAt_6 rfl hl (by decide) rfl (fun ls hl => ?_)
  refine lv_iload_n hx hb dX5_sortAt_7 rfl (lv_at hl 0 rfl) ?_
  refine lv_bipush (v := zI (-9)) hx hb dX5_sortAt_8 (by decide) ?_
  refine z_icmp_ne (tgt := 18) hx hb dX5_sortAt_10 (by decide) (by omega) (fun c_10 => ?_) (fun c_10 => ?_)
  · skip
    refine lv_aload_n hx hb dX5_sortAt_18 rfl (lv_at hl 1 rfl) ?_
    refine va_get (D := D) (ci := 5) (C := RX5) (T := TX5) (N := 19) hx hb hts inc_X5_sortAt_5 hown hK hP 0 rfl rfl 4 (by decide) (hts (.fieldLink RX5 17 "BedHouseModel" "sorts" "[I") (by decide +kernel)) (fun _ h9 => h9) rfl dX5_sortAt_19 ?_
    refine lv_iload_n hx hb dX5_sortAt_22 rfl (lv_at hl 0 rfl) ?_
    have hs3 := hso (patF (slI (f2 0) h) k (f2 0).toNat 0) (by omega) (by omega)
    refine z_iald hx hb hK hP 2 1 rfl rfl (Nat.le_of_ble_eq_true rfl) dX5_sortAt_23 (by omega) ?_
    exact pu_ret M dX5_sortAt_24 (congrArg zI (by unfold stA; rw [if_neg c_10]))
  refine lv_bipush (v := zI (-9)) hx hb dX5_sortAt_13 (by decide) ?_
  refine lv_goto (tgt := 24) hx hb dX5_sortAt_15 (by decide) ?_
  exact pu_ret M dX5_sortAt_24 (congrArg zI (by unfold stA; rw [if_pos c_10]))
set_option maxHeartbeats 4000000 in
set_option maxRecDepth 100000 in
theorem lp_X5_leaksIn_4 (l : Launch) (D : va_G) (cB cI cZ cM : ClassId) (o0 : Nat) (o1 : Nat) (o2 : Nat) (o3 : Nat) (o4 : Nat) (o5 : Nat) (o6 : Nat) (o7 : Nat) (o8 : Nat) (o9 : Nat) (oz : Nat) (tr : Int64) (td : Int) (g1 : Int) (g2 : Int) (g3 : Int) (g4 : Int) (g5 : Int) (g6 : Int) (g7 : Int) (f2 : Int → Int) (f3 : Int → Int) (h : Int) (hPm : 0 ≤ f2 0 ∧ f2 0 ≤ 4) (hra : 0 ≤ f2 2 ∧ f2 2 < 256) (hh : 0 ≤ h ∧ h < pw9 (f2 0)) (hso : ∀ i : Int, 0 ≤ i → i < 4 → 0 ≤ f3 i ∧ f3 i ≤ 3) {pg : Program} {ev : Env} {sx : State} {mm : MethodId} {args : Array Value} {below : List Frame} {meth : Method} {cd : Code} (M : MX pg sx mm args meth cd cX5_leaksIn 4 (some .int) RX5 wsX5_leaksIn) (hP : va_P D vwCl [(o0, .inr (5, [.long tr, .ref o1, .int (zI td), .ref o2, .ref o3, .ref o4, .ref o5, .int (zI g1), .int (zI g2), .int (zI g3), .int (zI g4), .int (zI g5), .int (zI g6), .ref o6, .ref o7, .ref o8, .ref o9, .int (zI g7), .ref oz])), (o2, .inl (cI, 16, .inl (zia f2))), (o3, .inl (cI, 8, .inl (zia f3)))] sx.heap) (hK : va_K D vwCl (TYS cB cI cZ cM) sx) : ∀ (N : Nat) (n : Nat) (k : Int) (a : Int), (n < N) → (0 ≤ k ∧ k + n = 8) → (0 ≤ a ∧ a ≤ k) → (a + lkM (slI (f2 0) h) f3 (f2 0) (f2 2) n k = lkM (slI (f2 0) h) f3 (f2 0) (f2 2) 8 0) → ∀ ls : Array Slot, lv_has ls 4 [(0, .ref o0), (1, .int (zI h)), (2, .int (zI a)), (3, .int (zI k))] → W pg l ev (rmP 4 90) sx mm args below meth cd sx.heap [] 0 0 (QP below args sx (fun r => r = zI (lkM (slI (f2 0) h) f3 (f2 0) (f2 2) 8 0))) (F0 mm 4 ls []) := by
  intro N
  induction N with
  | zero => intro n k a hN; exact absurd hN (Nat.not_lt_zero _)
  | succ N ih =>
    intro n k a hN hi ha hv ls hl
    obtain ⟨hx, hb, hr, hml, hown, hts, hlk, hN0⟩ := id M
    refine lv_iload_n hx hb dX5_leaksIn_4 rfl (lv_at hl 3 rfl) ?_
    refine lv_bipush (v := zI 8) hx hb dX5_leaksIn_5 (by decide) ?_
    refine z_icmp_ge (tgt := 52) hx hb dX5_leaksIn_7 (by decide) (by omega) (fun c_7 => ?_) (fun c_7 => ?_)
    · skip
      obtain rfl : n = 0 := by omega
      refine lv_iload_n hx hb dX5_leaksIn_52 rfl (lv_at hl 2 rfl) ?_
      exact pu_ret M dX5_leaksIn_53 (congrArg zI (by rw [← hv, lkM]; omega))
    obtain ⟨n, rfl⟩ : ∃ j : Nat, n = j + 1 := ⟨n - 1, by omega⟩
    refine lv_iload_n hx hb dX5_leaksIn_10 rfl (lv_at hl 2 rfl) ?_
    refine lv_aload_n hx hb dX5_leaksIn_11 rfl (lv_at hl 0 rfl) ?_
    refine va_get (D := D) (ci := 5) (C := RX5) (T := TX5) (N := 19) hx hb hts inc_X5_leaksIn_5 hown hK hP 0 rfl rfl 3 (by decide) (hts (.fieldLink RX5 13 "BedHouseModel" "plan" "[I") (by decide +kernel)) (fun _ h9 => h9) rfl dX5_leaksIn_12 ?_
    refine lv_iconst (v := zI 2) hx hb dX5_leaksIn_15 rfl ?_
    refine z_iald hx hb hK hP 1 1 rfl rfl (Nat.le_of_ble_eq_true rfl) dX5_leaksIn_16 (by omega) ?_
    refine lv_iload_n hx hb dX5_leaksIn_17 rfl (lv_at hl 3 rfl) ?_
    refine z_ishr hx hb dX5_leaksIn_18 (by omega) ?_
    refine lv_iconst (v := zI 1) hx hb dX5_leaksIn_19 rfl ?_
    refine z_ibit hx hb dX5_leaksIn_20 ?_
    refine lv_iconst (v := zI 1) hx hb dX5_leaksIn_21 rfl ?_
    refine z_icmp_ne (tgt := 43) hx hb dX5_leaksIn_22 (by decide) (⟨zbit_bd _ _, by omega⟩) (fun c_22 => ?_) (fun c_22 => ?_)
    · skip
      have c_22 := zbit_ne1 c_22
      refine lv_iconst (v := zI 0) hx hb dX5_leaksIn_43 rfl ?_
      refine z_iadd hx hb dX5_leaksIn_44 ?_
      refine lv_istore_n (lv' := [(2, .int (zI (a + 0))), (0, .ref o0), (1, .int (zI h)), (3, .int (zI k))]) hx hb dX5_leaksIn_45 rfl hl (by decide) rfl (fun ls hl => ?_)
      refine z_iinc (a := k) (k := 3) (lv' := [(3, .int (zI (k + 1))), (2, .int (zI (a + 0))), (0, .ref o0), (1, .int (zI h))]) hx hb dX5_leaksIn_46 hl rfl (by decide) rfl (fun ls hl => ?_)
      refine lv_goto (tgt := 4) hx hb dX5_leaksIn_49 (by decide) ?_
      exact ih n (k + 1) (a + 0) (by omega) (by omega) (by omega) (by rw [← hv, lkM, if_neg (fun q => by rw [q.1] at c_22; exact absurd c_22 (by decide))]; omega) _ (lv_sub hl [2, 3, 1, 0] rfl)
    have c_22 := (zbit_1 _ _).mp c_22
    refine lv_aload_n hx hb dX5_leaksIn_25 rfl (lv_at hl 0 rfl) ?_
    refine lv_iload_n hx hb dX5_leaksIn_26 rfl (lv_at hl 1 rfl) ?_
    refine lv_iload_n hx hb dX5_leaksIn_27 rfl (lv_at hl 3 rfl) ?_
    refine pc_V (As := [.int (zI h), .int (zI k)]) (rest := [.int (zI a)]) M (c_X5_sortAt l D cB cI cZ cM _ o0 o1 o2 o3 o4 o5 o6 o7 o8 o9 oz tr td g1 g2 g3 g4 g5 g6 g7 f2 f3 h k (by first | assumption | omega) (by first | assumption | omega) (by first | assumption | omega) (by first | assumption | omega)) gX5_leaksIn_X5_sortAt rfl ⟨rfl, hd_X5_sortAt⟩ ⟨Nat.le_of_ble_eq_true rfl, Nat.le_of_ble_eq_true rfl⟩ hK hP [0, 1, 2] rfl 0 5 rfl rfl rfl hl.1 rfl rfl (Nat.le_of_ble_eq_true rfl) dX5_leaksIn_28 ⟨Nat.le_of_ble_eq_true rfl, Nat.le_of_ble_eq_true rfl⟩ (fun r_28 h_28 => ?_)
    subst h_28
    have hsr := stA_rng (q := (slI (f2 0) h)) (so := f3) (P := f2 0) (k := k) hso hPm
    refine lv_iconst (v := zI 0) hx hb dX5_leaksIn_31 rfl ?_
    refine lv_iconst (v := zI 1) hx hb dX5_leaksIn_32 rfl ?_
    refine pc_J (As := [.int (zI (stA (slI (f2 0) h) f3 (f2 0) k)), .int (zI 0), .int (zI 1)]) (rest := [.int (zI a)]) M (c_X5_in l D cB cI cZ cM _ (stA (slI (f2 0) h) f3 (f2 0) k) 0 1 (by first | assumption | omega) (by first | assumption | omega) (by first | assumption | omega)) gX5_leaksIn_X5_in rfl hd_X5_in ⟨Nat.le_of_ble_eq_true rfl, Nat.le_of_ble_eq_true rfl⟩ hK hP [] rfl hl.1 rfl rfl (Nat.le_of_ble_eq_true rfl) dX5_leaksIn_33 ⟨Nat.le_of_ble_eq_true rfl, Nat.le_of_ble_eq_true rfl⟩ (fun r_33 h_33 => ?_)
    subst h_33
    refine z_if_ne (tgt := 43) hx hb dX5_leaksIn_36 (by decide) (zb_bd _) (fun c_36 => ?_) (fun c_36 => ?_)
    · skip
      have c_36 := zb_t c_36
      refine lv_iconst (v := zI 0) hx hb dX5_leaksIn_43 rfl ?_
      refine z_iadd hx hb dX5_leaksIn_44 ?_
      refine lv_istore_n (lv' := [(2, .int (zI (a + 0))), (0, .ref o0), (1, .int (zI h)), (3, .int (zI k))]) hx hb dX5_leaksIn_45 rfl hl (by decide) rfl (fun ls hl => ?_)
      refine z_iinc (a := k) (k := 3) (lv' := [(3, .int (zI (k + 1))), (2, .int (zI (a + 0))), (0, .ref o0), (1, .int (zI h))]) hx hb dX5_leaksIn_46 hl rfl (by decide) rfl (fun ls hl => ?_)
      refine lv_goto (tgt := 4) hx hb dX5_leaksIn_49 (by decide) ?_
      exact ih n (k + 1) (a + 0) (by omega) (by omega) (by omega) (by rw [← hv, lkM, if_neg (fun q => q.2 c_36)]; omega) _ (lv_sub hl [2, 3, 1, 0] rfl)
    have c_36 := zb_f c_36
    refine lv_iconst (v := zI 1) hx hb dX5_leaksIn_39 rfl ?_
    refine lv_goto (tgt := 44) hx hb dX5_leaksIn_40 (by decide) ?_
    refine z_iadd hx hb dX5_leaksIn_44 ?_
    refine lv_istore_n (lv' := [(2, .int (zI (a + 1))), (0, .ref o0), (1, .int (zI h)), (3, .int (zI k))]) hx hb dX5_leaksIn_45 rfl hl (by decide) rfl (fun ls hl => ?_)
    refine z_iinc (a := k) (k := 3) (lv' := [(3, .int (zI (k + 1))), (2, .int (zI (a + 1))), (0, .ref o0), (1, .int (zI h))]) hx hb dX5_leaksIn_46 hl rfl (by decide) rfl (fun ls hl => ?_)
    refine lv_goto (tgt := 4) hx hb dX5_leaksIn_49 (by decide) ?_
    exact ih n (k + 1) (a + 1) (by omega) (by omega) (by omega) (by rw [← hv, lkM, if_pos (And.intro c_22 c_36)]; omega) _ (lv_sub hl [2, 3, 1, 0] rfl)
set_option maxHeartbeats 4000000 in
set_option maxRecDepth 100000 in
theorem c_X5_leaksIn (l : Launch) (D : va_G) (cB cI cZ cM : ClassId) (Hp : Heap) (o0 : Nat) (o1 : Nat) (o2 : Nat) (o3 : Nat) (o4 : Nat) (o5 : Nat) (o6 : Nat) (o7 : Nat) (o8 : Nat) (o9 : Nat) (oz : Nat) (tr : Int64) (td : Int) (g1 : Int) (g2 : Int) (g3 : Int) (g4 : Int) (g5 : Int) (g6 : Int) (g7 : Int) (f2 : Int → Int) (f3 : Int → Int) (h : Int) (hPm : 0 ≤ f2 0 ∧ f2 0 ≤ 4) (hra : 0 ≤ f2 2 ∧ f2 2 < 256) (hh : 0 ≤ h ∧ h < pw9 (f2 0)) (hso : ∀ i : Int, 0 ≤ i → i < 4 → 0 ≤ f3 i ∧ f3 i ≤ 3) : cP l yX5_leaksIn wsX5_leaksIn 4 90 D (TYS cB cI cZ cM) [.ref o0, .int (zI h)] [(o0, .inr (5, [.long tr, .ref o1, .int (zI td), .ref o2, .ref o3, .ref o4, .ref o5, .int (zI g1), .int (zI g2), .int (zI g3), .int (zI g4), .int (zI g5), .int (zI g6), .ref o6, .ref o7, .ref o8, .ref o9, .int (zI g7), .ref oz])), (o2, .inl (cI, 16, .inl (zia f2))), (o3, .inl (cI, 8, .inl (zia f3)))] Hp (fun r => r = zI (lkM (slI (f2 0) h) f3 (f2 0) (f2 2) 8 0)) := by
  refine pu_start (by decide) rfl (Nat.le_of_ble_eq_true rfl) ?_
  intro pg ev sx mm args below meth cd ls M hP hK hl
  obtain ⟨hx, hb, hr, hml, hown, hts, hlk, hN0⟩ := id M
  have hl : lv_has ls 4 [(0, .ref o0), (1, .int (zI h))] := hl
  refine lv_iconst (v := zI 0) hx hb dX5_leaksIn_0 rfl ?_
  refine lv_istore_n (lv' := [(2, .int (zI 0)), (0, .ref o0), (1, .int (zI h))]) hx hb dX5_leaksIn_1 rfl hl (by decide) rfl (fun ls hl => ?_)
  refine lv_iconst (v := zI 0) hx hb dX5_leaksIn_2 rfl ?_
  refine lv_istore_n (lv' := [(3, .int (zI 0)), (2, .int (zI 0)), (0, .ref o0), (1, .int (zI h))]) hx hb dX5_leaksIn_3 rfl hl (by decide) rfl (fun ls hl => ?_)
  exact lp_X5_leaksIn_4 l D cB cI cZ cM o0 o1 o2 o3 o4 o5 o6 o7 o8 o9 oz tr td g1 g2 g3 g4 g5 g6 g7 f2 f3 h hPm hra hh hso M hP hK (8 + 1) 8 0 0 (Nat.lt_succ_self _) (by omega) (by omega) (by omega) _ (lv_sub hl [2, 3, 1, 0] rfl)
set_option maxHeartbeats 4000000 in
set_option maxRecDepth 100000 in
theorem c_X5_isOpen (l : Launch) (D : va_G) (cB cI cZ cM : ClassId) (Hp : Heap) (o0 : Nat) (o1 : Nat) (o2 : Nat) (o3 : Nat) (o4 : Nat) (o5 : Nat) (o6 : Nat) (o7 : Nat) (o8 : Nat) (o9 : Nat) (oz : Nat) (tr : Int64) (td : Int) (g1 : Int) (g2 : Int) (g3 : Int) (g4 : Int) (g5 : Int) (g6 : Int) (g7 : Int) (f2 : Int → Int) (f3 : Int → Int) (h : Int) (k : Int) (hPm : 0 ≤ f2 0 ∧ f2 0 ≤ 4) (hh : 0 ≤ h ∧ h < pw9 (f2 0)) (hso : ∀ i : Int, 0 ≤ i → i < 4 → 0 ≤ f3 i ∧ f3 i ≤ 3) (hk0 : -2147483648 ≤ k ∧ k < 2147483648) : cP l yX5_isOpen wsX5_isOpen 4 90 D (TYS cB cI cZ cM) [.ref o0, .int (zI h), .int (zI k)] [(o0, .inr (5, [.long tr, .ref o1, .int (zI td), .ref o2, .ref o3, .ref o4, .ref o5, .int (zI g1), .int (zI g2), .int (zI g3), .int (zI g4), .int (zI g5), .int (zI g6), .ref o6, .ref o7, .ref o8, .ref o9, .int (zI g7), .ref oz])), (o2, .inl (cI, 16, .inl (zia f2))), (o3, .inl (cI, 8, .inl (zia f3)))] Hp (fun r => r = zI (zb (opA (slI (f2 0) h) f3 (f2 0) k))) := by
  refine pu_start (by decide) rfl (Nat.le_of_ble_eq_true rfl) ?_
  intro pg ev sx mm args below meth cd ls M hP hK hl
  obtain ⟨hx, hb, hr, hml, hown, hts, hlk, hN0⟩ := id M
  have hl : lv_has ls 4 [(0, .ref o0), (1, .int (zI h)), (2, .int (zI k))] := hl
  refine lv_aload_n hx hb dX5_isOpen_0 rfl (lv_at hl 0 rfl) ?_
  refine lv_iload_n hx hb dX5_isOpen_1 rfl (lv_at hl 1 rfl) ?_
  refine lv_iload_n hx hb dX5_isOpen_2 rfl (lv_at hl 2 rfl) ?_
  refine pc_V (As := [.int (zI h), .int (zI k)]) (rest := []) M (c_X5_sortAt l D cB cI cZ cM _ o0 o1 o2 o3 o4 o5 o6 o7 o8 o9 oz tr td g1 g2 g3 g4 g5 g6 g7 f2 f3 h k (by first | assumption | omega) (by first | assumption | omega) (by first | assumption | omega) (by first | assumption | omega)) gX5_isOpen_X5_sortAt rfl ⟨rfl, hd_X5_sortAt⟩ ⟨Nat.le_of_ble_eq_true rfl, Nat.le_of_ble_eq_true rfl⟩ hK hP [0, 1, 2] rfl 0 5 rfl rfl rfl hl.1 rfl rfl (Nat.le_of_ble_eq_true rfl) dX5_isOpen_3 ⟨Nat.le_of_ble_eq_true rfl, Nat.le_of_ble_eq_true rfl⟩ (fun r_3 h_3 => ?_)
  subst h_3
  have hsr := stA_rng (q := (slI (f2 0) h)) (so := f3) (P := f2 0) (k := k) hso hPm
  refine lv_istore_n (lv' := [(3, .int (zI (stA (slI (f2 0) h) f3 (f2 0) k))), (0, .ref o0), (1, .int (zI h)), (2, .int (zI k))]) hx hb dX5_isOpen_6 rfl hl (by decide) rfl (fun ls hl => ?_)
  refine lv_iload_n hx hb dX5_isOpen_7 rfl (lv_at hl 0 rfl) ?_
  refine lv_bipush (v := zI (-9)) hx hb dX5_isOpen_8 (by decide) ?_
  refine z_icmp_eq (tgt := 18) hx hb dX5_isOpen_10 (by decide) (by omega) (fun c_10 => ?_) (fun c_10 => ?_)
  · skip
    refine lv_iconst (v := zI 1) hx hb dX5_isOpen_18 rfl ?_
    refine lv_goto (tgt := 23) hx hb dX5_isOpen_19 (by decide) ?_
    exact pu_retz M (rfl) dX5_isOpen_23 (congrArg zI (by unfold zb; split <;> omega))
  refine lv_iload_n hx hb dX5_isOpen_13 rfl (lv_at hl 0 rfl) ?_
  refine lv_iconst (v := zI 1) hx hb dX5_isOpen_14 rfl ?_
  refine z_icmp_ne (tgt := 22) hx hb dX5_isOpen_15 (by decide) (by omega) (fun c_15 => ?_) (fun c_15 => ?_)
  · skip
    refine lv_iconst (v := zI 0) hx hb dX5_isOpen_22 rfl ?_
    exact pu_retz M (rfl) dX5_isOpen_23 (congrArg zI (by unfold zb; split <;> omega))
  refine lv_iconst (v := zI 1) hx hb dX5_isOpen_18 rfl ?_
  refine lv_goto (tgt := 23) hx hb dX5_isOpen_19 (by decide) ?_
  exact pu_retz M (rfl) dX5_isOpen_23 (congrArg zI (by unfold zb; split <;> omega))
set_option maxHeartbeats 4000000 in
set_option maxRecDepth 100000 in
theorem c_X5_isLit (l : Launch) (D : va_G) (cB cI cZ cM : ClassId) (Hp : Heap) (o0 : Nat) (o1 : Nat) (o2 : Nat) (o3 : Nat) (o4 : Nat) (o5 : Nat) (o6 : Nat) (o7 : Nat) (o8 : Nat) (o9 : Nat) (oz : Nat) (tr : Int64) (td : Int) (g1 : Int) (g2 : Int) (g3 : Int) (g4 : Int) (g5 : Int) (g6 : Int) (g7 : Int) (f2 : Int → Int) (f3 : Int → Int) (h : Int) (k : Int) (hPm : 0 ≤ f2 0 ∧ f2 0 ≤ 4) (hsu : 0 ≤ f2 3 ∧ f2 3 < 256) (hh : 0 ≤ h ∧ h < pw9 (f2 0)) (hso : ∀ i : Int, 0 ≤ i → i < 4 → 0 ≤ f3 i ∧ f3 i ≤ 3) (hk : 0 ≤ k ∧ k < 8) : cP l yX5_isLit wsX5_isLit 5 113 D (TYS cB cI cZ cM) [.ref o0, .int (zI h), .int (zI k)] [(o0, .inr (5, [.long tr, .ref o1, .int (zI td), .ref o2, .ref o3, .ref o4, .ref o5, .int (zI g1), .int (zI g2), .int (zI g3), .int (zI g4), .int (zI g5), .int (zI g6), .ref o6, .ref o7, .ref o8, .ref o9, .int (zI g7), .ref oz])), (o2, .inl (cI, 16, .inl (zia f2))), (o3, .inl (cI, 8, .inl (zia f3)))] Hp (fun r => r = zI (zb (liM (slI (f2 0) h) f3 (f2 0) (f2 3) k))) := by
  refine pu_start (by decide) rfl (Nat.le_of_ble_eq_true rfl) ?_
  intro pg ev sx mm args below meth cd ls M hP hK hl
  obtain ⟨hx, hb, hr, hml, hown, hts, hlk, hN0⟩ := id M
  have hl : lv_has ls 3 [(0, .ref o0), (1, .int (zI h)), (2, .int (zI k))] := hl
  refine lv_aload_n hx hb dX5_isLit_0 rfl (lv_at hl 0 rfl) ?_
  refine va_get (D := D) (ci := 5) (C := RX5) (T := TX5) (N := 19) hx hb hts inc_X5_isLit_5 hown hK hP 0 rfl rfl 3 (by decide) (hts (.fieldLink RX5 13 "BedHouseModel" "plan" "[I") (by decide +kernel)) (fun _ h9 => h9) rfl dX5_isLit_1 ?_
  refine lv_iconst (v := zI 3) hx hb dX5_isLit_4 rfl ?_
  refine z_iald hx hb hK hP 1 1 rfl rfl (Nat.le_of_ble_eq_true rfl) dX5_isLit_5 (by omega) ?_
  refine lv_iload_n hx hb dX5_isLit_6 rfl (lv_at hl 2 rfl) ?_
  refine z_ishr hx hb dX5_isLit_7 (by omega) ?_
  refine lv_iconst (v := zI 1) hx hb dX5_isLit_8 rfl ?_
  refine z_ibit hx hb dX5_isLit_9 ?_
  refine lv_iconst (v := zI 1) hx hb dX5_isLit_10 rfl ?_
  refine z_icmp_ne (tgt := 27) hx hb dX5_isLit_11 (by decide) (⟨zbit_bd _ _, by omega⟩) (fun c_11 => ?_) (fun c_11 => ?_)
  · skip
    have c_11 := zbit_ne1 c_11
    refine lv_iconst (v := zI 0) hx hb dX5_isLit_27 rfl ?_
    exact pu_retz M (rfl) dX5_isLit_28 (congrArg zI (by rw [zb_0]; exact fun q => by rw [q.1] at c_11; exact absurd c_11 (by decide)))
  have c_11 := (zbit_1 _ _).mp c_11
  refine lv_aload_n hx hb dX5_isLit_14 rfl (lv_at hl 0 rfl) ?_
  refine lv_iload_n hx hb dX5_isLit_15 rfl (lv_at hl 1 rfl) ?_
  refine lv_iload_n hx hb dX5_isLit_16 rfl (lv_at hl 2 rfl) ?_
  refine pc_V (As := [.int (zI h), .int (zI k)]) (rest := []) M (c_X5_isOpen l D cB cI cZ cM _ o0 o1 o2 o3 o4 o5 o6 o7 o8 o9 oz tr td g1 g2 g3 g4 g5 g6 g7 f2 f3 h k (by first | assumption | omega) (by first | assumption | omega) (by first | assumption | omega) (by first | assumption | omega)) gX5_isLit_X5_isOpen rfl ⟨rfl, hd_X5_isOpen⟩ ⟨Nat.le_of_ble_eq_true rfl, Nat.le_of_ble_eq_true rfl⟩ hK hP [0, 1, 2] rfl 0 5 rfl rfl rfl hl.1 rfl rfl (Nat.le_of_ble_eq_true rfl) dX5_isLit_17 ⟨Nat.le_of_ble_eq_true rfl, Nat.le_of_ble_eq_true rfl⟩ (fun r_17 h_17 => ?_)
  subst h_17
  refine z_if_eq (tgt := 27) hx hb dX5_isLit_20 (by decide) (zb_bd _) (fun c_20 => ?_) (fun c_20 => ?_)
  · skip
    have c_20 := zb_f c_20
    refine lv_iconst (v := zI 0) hx hb dX5_isLit_27 rfl ?_
    exact pu_retz M (rfl) dX5_isLit_28 (congrArg zI (by rw [zb_0]; exact fun q => c_20 q.2))
  have c_20 := zb_t c_20
  refine lv_iconst (v := zI 1) hx hb dX5_isLit_23 rfl ?_
  refine lv_goto (tgt := 28) hx hb dX5_isLit_24 (by decide) ?_
  exact pu_retz M (rfl) dX5_isLit_28 (congrArg zI (by rw [zb_1]; exact And.intro c_11 c_20))
set_option maxHeartbeats 4000000 in
set_option maxRecDepth 100000 in
theorem lp_X5_worthOf_11 (l : Launch) (D : va_G) (cB cI cZ cM : ClassId) (o0 : Nat) (o1 : Nat) (o2 : Nat) (o3 : Nat) (o4 : Nat) (o5 : Nat) (o6 : Nat) (o7 : Nat) (o8 : Nat) (o9 : Nat) (oz : Nat) (tr : Int64) (td : Int) (g1 : Int) (g2 : Int) (g3 : Int) (g4 : Int) (g5 : Int) (g6 : Int) (g7 : Int) (f2 : Int → Int) (f3 : Int → Int) (h : Int) (hPm : 0 ≤ f2 0 ∧ f2 0 ≤ 4) (hra : 0 ≤ f2 2 ∧ f2 2 < 256) (hsu : 0 ≤ f2 3 ∧ f2 3 < 256) (hvw : f2 4 = -9 ∨ (0 ≤ f2 4 ∧ f2 4 < 8)) (hno : f2 5 = -9 ∨ (0 ≤ f2 5 ∧ f2 5 < 8)) (hh : 0 ≤ h ∧ h < pw9 (f2 0)) (hso : ∀ i : Int, 0 ≤ i → i < 4 → 0 ≤ f3 i ∧ f3 i ≤ 3) {pg : Program} {ev : Env} {sx : State} {mm : MethodId} {args : Array Value} {below : List Frame} {meth : Method} {cd : Code} (M : MX pg sx mm args meth cd cX5_worthOf 4 (some .int) RX5 wsX5_worthOf) (hP : va_P D vwCl [(o0, .inr (5, [.long tr, .ref o1, .int (zI td), .ref o2, .ref o3, .ref o4, .ref o5, .int (zI g1), .int (zI g2), .int (zI g3), .int (zI g4), .int (zI g5), .int (zI g6), .ref o6, .ref o7, .ref o8, .ref o9, .int (zI g7), .ref oz])), (o2, .inl (cI, 16, .inl (zia f2))), (o3, .inl (cI, 8, .inl (zia f3)))] sx.heap) (hK : va_K D vwCl (TYS cB cI cZ cM) sx) : ∀ (N : Nat) (n : Nat) (k : Int) (a : Int), (n < N) → (0 ≤ k ∧ k + n = 8) → (-16 ≤ a ∧ a ≤ 3 * k) → (a + wlM (slI (f2 0) h) f3 (f2 0) (f2 3) n k = -2 * lkM (slI (f2 0) h) f3 (f2 0) (f2 2) 8 0 + wlM (slI (f2 0) h) f3 (f2 0) (f2 3) 8 0) → ∀ ls : Array Slot, lv_has ls 4 [(0, .ref o0), (1, .int (zI h)), (2, .int (zI a)), (3, .int (zI k))] → W pg l ev (rmP 6 135) sx mm args below meth cd sx.heap [] 0 0 (QP below args sx (fun r => r = zI (woM (slI (f2 0) h) f3 (f2 0) (f2 2) (f2 3) (f2 4) (f2 5)))) (F0 mm 11 ls []) := by
  intro N
  induction N with
  | zero => intro n k a hN; exact absurd hN (Nat.not_lt_zero _)
  | succ N ih =>
    intro n k a hN hi ha hv ls hl
    obtain ⟨hx, hb, hr, hml, hown, hts, hlk, hN0⟩ := id M
    refine lv_iload_n hx hb dX5_worthOf_11 rfl (lv_at hl 3 rfl) ?_
    refine lv_bipush (v := zI 8) hx hb dX5_worthOf_12 (by decide) ?_
    refine z_icmp_ge (tgt := 40) hx hb dX5_worthOf_14 (by decide) (by omega) (fun c_14 => ?_) (fun c_14 => ?_)
    · skip
      obtain rfl : n = 0 := by omega
      have hv9 : a = -2 * lkM (slI (f2 0) h) f3 (f2 0) (f2 2) 8 0 + wlM (slI (f2 0) h) f3 (f2 0) (f2 3) 8 0 := by rw [← hv, wlM]; omega
      refine lv_iload_n hx hb dX5_worthOf_40 rfl (lv_at hl 2 rfl) ?_
      refine lv_aload_n hx hb dX5_worthOf_41 rfl (lv_at hl 0 rfl) ?_
      refine va_get (D := D) (ci := 5) (C := RX5) (T := TX5) (N := 19) hx hb hts inc_X5_worthOf_5 hown hK hP 0 rfl rfl 3 (by decide) (hts (.fieldLink RX5 13 "BedHouseModel" "plan" "[I") (by decide +kernel)) (fun _ h9 => h9) rfl dX5_worthOf_42 ?_
      refine lv_iconst (v := zI 4) hx hb dX5_worthOf_45 rfl ?_
      refine z_iald hx hb hK hP 1 1 rfl rfl (Nat.le_of_ble_eq_true rfl) dX5_worthOf_46 (by omega) ?_
      refine lv_bipush (v := zI (-9)) hx hb dX5_worthOf_47 (by decide) ?_
      refine z_icmp_eq (tgt := 70) hx hb dX5_worthOf_49 (by decide) (by omega) (fun c_49 => ?_) (fun c_49 => ?_)
      · skip
        refine lv_iconst (v := zI 0) hx hb dX5_worthOf_70 rfl ?_
        refine z_iadd hx hb dX5_worthOf_71 ?_
        refine lv_istore_n (lv' := [(2, .int (zI (a + 0))), (0, .ref o0), (1, .int (zI h)), (3, .int (zI k))]) hx hb dX5_worthOf_72 rfl hl (by decide) rfl (fun ls hl => ?_)
        refine lv_aload_n hx hb dX5_worthOf_73 rfl (lv_at hl 1 rfl) ?_
        refine va_get (D := D) (ci := 5) (C := RX5) (T := TX5) (N := 19) hx hb hts inc_X5_worthOf_5 hown hK hP 0 rfl rfl 3 (by decide) (hts (.fieldLink RX5 13 "BedHouseModel" "plan" "[I") (by decide +kernel)) (fun _ h9 => h9) rfl dX5_worthOf_74 ?_
        refine lv_iconst (v := zI 5) hx hb dX5_worthOf_77 rfl ?_
        refine z_iald hx hb hK hP 1 1 rfl rfl (Nat.le_of_ble_eq_true rfl) dX5_worthOf_78 (by omega) ?_
        refine lv_bipush (v := zI (-9)) hx hb dX5_worthOf_79 (by decide) ?_
        refine z_icmp_ne (tgt := 89) hx hb dX5_worthOf_81 (by decide) (by omega) (fun c_81 => ?_) (fun c_81 => ?_)
        · skip
          refine lv_aload_n hx hb dX5_worthOf_89 rfl (lv_at hl 1 rfl) ?_
          refine lv_iload_n hx hb dX5_worthOf_90 rfl (lv_at hl 2 rfl) ?_
          refine lv_aload_n hx hb dX5_worthOf_91 rfl (lv_at hl 1 rfl) ?_
          refine va_get (D := D) (ci := 5) (C := RX5) (T := TX5) (N := 19) hx hb hts inc_X5_worthOf_5 hown hK hP 0 rfl rfl 3 (by decide) (hts (.fieldLink RX5 13 "BedHouseModel" "plan" "[I") (by decide +kernel)) (fun _ h9 => h9) rfl dX5_worthOf_92 ?_
          refine lv_iconst (v := zI 5) hx hb dX5_worthOf_95 rfl ?_
          refine z_iald hx hb hK hP 1 1 rfl rfl (Nat.le_of_ble_eq_true rfl) dX5_worthOf_96 (by omega) ?_
          refine pc_V (As := [.int (zI h), .int (zI (f2 5))]) (rest := []) M (c_X5_sortAt l D cB cI cZ cM _ o0 o1 o2 o3 o4 o5 o6 o7 o8 o9 oz tr td g1 g2 g3 g4 g5 g6 g7 f2 f3 h (f2 5) (by first | assumption | omega) (by first | assumption | omega) (by first | assumption | omega) (by first | assumption | omega)) gX5_worthOf_X5_sortAt rfl ⟨rfl, hd_X5_sortAt⟩ ⟨Nat.le_of_ble_eq_true rfl, Nat.le_of_ble_eq_true rfl⟩ hK hP [0, 1, 2] rfl 0 5 rfl rfl rfl hl.1 rfl rfl (Nat.le_of_ble_eq_true rfl) dX5_worthOf_97 ⟨Nat.le_of_ble_eq_true rfl, Nat.le_of_ble_eq_true rfl⟩ (fun r_97 h_97 => ?_)
          subst h_97
          have hsr := stA_rng (q := (slI (f2 0) h)) (so := f3) (P := f2 0) (k := (f2 5)) hso hPm
          refine lv_istore_n (lv' := [(3, .int (zI (stA (slI (f2 0) h) f3 (f2 0) (f2 5)))), (2, .int (zI (a + 0))), (0, .ref o0), (1, .int (zI h))]) hx hb dX5_worthOf_100 rfl hl (by decide) rfl (fun ls hl => ?_)
          refine lv_iload_n hx hb dX5_worthOf_101 rfl (lv_at hl 1 rfl) ?_
          refine lv_iload_n hx hb dX5_worthOf_102 rfl (lv_at hl 0 rfl) ?_
          refine lv_bipush (v := zI (-9)) hx hb dX5_worthOf_103 (by decide) ?_
          refine z_icmp_ne (tgt := 112) hx hb dX5_worthOf_105 (by decide) (by omega) (fun c_105 => ?_) (fun c_105 => ?_)
          · skip
            refine lv_iload_n hx hb dX5_worthOf_112 rfl (lv_at hl 0 rfl) ?_
            refine z_if_ne (tgt := 120) hx hb dX5_worthOf_113 (by decide) (by omega) (fun c_113 => ?_) (fun c_113 => ?_)
            · skip
              refine lv_iconst (v := zI 2) hx hb dX5_worthOf_120 rfl ?_
              refine z_iadd hx hb dX5_worthOf_121 ?_
              exact pu_ret M dX5_worthOf_122 (congrArg zI (by unfold woM; rw [← hv9]; split <;> split <;> first | omega | (split <;> omega)))
            refine lv_iconst (v := zI 4) hx hb dX5_worthOf_116 rfl ?_
            refine lv_goto (tgt := 121) hx hb dX5_worthOf_117 (by decide) ?_
            refine z_iadd hx hb dX5_worthOf_121 ?_
            exact pu_ret M dX5_worthOf_122 (congrArg zI (by unfold woM; rw [← hv9]; split <;> split <;> first | omega | (split <;> omega)))
          refine lv_iconst (v := zI 0) hx hb dX5_worthOf_108 rfl ?_
          refine lv_goto (tgt := 121) hx hb dX5_worthOf_109 (by decide) ?_
          refine z_iadd hx hb dX5_worthOf_121 ?_
          exact pu_ret M dX5_worthOf_122 (congrArg zI (by unfold woM; rw [← hv9]; split <;> split <;> first | omega | (split <;> omega)))
        refine lv_bipush (v := zI (-9)) hx hb dX5_worthOf_84 (by decide) ?_
        refine lv_goto (tgt := 100) hx hb dX5_worthOf_86 (by decide) ?_
        have hsr := stA_rng (q := (slI (f2 0) h)) (so := f3) (P := f2 0) (k := (f2 5)) hso hPm
        refine lv_istore_n (lv' := [(3, .int (zI (-9))), (2, .int (zI (a + 0))), (0, .ref o0), (1, .int (zI h))]) hx hb dX5_worthOf_100 rfl hl (by decide) rfl (fun ls hl => ?_)
        refine lv_iload_n hx hb dX5_worthOf_101 rfl (lv_at hl 1 rfl) ?_
        refine lv_iload_n hx hb dX5_worthOf_102 rfl (lv_at hl 0 rfl) ?_
        refine lv_bipush (v := zI (-9)) hx hb dX5_worthOf_103 (by decide) ?_
        refine z_icmp_ne (tgt := 112) hx hb dX5_worthOf_105 (by decide) (by omega) (fun c_105 => ?_) (fun c_105 => ?_)
        · skip
          exfalso; omega
        refine lv_iconst (v := zI 0) hx hb dX5_worthOf_108 rfl ?_
        refine lv_goto (tgt := 121) hx hb dX5_worthOf_109 (by decide) ?_
        refine z_iadd hx hb dX5_worthOf_121 ?_
        exact pu_ret M dX5_worthOf_122 (congrArg zI (by unfold woM; rw [← hv9]; split <;> split <;> first | omega | (split <;> omega)))
      refine lv_aload_n hx hb dX5_worthOf_52 rfl (lv_at hl 0 rfl) ?_
      refine lv_iload_n hx hb dX5_worthOf_53 rfl (lv_at hl 1 rfl) ?_
      refine lv_aload_n hx hb dX5_worthOf_54 rfl (lv_at hl 0 rfl) ?_
      refine va_get (D := D) (ci := 5) (C := RX5) (T := TX5) (N := 19) hx hb hts inc_X5_worthOf_5 hown hK hP 0 rfl rfl 3 (by decide) (hts (.fieldLink RX5 13 "BedHouseModel" "plan" "[I") (by decide +kernel)) (fun _ h9 => h9) rfl dX5_worthOf_55 ?_
      refine lv_iconst (v := zI 4) hx hb dX5_worthOf_58 rfl ?_
      refine z_iald hx hb hK hP 1 1 rfl rfl (Nat.le_of_ble_eq_true rfl) dX5_worthOf_59 (by omega) ?_
      refine pc_V (As := [.int (zI h), .int (zI (f2 4))]) (rest := [.int (zI a)]) M (c_X5_isOpen l D cB cI cZ cM _ o0 o1 o2 o3 o4 o5 o6 o7 o8 o9 oz tr td g1 g2 g3 g4 g5 g6 g7 f2 f3 h (f2 4) (by first | assumption | omega) (by first | assumption | omega) (by first | assumption | omega) (by first | assumption | omega)) gX5_worthOf_X5_isOpen rfl ⟨rfl, hd_X5_isOpen⟩ ⟨Nat.le_of_ble_eq_true rfl, Nat.le_of_ble_eq_true rfl⟩ hK hP [0, 1, 2] rfl 0 5 rfl rfl rfl hl.1 rfl rfl (Nat.le_of_ble_eq_true rfl) dX5_worthOf_60 ⟨Nat.le_of_ble_eq_true rfl, Nat.le_of_ble_eq_true rfl⟩ (fun r_60 h_60 => ?_)
      subst h_60
      refine z_if_eq (tgt := 70) hx hb dX5_worthOf_63 (by decide) (zb_bd _) (fun c_63 => ?_) (fun c_63 => ?_)
      · skip
        have c_63 := zb_f c_63
        refine lv_iconst (v := zI 0) hx hb dX5_worthOf_70 rfl ?_
        refine z_iadd hx hb dX5_worthOf_71 ?_
        refine lv_istore_n (lv' := [(2, .int (zI (a + 0))), (0, .ref o0), (1, .int (zI h)), (3, .int (zI k))]) hx hb dX5_worthOf_72 rfl hl (by decide) rfl (fun ls hl => ?_)
        refine lv_aload_n hx hb dX5_worthOf_73 rfl (lv_at hl 1 rfl) ?_
        refine va_get (D := D) (ci := 5) (C := RX5) (T := TX5) (N := 19) hx hb hts inc_X5_worthOf_5 hown hK hP 0 rfl rfl 3 (by decide) (hts (.fieldLink RX5 13 "BedHouseModel" "plan" "[I") (by decide +kernel)) (fun _ h9 => h9) rfl dX5_worthOf_74 ?_
        refine lv_iconst (v := zI 5) hx hb dX5_worthOf_77 rfl ?_
        refine z_iald hx hb hK hP 1 1 rfl rfl (Nat.le_of_ble_eq_true rfl) dX5_worthOf_78 (by omega) ?_
        refine lv_bipush (v := zI (-9)) hx hb dX5_worthOf_79 (by decide) ?_
        refine z_icmp_ne (tgt := 89) hx hb dX5_worthOf_81 (by decide) (by omega) (fun c_81 => ?_) (fun c_81 => ?_)
        · skip
          refine lv_aload_n hx hb dX5_worthOf_89 rfl (lv_at hl 1 rfl) ?_
          refine lv_iload_n hx hb dX5_worthOf_90 rfl (lv_at hl 2 rfl) ?_
          refine lv_aload_n hx hb dX5_worthOf_91 rfl (lv_at hl 1 rfl) ?_
          refine va_get (D := D) (ci := 5) (C := RX5) (T := TX5) (N := 19) hx hb hts inc_X5_worthOf_5 hown hK hP 0 rfl rfl 3 (by decide) (hts (.fieldLink RX5 13 "BedHouseModel" "plan" "[I") (by decide +kernel)) (fun _ h9 => h9) rfl dX5_worthOf_92 ?_
          refine lv_iconst (v := zI 5) hx hb dX5_worthOf_95 rfl ?_
          refine z_iald hx hb hK hP 1 1 rfl rfl (Nat.le_of_ble_eq_true rfl) dX5_worthOf_96 (by omega) ?_
          refine pc_V (As := [.int (zI h), .int (zI (f2 5))]) (rest := []) M (c_X5_sortAt l D cB cI cZ cM _ o0 o1 o2 o3 o4 o5 o6 o7 o8 o9 oz tr td g1 g2 g3 g4 g5 g6 g7 f2 f3 h (f2 5) (by first | assumption | omega) (by first | assumption | omega) (by first | assumption | omega) (by first | assumption | omega)) gX5_worthOf_X5_sortAt rfl ⟨rfl, hd_X5_sortAt⟩ ⟨Nat.le_of_ble_eq_true rfl, Nat.le_of_ble_eq_true rfl⟩ hK hP [0, 1, 2] rfl 0 5 rfl rfl rfl hl.1 rfl rfl (Nat.le_of_ble_eq_true rfl) dX5_worthOf_97 ⟨Nat.le_of_ble_eq_true rfl, Nat.le_of_ble_eq_true rfl⟩ (fun r_97 h_97 => ?_)
          subst h_97
          have hsr := stA_rng (q := (slI (f2 0) h)) (so := f3) (P := f2 0) (k := (f2 5)) hso hPm
          refine lv_istore_n (lv' := [(3, .int (zI (stA (slI (f2 0) h) f3 (f2 0) (f2 5)))), (2, .int (zI (a + 0))), (0, .ref o0), (1, .int (zI h))]) hx hb dX5_worthOf_100 rfl hl (by decide) rfl (fun ls hl => ?_)
          refine lv_iload_n hx hb dX5_worthOf_101 rfl (lv_at hl 1 rfl) ?_
          refine lv_iload_n hx hb dX5_worthOf_102 rfl (lv_at hl 0 rfl) ?_
          refine lv_bipush (v := zI (-9)) hx hb dX5_worthOf_103 (by decide) ?_
          refine z_icmp_ne (tgt := 112) hx hb dX5_worthOf_105 (by decide) (by omega) (fun c_105 => ?_) (fun c_105 => ?_)
          · skip
            refine lv_iload_n hx hb dX5_worthOf_112 rfl (lv_at hl 0 rfl) ?_
            refine z_if_ne (tgt := 120) hx hb dX5_worthOf_113 (by decide) (by omega) (fun c_113 => ?_) (fun c_113 => ?_)
            · skip
              refine lv_iconst (v := zI 2) hx hb dX5_worthOf_120 rfl ?_
              refine z_iadd hx hb dX5_worthOf_121 ?_
              exact pu_ret M dX5_worthOf_122 (congrArg zI (by unfold woM; rw [← hv9]; split <;> split <;> first | omega | (split <;> omega)))
            refine lv_iconst (v := zI 4) hx hb dX5_worthOf_116 rfl ?_
            refine lv_goto (tgt := 121) hx hb dX5_worthOf_117 (by decide) ?_
            refine z_iadd hx hb dX5_worthOf_121 ?_
            exact pu_ret M dX5_worthOf_122 (congrArg zI (by unfold woM; rw [← hv9]; split <;> split <;> first | omega | (split <;> omega)))
          refine lv_iconst (v := zI 0) hx hb dX5_worthOf_108 rfl ?_
          refine lv_goto (tgt := 121) hx hb dX5_worthOf_109 (by decide) ?_
          refine z_iadd hx hb dX5_worthOf_121 ?_
          exact pu_ret M dX5_worthOf_122 (congrArg zI (by unfold woM; rw [← hv9]; split <;> split <;> first | omega | (split <;> omega)))
        refine lv_bipush (v := zI (-9)) hx hb dX5_worthOf_84 (by decide) ?_
        refine lv_goto (tgt := 100) hx hb dX5_worthOf_86 (by decide) ?_
        have hsr := stA_rng (q := (slI (f2 0) h)) (so := f3) (P := f2 0) (k := (f2 5)) hso hPm
        refine lv_istore_n (lv' := [(3, .int (zI (-9))), (2, .int (zI (a + 0))), (0, .ref o0), (1, .int (zI h))]) hx hb dX5_worthOf_100 rfl hl (by decide) rfl (fun ls hl => ?_)
        refine lv_iload_n hx hb dX5_worthOf_101 rfl (lv_at hl 1 rfl) ?_
        refine lv_iload_n hx hb dX5_worthOf_102 rfl (lv_at hl 0 rfl) ?_
        refine lv_bipush (v := zI (-9)) hx hb dX5_worthOf_103 (by decide) ?_
        refine z_icmp_ne (tgt := 112) hx hb dX5_worthOf_105 (by decide) (by omega) (fun c_105 => ?_) (fun c_105 => ?_)
        · skip
          exfalso; omega
        refine lv_iconst (v := zI 0) hx hb dX5_worthOf_108 rfl ?_
        refine lv_goto (tgt := 121) hx hb dX5_worthOf_109 (by decide) ?_
        refine z_iadd hx hb dX5_worthOf_121 ?_
        exact pu_ret M dX5_worthOf_122 (congrArg zI (by unfold woM; rw [← hv9]; split <;> split <;> first | omega | (split <;> omega)))
      have c_63 := zb_t c_63
      refine lv_iconst (v := zI 5) hx hb dX5_worthOf_66 rfl ?_
      refine lv_goto (tgt := 71) hx hb dX5_worthOf_67 (by decide) ?_
      refine z_iadd hx hb dX5_worthOf_71 ?_
      refine lv_istore_n (lv' := [(2, .int (zI (a + 5))), (0, .ref o0), (1, .int (zI h)), (3, .int (zI k))]) hx hb dX5_worthOf_72 rfl hl (by decide) rfl (fun ls hl => ?_)
      refine lv_aload_n hx hb dX5_worthOf_73 rfl (lv_at hl 1 rfl) ?_
      refine va_get (D := D) (ci := 5) (C := RX5) (T := TX5) (N := 19) hx hb hts inc_X5_worthOf_5 hown hK hP 0 rfl rfl 3 (by decide) (hts (.fieldLink RX5 13 "BedHouseModel" "plan" "[I") (by decide +kernel)) (fun _ h9 => h9) rfl dX5_worthOf_74 ?_
      refine lv_iconst (v := zI 5) hx hb dX5_worthOf_77 rfl ?_
      refine z_iald hx hb hK hP 1 1 rfl rfl (Nat.le_of_ble_eq_true rfl) dX5_worthOf_78 (by omega) ?_
      refine lv_bipush (v := zI (-9)) hx hb dX5_worthOf_79 (by decide) ?_
      refine z_icmp_ne (tgt := 89) hx hb dX5_worthOf_81 (by decide) (by omega) (fun c_81 => ?_) (fun c_81 => ?_)
      · skip
        refine lv_aload_n hx hb dX5_worthOf_89 rfl (lv_at hl 1 rfl) ?_
        refine lv_iload_n hx hb dX5_worthOf_90 rfl (lv_at hl 2 rfl) ?_
        refine lv_aload_n hx hb dX5_worthOf_91 rfl (lv_at hl 1 rfl) ?_
        refine va_get (D := D) (ci := 5) (C := RX5) (T := TX5) (N := 19) hx hb hts inc_X5_worthOf_5 hown hK hP 0 rfl rfl 3 (by decide) (hts (.fieldLink RX5 13 "BedHouseModel" "plan" "[I") (by decide +kernel)) (fun _ h9 => h9) rfl dX5_worthOf_92 ?_
        refine lv_iconst (v := zI 5) hx hb dX5_worthOf_95 rfl ?_
        refine z_iald hx hb hK hP 1 1 rfl rfl (Nat.le_of_ble_eq_true rfl) dX5_worthOf_96 (by omega) ?_
        refine pc_V (As := [.int (zI h), .int (zI (f2 5))]) (rest := []) M (c_X5_sortAt l D cB cI cZ cM _ o0 o1 o2 o3 o4 o5 o6 o7 o8 o9 oz tr td g1 g2 g3 g4 g5 g6 g7 f2 f3 h (f2 5) (by first | assumption | omega) (by first | assumption | omega) (by first | assumption | omega) (by first | assumption | omega)) gX5_worthOf_X5_sortAt rfl ⟨rfl, hd_X5_sortAt⟩ ⟨Nat.le_of_ble_eq_true rfl, Nat.le_of_ble_eq_true rfl⟩ hK hP [0, 1, 2] rfl 0 5 rfl rfl rfl hl.1 rfl rfl (Nat.le_of_ble_eq_true rfl) dX5_worthOf_97 ⟨Nat.le_of_ble_eq_true rfl, Nat.le_of_ble_eq_true rfl⟩ (fun r_97 h_97 => ?_)
        subst h_97
        have hsr := stA_rng (q := (slI (f2 0) h)) (so := f3) (P := f2 0) (k := (f2 5)) hso hPm
        refine lv_istore_n (lv' := [(3, .int (zI (stA (slI (f2 0) h) f3 (f2 0) (f2 5)))), (2, .int (zI (a + 5))), (0, .ref o0), (1, .int (zI h))]) hx hb dX5_worthOf_100 rfl hl (by decide) rfl (fun ls hl => ?_)
        refine lv_iload_n hx hb dX5_worthOf_101 rfl (lv_at hl 1 rfl) ?_
        refine lv_iload_n hx hb dX5_worthOf_102 rfl (lv_at hl 0 rfl) ?_
        refine lv_bipush (v := zI (-9)) hx hb dX5_worthOf_103 (by decide) ?_
        refine z_icmp_ne (tgt := 112) hx hb dX5_worthOf_105 (by decide) (by omega) (fun c_105 => ?_) (fun c_105 => ?_)
        · skip
          refine lv_iload_n hx hb dX5_worthOf_112 rfl (lv_at hl 0 rfl) ?_
          refine z_if_ne (tgt := 120) hx hb dX5_worthOf_113 (by decide) (by omega) (fun c_113 => ?_) (fun c_113 => ?_)
          · skip
            refine lv_iconst (v := zI 2) hx hb dX5_worthOf_120 rfl ?_
            refine z_iadd hx hb dX5_worthOf_121 ?_
            exact pu_ret M dX5_worthOf_122 (congrArg zI (by unfold woM; rw [← hv9]; split <;> split <;> first | omega | (split <;> omega)))
          refine lv_iconst (v := zI 4) hx hb dX5_worthOf_116 rfl ?_
          refine lv_goto (tgt := 121) hx hb dX5_worthOf_117 (by decide) ?_
          refine z_iadd hx hb dX5_worthOf_121 ?_
          exact pu_ret M dX5_worthOf_122 (congrArg zI (by unfold woM; rw [← hv9]; split <;> split <;> first | omega | (split <;> omega)))
        refine lv_iconst (v := zI 0) hx hb dX5_worthOf_108 rfl ?_
        refine lv_goto (tgt := 121) hx hb dX5_worthOf_109 (by decide) ?_
        refine z_iadd hx hb dX5_worthOf_121 ?_
        exact pu_ret M dX5_worthOf_122 (congrArg zI (by unfold woM; rw [← hv9]; split <;> split <;> first | omega | (split <;> omega)))
      refine lv_bipush (v := zI (-9)) hx hb dX5_worthOf_84 (by decide) ?_
      refine lv_goto (tgt := 100) hx hb dX5_worthOf_86 (by decide) ?_
      have hsr := stA_rng (q := (slI (f2 0) h)) (so := f3) (P := f2 0) (k := (f2 5)) hso hPm
      refine lv_istore_n (lv' := [(3, .int (zI (-9))), (2, .int (zI (a + 5))), (0, .ref o0), (1, .int (zI h))]) hx hb dX5_worthOf_100 rfl hl (by decide) rfl (fun ls hl => ?_)
      refine lv_iload_n hx hb dX5_worthOf_101 rfl (lv_at hl 1 rfl) ?_
      refine lv_iload_n hx hb dX5_worthOf_102 rfl (lv_at hl 0 rfl) ?_
      refine lv_bipush (v := zI (-9)) hx hb dX5_worthOf_103 (by decide) ?_
      refine z_icmp_ne (tgt := 112) hx hb dX5_worthOf_105 (by decide) (by omega) (fun c_105 => ?_) (fun c_105 => ?_)
      · skip
        exfalso; omega
      refine lv_iconst (v := zI 0) hx hb dX5_worthOf_108 rfl ?_
      refine lv_goto (tgt := 121) hx hb dX5_worthOf_109 (by decide) ?_
      refine z_iadd hx hb dX5_worthOf_121 ?_
      exact pu_ret M dX5_worthOf_122 (congrArg zI (by unfold woM; rw [← hv9]; split <;> split <;> first | omega | (split <;> omega)))
    obtain ⟨n, rfl⟩ : ∃ j : Nat, n = j + 1 := ⟨n - 1, by omega⟩
    refine lv_iload_n hx hb dX5_worthOf_17 rfl (lv_at hl 2 rfl) ?_
    refine lv_aload_n hx hb dX5_worthOf_18 rfl (lv_at hl 0 rfl) ?_
    refine lv_iload_n hx hb dX5_worthOf_19 rfl (lv_at hl 1 rfl) ?_
    refine lv_iload_n hx hb dX5_worthOf_20 rfl (lv_at hl 3 rfl) ?_
    refine pc_V (As := [.int (zI h), .int (zI k)]) (rest := [.int (zI a)]) M (c_X5_isLit l D cB cI cZ cM _ o0 o1 o2 o3 o4 o5 o6 o7 o8 o9 oz tr td g1 g2 g3 g4 g5 g6 g7 f2 f3 h k (by first | assumption | omega) (by first | assumption | omega) (by first | assumption | omega) (by first | assumption | omega) (by first | assumption | omega)) gX5_worthOf_X5_isLit rfl ⟨rfl, hd_X5_isLit⟩ ⟨Nat.le_of_ble_eq_true rfl, Nat.le_of_ble_eq_true rfl⟩ hK hP [0, 1, 2] rfl 0 5 rfl rfl rfl hl.1 rfl rfl (Nat.le_of_ble_eq_true rfl) dX5_worthOf_21 ⟨Nat.le_of_ble_eq_true rfl, Nat.le_of_ble_eq_true rfl⟩ (fun r_21 h_21 => ?_)
    subst h_21
    refine z_if_eq (tgt := 31) hx hb dX5_worthOf_24 (by decide) (zb_bd _) (fun c_24 => ?_) (fun c_24 => ?_)
    · skip
      have c_24 := zb_f c_24
      refine lv_iconst (v := zI 0) hx hb dX5_worthOf_31 rfl ?_
      refine z_iadd hx hb dX5_worthOf_32 ?_
      refine lv_istore_n (lv' := [(2, .int (zI (a + 0))), (0, .ref o0), (1, .int (zI h)), (3, .int (zI k))]) hx hb dX5_worthOf_33 rfl hl (by decide) rfl (fun ls hl => ?_)
      refine z_iinc (a := k) (k := 3) (lv' := [(3, .int (zI (k + 1))), (2, .int (zI (a + 0))), (0, .ref o0), (1, .int (zI h))]) hx hb dX5_worthOf_34 hl rfl (by decide) rfl (fun ls hl => ?_)
      refine lv_goto (tgt := 11) hx hb dX5_worthOf_37 (by decide) ?_
      exact ih n (k + 1) (a + 0) (by omega) (by omega) (by omega) (by rw [← hv, wlM, if_neg c_24]; omega) _ (lv_sub hl [2, 3, 1, 0] rfl)
    have c_24 := zb_t c_24
    refine lv_iconst (v := zI 3) hx hb dX5_worthOf_27 rfl ?_
    refine lv_goto (tgt := 32) hx hb dX5_worthOf_28 (by decide) ?_
    refine z_iadd hx hb dX5_worthOf_32 ?_
    refine lv_istore_n (lv' := [(2, .int (zI (a + 3))), (0, .ref o0), (1, .int (zI h)), (3, .int (zI k))]) hx hb dX5_worthOf_33 rfl hl (by decide) rfl (fun ls hl => ?_)
    refine z_iinc (a := k) (k := 3) (lv' := [(3, .int (zI (k + 1))), (2, .int (zI (a + 3))), (0, .ref o0), (1, .int (zI h))]) hx hb dX5_worthOf_34 hl rfl (by decide) rfl (fun ls hl => ?_)
    refine lv_goto (tgt := 11) hx hb dX5_worthOf_37 (by decide) ?_
    exact ih n (k + 1) (a + 3) (by omega) (by omega) (by omega) (by rw [← hv, wlM, if_pos c_24]; omega) _ (lv_sub hl [2, 3, 1, 0] rfl)
set_option maxHeartbeats 4000000 in
set_option maxRecDepth 100000 in
theorem c_X5_worthOf (l : Launch) (D : va_G) (cB cI cZ cM : ClassId) (Hp : Heap) (o0 : Nat) (o1 : Nat) (o2 : Nat) (o3 : Nat) (o4 : Nat) (o5 : Nat) (o6 : Nat) (o7 : Nat) (o8 : Nat) (o9 : Nat) (oz : Nat) (tr : Int64) (td : Int) (g1 : Int) (g2 : Int) (g3 : Int) (g4 : Int) (g5 : Int) (g6 : Int) (g7 : Int) (f2 : Int → Int) (f3 : Int → Int) (h : Int) (hPm : 0 ≤ f2 0 ∧ f2 0 ≤ 4) (hra : 0 ≤ f2 2 ∧ f2 2 < 256) (hsu : 0 ≤ f2 3 ∧ f2 3 < 256) (hvw : f2 4 = -9 ∨ (0 ≤ f2 4 ∧ f2 4 < 8)) (hno : f2 5 = -9 ∨ (0 ≤ f2 5 ∧ f2 5 < 8)) (hh : 0 ≤ h ∧ h < pw9 (f2 0)) (hso : ∀ i : Int, 0 ≤ i → i < 4 → 0 ≤ f3 i ∧ f3 i ≤ 3) : cP l yX5_worthOf wsX5_worthOf 6 135 D (TYS cB cI cZ cM) [.ref o0, .int (zI h)] [(o0, .inr (5, [.long tr, .ref o1, .int (zI td), .ref o2, .ref o3, .ref o4, .ref o5, .int (zI g1), .int (zI g2), .int (zI g3), .int (zI g4), .int (zI g5), .int (zI g6), .ref o6, .ref o7, .ref o8, .ref o9, .int (zI g7), .ref oz])), (o2, .inl (cI, 16, .inl (zia f2))), (o3, .inl (cI, 8, .inl (zia f3)))] Hp (fun r => r = zI (woM (slI (f2 0) h) f3 (f2 0) (f2 2) (f2 3) (f2 4) (f2 5))) := by
  refine pu_start (by decide) rfl (Nat.le_of_ble_eq_true rfl) ?_
  intro pg ev sx mm args below meth cd ls M hP hK hl
  obtain ⟨hx, hb, hr, hml, hown, hts, hlk, hN0⟩ := id M
  have hl : lv_has ls 4 [(0, .ref o0), (1, .int (zI h))] := hl
  refine lv_bipush (v := zI (-2)) hx hb dX5_worthOf_0 (by decide) ?_
  refine lv_aload_n hx hb dX5_worthOf_2 rfl (lv_at hl 0 rfl) ?_
  refine lv_iload_n hx hb dX5_worthOf_3 rfl (lv_at hl 1 rfl) ?_
  refine pc_V (As := [.int (zI h)]) (rest := [.int (zI (-2))]) M (c_X5_leaksIn l D cB cI cZ cM _ o0 o1 o2 o3 o4 o5 o6 o7 o8 o9 oz tr td g1 g2 g3 g4 g5 g6 g7 f2 f3 h (by first | assumption | omega) (by first | assumption | omega) (by first | assumption | omega) (by first | assumption | omega)) gX5_worthOf_X5_leaksIn rfl ⟨rfl, hd_X5_leaksIn⟩ ⟨Nat.le_of_ble_eq_true rfl, Nat.le_of_ble_eq_true rfl⟩ hK hP [0, 1, 2] rfl 0 5 rfl rfl rfl hl.1 rfl rfl (Nat.le_of_ble_eq_true rfl) dX5_worthOf_4 ⟨Nat.le_of_ble_eq_true rfl, Nat.le_of_ble_eq_true rfl⟩ (fun r_4 h_4 => ?_)
  subst h_4
  have hlk8 := lkM_rng (slI (f2 0) h) f3 (f2 0) (f2 2) 8 0
  refine z_imul hx hb dX5_worthOf_7 ?_
  refine lv_istore_n (lv' := [(2, .int (zI ((-2) * (lkM (slI (f2 0) h) f3 (f2 0) (f2 2) 8 0)))), (0, .ref o0), (1, .int (zI h))]) hx hb dX5_worthOf_8 rfl hl (by decide) rfl (fun ls hl => ?_)
  refine lv_iconst (v := zI 0) hx hb dX5_worthOf_9 rfl ?_
  refine lv_istore_n (lv' := [(3, .int (zI 0)), (2, .int (zI ((-2) * (lkM (slI (f2 0) h) f3 (f2 0) (f2 2) 8 0)))), (0, .ref o0), (1, .int (zI h))]) hx hb dX5_worthOf_10 rfl hl (by decide) rfl (fun ls hl => ?_)
  exact lp_X5_worthOf_11 l D cB cI cZ cM o0 o1 o2 o3 o4 o5 o6 o7 o8 o9 oz tr td g1 g2 g3 g4 g5 g6 g7 f2 f3 h hPm hra hsu hvw hno hh hso M hP hK (8 + 1) 8 0 ((-2) * (lkM (slI (f2 0) h) f3 (f2 0) (f2 2) 8 0)) (Nat.lt_succ_self _) (by omega) (by omega) (by omega) _ (lv_sub hl [2, 3, 1, 0] rfl)
