theorem inc_X1_allows_1 : ∀ w ∈ wsX10, w ∈ wsX1_allows := by decide +kernel
theorem inc_X1_fitsLetter_0 : ∀ w ∈ wsX00, w ∈ wsX1_fitsLetter := by decide +kernel
theorem inc_X1_hasBeam_1 : ∀ w ∈ wsX10, w ∈ wsX1_hasBeam := by decide +kernel
theorem inc_X1_hasPanel_1 : ∀ w ∈ wsX10, w ∈ wsX1_hasPanel := by decide +kernel
theorem inc_X1_isBorne_1 : ∀ w ∈ wsX10, w ∈ wsX1_isBorne := by decide +kernel
theorem inc_X1_leaksOf_1 : ∀ w ∈ wsX10, w ∈ wsX1_leaksOf := by decide +kernel
theorem inc_X1_litHours_1 : ∀ w ∈ wsX10, w ∈ wsX1_litHours := by decide +kernel
theorem inc_X1_lyingIn_1 : ∀ w ∈ wsX10, w ∈ wsX1_lyingIn := by decide +kernel
theorem inc_X1_panelAt_1 : ∀ w ∈ wsX10, w ∈ wsX1_panelAt := by decide +kernel
theorem inc_X1_quietIn_1 : ∀ w ∈ wsX10, w ∈ wsX1_quietIn := by decide +kernel
theorem inc_X1_slotsUnder_1 : ∀ w ∈ wsX10, w ∈ wsX1_slotsUnder := by decide +kernel
theorem inc_X1_sortOf_1 : ∀ w ∈ wsX10, w ∈ wsX1_sortOf := by decide +kernel
theorem inc_X1_worthOf_1 : ∀ w ∈ wsX10, w ∈ wsX1_worthOf := by decide +kernel
theorem hd_J6_bitCount_0f7a4 : yJ6_bitCount_0f7a4.cls ≠ "java/lang/invoke/MethodHandle" ∧ yJ6_bitCount_0f7a4.cls ≠ "java/lang/invoke/VarHandle" ∧ (parseMethodDescriptor yJ6_bitCount_0f7a4.desc).map (fun d => d.parameters.length) = some 1 := by decide +kernel
theorem hd_X1_hasBeam : yX1_hasBeam.cls ≠ "java/lang/invoke/MethodHandle" ∧ yX1_hasBeam.cls ≠ "java/lang/invoke/VarHandle" ∧ (parseMethodDescriptor yX1_hasBeam.desc).map (fun d => d.parameters.length) = some 1 := by decide +kernel
theorem hd_X1_hasPanel : yX1_hasPanel.cls ≠ "java/lang/invoke/MethodHandle" ∧ yX1_hasPanel.cls ≠ "java/lang/invoke/VarHandle" ∧ (parseMethodDescriptor yX1_hasPanel.desc).map (fun d => d.parameters.length) = some 1 := by decide +kernel
theorem hd_X1_isBorne : yX1_isBorne.cls ≠ "java/lang/invoke/MethodHandle" ∧ yX1_isBorne.cls ≠ "java/lang/invoke/VarHandle" ∧ (parseMethodDescriptor yX1_isBorne.desc).map (fun d => d.parameters.length) = some 2 := by decide +kernel
theorem hd_X1_leaksOf : yX1_leaksOf.cls ≠ "java/lang/invoke/MethodHandle" ∧ yX1_leaksOf.cls ≠ "java/lang/invoke/VarHandle" ∧ (parseMethodDescriptor yX1_leaksOf.desc).map (fun d => d.parameters.length) = some 1 := by decide +kernel
theorem hd_X1_litHours : yX1_litHours.cls ≠ "java/lang/invoke/MethodHandle" ∧ yX1_litHours.cls ≠ "java/lang/invoke/VarHandle" ∧ (parseMethodDescriptor yX1_litHours.desc).map (fun d => d.parameters.length) = some 1 := by decide +kernel
theorem hd_X1_lyingIn : yX1_lyingIn.cls ≠ "java/lang/invoke/MethodHandle" ∧ yX1_lyingIn.cls ≠ "java/lang/invoke/VarHandle" ∧ (parseMethodDescriptor yX1_lyingIn.desc).map (fun d => d.parameters.length) = some 1 := by decide +kernel
theorem hd_X1_quietIn : yX1_quietIn.cls ≠ "java/lang/invoke/MethodHandle" ∧ yX1_quietIn.cls ≠ "java/lang/invoke/VarHandle" ∧ (parseMethodDescriptor yX1_quietIn.desc).map (fun d => d.parameters.length) = some 1 := by decide +kernel
theorem hd_X1_slotsUnder : yX1_slotsUnder.cls ≠ "java/lang/invoke/MethodHandle" ∧ yX1_slotsUnder.cls ≠ "java/lang/invoke/VarHandle" ∧ (parseMethodDescriptor yX1_slotsUnder.desc).map (fun d => d.parameters.length) = some 2 := by decide +kernel
theorem hd_X4_placeIn : yX4_placeIn.cls ≠ "java/lang/invoke/MethodHandle" ∧ yX4_placeIn.cls ≠ "java/lang/invoke/VarHandle" ∧ (parseMethodDescriptor yX4_placeIn.desc).map (fun d => d.parameters.length) = some 2 := by decide +kernel
theorem hd_X4_unitOf : yX4_unitOf.cls ≠ "java/lang/invoke/MethodHandle" ∧ yX4_unitOf.cls ≠ "java/lang/invoke/VarHandle" ∧ (parseMethodDescriptor yX4_unitOf.desc).map (fun d => d.parameters.length) = some 1 := by decide +kernel
set_option maxHeartbeats 4000000 in
set_option maxRecDepth 100000 in
theorem c_X4_placeIn (l : Launch) (D : va_G) (cB cI cZ cM : ClassId) (Hp : Heap) (h : Int) (p : Int) (h0 : 0 ≤ h ∧ h < 2147483648) (p0 : -2147483648 ≤ p ∧ p < 2147483648) : cP l yX4_placeIn wsX4_placeIn 0 0 D (TYS cB cI cZ cM) [.int (zI h), .int (zI p)] [] Hp (fun r => r = zI (pl h p)) := by
  refine pu_start (by decide) rfl (Nat.le_of_ble_eq_true rfl) ?_
  intro pg ev sx mm args below meth cd ls M hP hK hl
  obtain ⟨hx, hb, hr, hml, hown, hts, hlk, hN0⟩ := id M
  have hl : lv_has ls 2 [(0, .int (zI h)), (1, .int (zI p))] := hl
  refine lv_iload_n hx hb dX4_placeIn_0 rfl (lv_at hl 1 rfl) ?_
  by_cases c_1_0 : p = 0
  · skip
    refine lv_tableIn (tgt := 28) hx hb dX4_placeIn_1 (by rw [zI_toInt (by omega)]; omega) (by rw [zI_toInt (by omega)]; omega) (by rw [zI_toInt (by omega), c_1_0]; rfl) (by decide) ?_
    refine lv_iload_n hx hb dX4_placeIn_28 rfl (lv_at hl 0 rfl) ?_
    refine lv_sipush (v := zI 729) hx hb dX4_placeIn_29 (by decide) ?_
    refine z_idiv hx hb dX4_placeIn_32 (by omega) ?_
    refine lv_bipush (v := zI 9) hx hb dX4_placeIn_33 (by decide) ?_
    refine z_irem hx hb dX4_placeIn_35 (by omega) ?_
    exact pu_ret M dX4_placeIn_36 (congrArg zI (by unfold pl; rw [if_pos c_1_0]))
  by_cases c_1_1 : p = 1
  · skip
    refine lv_tableIn (tgt := 37) hx hb dX4_placeIn_1 (by rw [zI_toInt (by omega)]; omega) (by rw [zI_toInt (by omega)]; omega) (by rw [zI_toInt (by omega), c_1_1]; rfl) (by decide) ?_
    refine lv_iload_n hx hb dX4_placeIn_37 rfl (lv_at hl 0 rfl) ?_
    refine lv_bipush (v := zI 81) hx hb dX4_placeIn_38 (by decide) ?_
    refine z_idiv hx hb dX4_placeIn_40 (by omega) ?_
    refine lv_bipush (v := zI 9) hx hb dX4_placeIn_41 (by decide) ?_
    refine z_irem hx hb dX4_placeIn_43 (by omega) ?_
    exact pu_ret M dX4_placeIn_44 (congrArg zI (by unfold pl; rw [if_neg c_1_0, if_pos c_1_1]))
  by_cases c_1_2 : p = 2
  · skip
    refine lv_tableIn (tgt := 45) hx hb dX4_placeIn_1 (by rw [zI_toInt (by omega)]; omega) (by rw [zI_toInt (by omega)]; omega) (by rw [zI_toInt (by omega), c_1_2]; rfl) (by decide) ?_
    refine lv_iload_n hx hb dX4_placeIn_45 rfl (lv_at hl 0 rfl) ?_
    refine lv_bipush (v := zI 9) hx hb dX4_placeIn_46 (by decide) ?_
    refine z_idiv hx hb dX4_placeIn_48 (by omega) ?_
    refine lv_bipush (v := zI 9) hx hb dX4_placeIn_49 (by decide) ?_
    refine z_irem hx hb dX4_placeIn_51 (by omega) ?_
    exact pu_ret M dX4_placeIn_52 (congrArg zI (by unfold pl; rw [if_neg c_1_0, if_neg c_1_1, if_pos c_1_2]))
  refine lv_tableOut (tgt := 53) hx hb dX4_placeIn_1 (by rw [zI_toInt (by omega)]; omega) (by decide) ?_
  refine lv_iload_n hx hb dX4_placeIn_53 rfl (lv_at hl 0 rfl) ?_
  refine lv_bipush (v := zI 9) hx hb dX4_placeIn_54 (by decide) ?_
  refine z_irem hx hb dX4_placeIn_56 (by omega) ?_
  exact pu_ret M dX4_placeIn_57 (congrArg zI (by unfold pl; rw [if_neg c_1_0, if_neg c_1_1, if_neg c_1_2]))
set_option maxHeartbeats 4000000 in
set_option maxRecDepth 100000 in
theorem c_X4_unitOf (l : Launch) (D : va_G) (cB cI cZ cM : ClassId) (Hp : Heap) (p : Int) (p0 : -2147483648 ≤ p ∧ p < 2147483648) : cP l yX4_unitOf wsX4_unitOf 0 0 D (TYS cB cI cZ cM) [.int (zI p)] [] Hp (fun r => r = zI (un p)) := by
  refine pu_start (by decide) rfl (Nat.le_of_ble_eq_true rfl) ?_
  intro pg ev sx mm args below meth cd ls M hP hK hl
  obtain ⟨hx, hb, hr, hml, hown, hts, hlk, hN0⟩ := id M
  have hl : lv_has ls 1 [(0, .int (zI p))] := hl
  refine lv_iload_n hx hb dX4_unitOf_0 rfl (lv_at hl 0 rfl) ?_
  by_cases c_1_0 : p = 0
  · skip
    refine lv_tableIn (tgt := 28) hx hb dX4_unitOf_1 (by rw [zI_toInt (by omega)]; omega) (by rw [zI_toInt (by omega)]; omega) (by rw [zI_toInt (by omega), c_1_0]; rfl) (by decide) ?_
    refine lv_sipush (v := zI 729) hx hb dX4_unitOf_28 (by decide) ?_
    exact pu_ret M dX4_unitOf_31 (congrArg zI (by unfold un; rw [if_pos c_1_0]))
  by_cases c_1_1 : p = 1
  · skip
    refine lv_tableIn (tgt := 32) hx hb dX4_unitOf_1 (by rw [zI_toInt (by omega)]; omega) (by rw [zI_toInt (by omega)]; omega) (by rw [zI_toInt (by omega), c_1_1]; rfl) (by decide) ?_
    refine lv_bipush (v := zI 81) hx hb dX4_unitOf_32 (by decide) ?_
    exact pu_ret M dX4_unitOf_34 (congrArg zI (by unfold un; rw [if_neg c_1_0, if_pos c_1_1]))
  by_cases c_1_2 : p = 2
  · skip
    refine lv_tableIn (tgt := 35) hx hb dX4_unitOf_1 (by rw [zI_toInt (by omega)]; omega) (by rw [zI_toInt (by omega)]; omega) (by rw [zI_toInt (by omega), c_1_2]; rfl) (by decide) ?_
    refine lv_bipush (v := zI 9) hx hb dX4_unitOf_35 (by decide) ?_
    exact pu_ret M dX4_unitOf_37 (congrArg zI (by unfold un; rw [if_neg c_1_0, if_neg c_1_1, if_pos c_1_2]))
  refine lv_tableOut (tgt := 38) hx hb dX4_unitOf_1 (by rw [zI_toInt (by omega)]; omega) (by decide) ?_
  refine lv_iconst (v := zI 1) hx hb dX4_unitOf_38 rfl ?_
  exact pu_ret M dX4_unitOf_39 (congrArg zI (by unfold un; rw [if_neg c_1_0, if_neg c_1_1, if_neg c_1_2]))
set_option maxHeartbeats 4000000 in
set_option maxRecDepth 100000 in
theorem c_X4_moved (l : Launch) (D : va_G) (cB cI cZ cM : ClassId) (Hp : Heap) (h : Int) (p : Int) (k : Int) (h0 : 0 ≤ h ∧ h < 2147483648) (p0 : -2147483648 ≤ p ∧ p < 2147483648) : cP l yX4_moved wsX4_moved 1 21 D (TYS cB cI cZ cM) [.int (zI h), .int (zI p), .int (zI k)] [] Hp (fun r => r = zI (mv h p k)) := by
  refine pu_start (by decide) rfl (Nat.le_of_ble_eq_true rfl) ?_
  intro pg ev sx mm args below meth cd ls M hP hK hl
  obtain ⟨hx, hb, hr, hml, hown, hts, hlk, hN0⟩ := id M
  have hl : lv_has ls 3 [(0, .int (zI h)), (1, .int (zI p)), (2, .int (zI k))] := hl
  refine lv_iload_n hx hb dX4_moved_0 rfl (lv_at hl 0 rfl) ?_
  refine lv_iload_n hx hb dX4_moved_1 rfl (lv_at hl 2 rfl) ?_
  refine lv_iload_n hx hb dX4_moved_2 rfl (lv_at hl 0 rfl) ?_
  refine lv_iload_n hx hb dX4_moved_3 rfl (lv_at hl 1 rfl) ?_
  refine pc_J (As := [.int (zI h), .int (zI p)]) (rest := [.int (zI k), .int (zI h)]) M (c_X4_placeIn l D cB cI cZ cM _ h p (by first | assumption | omega) (by first | assumption | omega)) gX4_moved_X4_placeIn rfl hd_X4_placeIn ⟨Nat.le_of_ble_eq_true rfl, Nat.le_of_ble_eq_true rfl⟩ hK hP [] rfl hl.1 rfl rfl (Nat.le_of_ble_eq_true rfl) dX4_moved_4 ⟨Nat.le_of_ble_eq_true rfl, Nat.le_of_ble_eq_true rfl⟩ (fun r_4 h_4 => ?_)
  subst h_4
  refine z_isub hx hb dX4_moved_7 ?_
  refine lv_iload_n hx hb dX4_moved_8 rfl (lv_at hl 1 rfl) ?_
  refine pc_J (As := [.int (zI p)]) (rest := [.int (zI (k - (pl h p))), .int (zI h)]) M (c_X4_unitOf l D cB cI cZ cM _ p (by first | assumption | omega)) gX4_moved_X4_unitOf rfl hd_X4_unitOf ⟨Nat.le_of_ble_eq_true rfl, Nat.le_of_ble_eq_true rfl⟩ hK hP [] rfl hl.1 rfl rfl (Nat.le_of_ble_eq_true rfl) dX4_moved_9 ⟨Nat.le_of_ble_eq_true rfl, Nat.le_of_ble_eq_true rfl⟩ (fun r_9 h_9 => ?_)
  subst h_9
  refine z_imul hx hb dX4_moved_12 ?_
  refine z_iadd hx hb dX4_moved_13 ?_
  exact pu_ret M dX4_moved_14 (congrArg zI (by rfl))
set_option maxHeartbeats 4000000 in
set_option maxRecDepth 100000 in
theorem c_X4_isSlot (l : Launch) (D : va_G) (cB cI cZ cM : ClassId) (Hp : Heap) (k : Int) (k0 : -2147483648 ≤ k ∧ k < 2147483648) : cP l yX4_isSlot wsX4_isSlot 0 0 D (TYS cB cI cZ cM) [.int (zI k)] [] Hp (fun r => r = zI (zb (0 ≤ k ∧ k < 8))) := by
  refine pu_start (by decide) rfl (Nat.le_of_ble_eq_true rfl) ?_
  intro pg ev sx mm args below meth cd ls M hP hK hl
  obtain ⟨hx, hb, hr, hml, hown, hts, hlk, hN0⟩ := id M
  have hl : lv_has ls 1 [(0, .int (zI k))] := hl
  refine lv_iload_n hx hb dX4_isSlot_0 rfl (lv_at hl 0 rfl) ?_
  refine z_if_lt (tgt := 14) hx hb dX4_isSlot_1 (by decide) (by omega) (fun c_1 => ?_) (fun c_1 => ?_)
  · skip
    refine lv_iconst (v := zI 0) hx hb dX4_isSlot_14 rfl ?_
    exact pu_retz M (rfl) dX4_isSlot_15 (congrArg zI (by unfold zb; first | (rw [if_pos (by omega)]; done) | (rw [if_neg (by omega)]; done)))
  refine lv_iload_n hx hb dX4_isSlot_4 rfl (lv_at hl 0 rfl) ?_
  refine lv_bipush (v := zI 8) hx hb dX4_isSlot_5 (by decide) ?_
  refine z_icmp_ge (tgt := 14) hx hb dX4_isSlot_7 (by decide) (by omega) (fun c_7 => ?_) (fun c_7 => ?_)
  · skip
    refine lv_iconst (v := zI 0) hx hb dX4_isSlot_14 rfl ?_
    exact pu_retz M (rfl) dX4_isSlot_15 (congrArg zI (by unfold zb; first | (rw [if_pos (by omega)]; done) | (rw [if_neg (by omega)]; done)))
  refine lv_iconst (v := zI 1) hx hb dX4_isSlot_10 rfl ?_
  refine lv_goto (tgt := 15) hx hb dX4_isSlot_11 (by decide) ?_
  exact pu_retz M (rfl) dX4_isSlot_15 (congrArg zI (by unfold zb; first | (rw [if_pos (by omega)]; done) | (rw [if_neg (by omega)]; done)))
set_option maxHeartbeats 4000000 in
set_option maxRecDepth 100000 in
theorem c_X4_asNumber (l : Launch) (D : va_G) (cB cI cZ cM : ClassId) (Hp : Heap) (k : Int) (k0 : k = 0 ∨ k = 1) : cP l yX4_asNumber wsX4_asNumber 0 0 D (TYS cB cI cZ cM) [.int (zI k)] [] Hp (fun r => r = zI k) := by
  refine pu_start (by decide) rfl (Nat.le_of_ble_eq_true rfl) ?_
  intro pg ev sx mm args below meth cd ls M hP hK hl
  obtain ⟨hx, hb, hr, hml, hown, hts, hlk, hN0⟩ := id M
  have hl : lv_has ls 1 [(0, .int (zI k))] := hl
  refine lv_iload_n hx hb dX4_asNumber_0 rfl (lv_at hl 0 rfl) ?_
  refine z_if_eq (tgt := 8) hx hb dX4_asNumber_1 (by decide) (by omega) (fun c_1 => ?_) (fun c_1 => ?_)
  · skip
    refine lv_iconst (v := zI 0) hx hb dX4_asNumber_8 rfl ?_
    exact pu_ret M dX4_asNumber_9 (congrArg zI (by omega))
  refine lv_iconst (v := zI 1) hx hb dX4_asNumber_4 rfl ?_
  refine lv_goto (tgt := 9) hx hb dX4_asNumber_5 (by decide) ?_
  exact pu_ret M dX4_asNumber_9 (congrArg zI (by omega))
set_option maxHeartbeats 4000000 in
set_option maxRecDepth 100000 in
theorem c_J6_bitCount_0f7a4 (l : Launch) (D : va_G) (cB cI cZ cM : ClassId) (Hp : Heap) (x : Int) (x0 : 0 ≤ x ∧ x < 256) : cP l yJ6_bitCount_0f7a4 wsJ6_bitCount_0f7a4 0 0 D (TYS cB cI cZ cM) [.int (zI x)] [] Hp (fun r => r = zI (popc x)) := by
  refine pu_start (by decide) rfl (Nat.le_of_ble_eq_true rfl) ?_
  intro pg ev sx mm args below meth cd ls M hP hK hl
  obtain ⟨hx, hb, hr, hml, hown, hts, hlk, hN0⟩ := id M
  have hl : lv_has ls 1 [(0, .int (zI x))] := hl
  refine lv_iload_n hx hb dJ6_bitCount_0f7a4_0 rfl (lv_at hl 0 rfl) ?_
  refine lv_iload_n hx hb dJ6_bitCount_0f7a4_1 rfl (lv_at hl 0 rfl) ?_
  refine lv_iconst (v := zI 1) hx hb dJ6_bitCount_0f7a4_2 rfl ?_
  refine lv_iushr hx hb dJ6_bitCount_0f7a4_3 rfl ?_
  refine lv_ldcw hx hb hown (hts (.constant RJ6 265 (1431655765)) (by decide +kernel)) dJ6_bitCount_0f7a4_4 ?_
  refine z_top (y := zI 1431655765) (by decide) ?_
  refine lv_iand hx hb dJ6_bitCount_0f7a4_7 ?_
  refine lv_isub hx hb dJ6_bitCount_0f7a4_8 ?_
  refine lv_topi (fun y1 e_y1 => ?_)
  refine lv_istore_n (lv' := [(0, .int y1)]) hx hb dJ6_bitCount_0f7a4_9 rfl hl (by decide) rfl (fun ls hl => ?_)
  refine lv_iload_n hx hb dJ6_bitCount_0f7a4_10 rfl (lv_at hl 0 rfl) ?_
  refine lv_ldcw hx hb hown (hts (.constant RJ6 266 (858993459)) (by decide +kernel)) dJ6_bitCount_0f7a4_11 ?_
  refine z_top (y := zI 858993459) (by decide) ?_
  refine lv_iand hx hb dJ6_bitCount_0f7a4_14 ?_
  refine lv_iload_n hx hb dJ6_bitCount_0f7a4_15 rfl (lv_at hl 0 rfl) ?_
  refine lv_iconst (v := zI 2) hx hb dJ6_bitCount_0f7a4_16 rfl ?_
  refine lv_iushr hx hb dJ6_bitCount_0f7a4_17 rfl ?_
  refine lv_ldcw hx hb hown (hts (.constant RJ6 266 (858993459)) (by decide +kernel)) dJ6_bitCount_0f7a4_18 ?_
  refine z_top (y := zI 858993459) (by decide) ?_
  refine lv_iand hx hb dJ6_bitCount_0f7a4_21 ?_
  refine lv_iadd hx hb dJ6_bitCount_0f7a4_22 ?_
  refine lv_topi (fun y2 e_y2 => ?_)
  refine lv_istore_n (lv' := [(0, .int y2)]) hx hb dJ6_bitCount_0f7a4_23 rfl hl (by decide) rfl (fun ls hl => ?_)
  refine lv_iload_n hx hb dJ6_bitCount_0f7a4_24 rfl (lv_at hl 0 rfl) ?_
  refine lv_iload_n hx hb dJ6_bitCount_0f7a4_25 rfl (lv_at hl 0 rfl) ?_
  refine lv_iconst (v := zI 4) hx hb dJ6_bitCount_0f7a4_26 rfl ?_
  refine lv_iushr hx hb dJ6_bitCount_0f7a4_27 rfl ?_
  refine lv_iadd hx hb dJ6_bitCount_0f7a4_28 ?_
  refine lv_ldcw hx hb hown (hts (.constant RJ6 267 (252645135)) (by decide +kernel)) dJ6_bitCount_0f7a4_29 ?_
  refine z_top (y := zI 252645135) (by decide) ?_
  refine lv_iand hx hb dJ6_bitCount_0f7a4_32 ?_
  refine lv_topi (fun y3 e_y3 => ?_)
  refine lv_istore_n (lv' := [(0, .int y3)]) hx hb dJ6_bitCount_0f7a4_33 rfl hl (by decide) rfl (fun ls hl => ?_)
  refine lv_iload_n hx hb dJ6_bitCount_0f7a4_34 rfl (lv_at hl 0 rfl) ?_
  refine lv_iload_n hx hb dJ6_bitCount_0f7a4_35 rfl (lv_at hl 0 rfl) ?_
  refine lv_bipush (v := zI 8) hx hb dJ6_bitCount_0f7a4_36 (by decide) ?_
  refine lv_iushr hx hb dJ6_bitCount_0f7a4_38 rfl ?_
  refine lv_iadd hx hb dJ6_bitCount_0f7a4_39 ?_
  refine lv_topi (fun y4 e_y4 => ?_)
  refine lv_istore_n (lv' := [(0, .int y4)]) hx hb dJ6_bitCount_0f7a4_40 rfl hl (by decide) rfl (fun ls hl => ?_)
  refine lv_iload_n hx hb dJ6_bitCount_0f7a4_41 rfl (lv_at hl 0 rfl) ?_
  refine lv_iload_n hx hb dJ6_bitCount_0f7a4_42 rfl (lv_at hl 0 rfl) ?_
  refine lv_bipush (v := zI 16) hx hb dJ6_bitCount_0f7a4_43 (by decide) ?_
  refine lv_iushr hx hb dJ6_bitCount_0f7a4_45 rfl ?_
  refine lv_iadd hx hb dJ6_bitCount_0f7a4_46 ?_
  refine lv_topi (fun y5 e_y5 => ?_)
  refine lv_istore_n (lv' := [(0, .int y5)]) hx hb dJ6_bitCount_0f7a4_47 rfl hl (by decide) rfl (fun ls hl => ?_)
  refine lv_iload_n hx hb dJ6_bitCount_0f7a4_48 rfl (lv_at hl 0 rfl) ?_
  refine lv_bipush (v := zI 63) hx hb dJ6_bitCount_0f7a4_49 (by decide) ?_
  refine lv_iand hx hb dJ6_bitCount_0f7a4_51 ?_
  exact pu_ret M dJ6_bitCount_0f7a4_52 (by subst_vars; exact bc_all x x0.1 x0.2)
set_option maxHeartbeats 4000000 in
set_option maxRecDepth 100000 in
theorem c_X1_hasPanel (l : Launch) (D : va_G) (cB cI cZ cM : ClassId) (Hp : Heap) (pa : Nat) (sa : Nat) (ba : Nat) (so : Int → Int) (bm : Int → Int) (P : Int) (TH : Int) (B : Int) (ra : Int) (su : Int) (vw : Int) (no : Int) (dn : Int) (ha : Int) (p : Int) (hP4 : 0 ≤ P ∧ P ≤ 4) (p0 : -2147483648 ≤ p ∧ p < 2147483648) : cP l yX1_hasPanel wsX1_hasPanel 0 0 D (TYS cB cI cZ cM) [.ref pa, .int (zI p)] [(pa, .inr (1, [.ref sa, .int (zI P), .int (zI TH), .ref ba, .int (zI B), .int (zI ra), .int (zI su), .int (zI vw), .int (zI no), .int (zI dn), .int (zI ha)])), (sa, .inl (cI, 4, .inl (zia so))), (ba, .inl (cI, 2, .inl (zia bm)))] Hp (fun r => r = zI (zb (0 ≤ p ∧ p < P))) := by
  refine pu_start (by decide) rfl (Nat.le_of_ble_eq_true rfl) ?_
  intro pg ev sx mm args below meth cd ls M hP hK hl
  obtain ⟨hx, hb, hr, hml, hown, hts, hlk, hN0⟩ := id M
  have hl : lv_has ls 2 [(0, .ref pa), (1, .int (zI p))] := hl
  refine lv_iload_n hx hb dX1_hasPanel_0 rfl (lv_at hl 1 rfl) ?_
  refine z_if_lt (tgt := 25) hx hb dX1_hasPanel_1 (by decide) (by omega) (fun c_1 => ?_) (fun c_1 => ?_)
  · skip
    refine lv_iconst (v := zI 0) hx hb dX1_hasPanel_25 rfl ?_
    exact pu_retz M (rfl) dX1_hasPanel_26 (congrArg zI (by unfold zb; first | (rw [if_pos (by omega)]; done) | (rw [if_neg (by omega)]; done)))
  refine lv_iload_n hx hb dX1_hasPanel_4 rfl (lv_at hl 1 rfl) ?_
  refine lv_aload_n hx hb dX1_hasPanel_5 rfl (lv_at hl 0 rfl) ?_
  refine va_get (D := D) (ci := 1) (C := RX1) (T := TX1) (N := 11) hx hb hts inc_X1_hasPanel_1 hown hK hP 0 rfl rfl 1 (by decide) (hts (.fieldLink RX1 21 "BedHouse$Plan" "panels" "I") (by decide +kernel)) (fun _ h9 => h9) rfl dX1_hasPanel_6 ?_
  refine z_icmp_ge (tgt := 25) hx hb dX1_hasPanel_9 (by decide) (by omega) (fun c_9 => ?_) (fun c_9 => ?_)
  · skip
    refine lv_iconst (v := zI 0) hx hb dX1_hasPanel_25 rfl ?_
    exact pu_retz M (rfl) dX1_hasPanel_26 (congrArg zI (by unfold zb; first | (rw [if_pos (by omega)]; done) | (rw [if_neg (by omega)]; done)))
  refine lv_iload_n hx hb dX1_hasPanel_12 rfl (lv_at hl 1 rfl) ?_
  refine lv_aload_n hx hb dX1_hasPanel_13 rfl (lv_at hl 0 rfl) ?_
  refine va_get (D := D) (ci := 1) (C := RX1) (T := TX1) (N := 11) hx hb hts inc_X1_hasPanel_1 hown hK hP 0 rfl rfl 0 (by decide) (hts (.fieldLink RX1 9 "BedHouse$Plan" "sorts" "[I") (by decide +kernel)) (fun _ h9 => h9) rfl dX1_hasPanel_14 ?_
  refine z_alen (n := 4) hx hb hK hP 1 1 rfl rfl dX1_hasPanel_17 ?_
  refine z_icmp_ge (tgt := 25) hx hb dX1_hasPanel_18 (by decide) (by omega) (fun c_18 => ?_) (fun c_18 => ?_)
  · skip
    refine lv_iconst (v := zI 0) hx hb dX1_hasPanel_25 rfl ?_
    exact pu_retz M (rfl) dX1_hasPanel_26 (congrArg zI (by unfold zb; first | (rw [if_pos (by omega)]; done) | (rw [if_neg (by omega)]; done)))
  refine lv_iconst (v := zI 1) hx hb dX1_hasPanel_21 rfl ?_
  refine lv_goto (tgt := 26) hx hb dX1_hasPanel_22 (by decide) ?_
  exact pu_retz M (rfl) dX1_hasPanel_26 (congrArg zI (by unfold zb; first | (rw [if_pos (by omega)]; done) | (rw [if_neg (by omega)]; done)))
set_option maxHeartbeats 4000000 in
set_option maxRecDepth 100000 in
theorem c_X1_hasBeam (l : Launch) (D : va_G) (cB cI cZ cM : ClassId) (Hp : Heap) (pa : Nat) (sa : Nat) (ba : Nat) (so : Int → Int) (bm : Int → Int) (P : Int) (TH : Int) (B : Int) (ra : Int) (su : Int) (vw : Int) (no : Int) (dn : Int) (ha : Int) (k : Int) (hB2 : 0 ≤ B ∧ B ≤ 2) (k0 : -2147483648 ≤ k ∧ k < 2147483648) : cP l yX1_hasBeam wsX1_hasBeam 0 0 D (TYS cB cI cZ cM) [.ref pa, .int (zI k)] [(pa, .inr (1, [.ref sa, .int (zI P), .int (zI TH), .ref ba, .int (zI B), .int (zI ra), .int (zI su), .int (zI vw), .int (zI no), .int (zI dn), .int (zI ha)])), (sa, .inl (cI, 4, .inl (zia so))), (ba, .inl (cI, 2, .inl (zia bm)))] Hp (fun r => r = zI (zb (0 ≤ k ∧ k < B))) := by
  refine pu_start (by decide) rfl (Nat.le_of_ble_eq_true rfl) ?_
  intro pg ev sx mm args below meth cd ls M hP hK hl
  obtain ⟨hx, hb, hr, hml, hown, hts, hlk, hN0⟩ := id M
  have hl : lv_has ls 2 [(0, .ref pa), (1, .int (zI k))] := hl
  refine lv_iload_n hx hb dX1_hasBeam_0 rfl (lv_at hl 1 rfl) ?_
  refine z_if_lt (tgt := 25) hx hb dX1_hasBeam_1 (by decide) (by omega) (fun c_1 => ?_) (fun c_1 => ?_)
  · skip
    refine lv_iconst (v := zI 0) hx hb dX1_hasBeam_25 rfl ?_
    exact pu_retz M (rfl) dX1_hasBeam_26 (congrArg zI (by unfold zb; first | (rw [if_pos (by omega)]; done) | (rw [if_neg (by omega)]; done)))
  refine lv_iload_n hx hb dX1_hasBeam_4 rfl (lv_at hl 1 rfl) ?_
  refine lv_aload_n hx hb dX1_hasBeam_5 rfl (lv_at hl 0 rfl) ?_
  refine va_get (D := D) (ci := 1) (C := RX1) (T := TX1) (N := 11) hx hb hts inc_X1_hasBeam_1 hown hK hP 0 rfl rfl 4 (by decide) (hts (.fieldLink RX1 28 "BedHouse$Plan" "beams" "I") (by decide +kernel)) (fun _ h9 => h9) rfl dX1_hasBeam_6 ?_
  refine z_icmp_ge (tgt := 25) hx hb dX1_hasBeam_9 (by decide) (by omega) (fun c_9 => ?_) (fun c_9 => ?_)
  · skip
    refine lv_iconst (v := zI 0) hx hb dX1_hasBeam_25 rfl ?_
    exact pu_retz M (rfl) dX1_hasBeam_26 (congrArg zI (by unfold zb; first | (rw [if_pos (by omega)]; done) | (rw [if_neg (by omega)]; done)))
  refine lv_iload_n hx hb dX1_hasBeam_12 rfl (lv_at hl 1 rfl) ?_
  refine lv_aload_n hx hb dX1_hasBeam_13 rfl (lv_at hl 0 rfl) ?_
  refine va_get (D := D) (ci := 1) (C := RX1) (T := TX1) (N := 11) hx hb hts inc_X1_hasBeam_1 hown hK hP 0 rfl rfl 3 (by decide) (hts (.fieldLink RX1 15 "BedHouse$Plan" "beamSlots" "[I") (by decide +kernel)) (fun _ h9 => h9) rfl dX1_hasBeam_14 ?_
  refine z_alen (n := 2) hx hb hK hP 2 1 rfl rfl dX1_hasBeam_17 ?_
  refine z_icmp_ge (tgt := 25) hx hb dX1_hasBeam_18 (by decide) (by omega) (fun c_18 => ?_) (fun c_18 => ?_)
  · skip
    refine lv_iconst (v := zI 0) hx hb dX1_hasBeam_25 rfl ?_
    exact pu_retz M (rfl) dX1_hasBeam_26 (congrArg zI (by unfold zb; first | (rw [if_pos (by omega)]; done) | (rw [if_neg (by omega)]; done)))
  refine lv_iconst (v := zI 1) hx hb dX1_hasBeam_21 rfl ?_
  refine lv_goto (tgt := 26) hx hb dX1_hasBeam_22 (by decide) ?_
  exact pu_retz M (rfl) dX1_hasBeam_26 (congrArg zI (by unfold zb; first | (rw [if_pos (by omega)]; done) | (rw [if_neg (by omega)]; done)))
set_option maxHeartbeats 4000000 in
set_option maxRecDepth 100000 in
theorem c_X1_sortOf (l : Launch) (D : va_G) (cB cI cZ cM : ClassId) (Hp : Heap) (pa : Nat) (sa : Nat) (ba : Nat) (so : Int → Int) (bm : Int → Int) (P : Int) (TH : Int) (B : Int) (ra : Int) (su : Int) (vw : Int) (no : Int) (dn : Int) (ha : Int) (p : Int) (hP4 : 0 ≤ P ∧ P ≤ 4) (p0 : -2147483648 ≤ p ∧ p < 2147483648) : cP l yX1_sortOf wsX1_sortOf 1 21 D (TYS cB cI cZ cM) [.ref pa, .int (zI p)] [(pa, .inr (1, [.ref sa, .int (zI P), .int (zI TH), .ref ba, .int (zI B), .int (zI ra), .int (zI su), .int (zI vw), .int (zI no), .int (zI dn), .int (zI ha)])), (sa, .inl (cI, 4, .inl (zia so))), (ba, .inl (cI, 2, .inl (zia bm)))] Hp (fun r => r = zI (if 0 ≤ p ∧ p < P then so p else -9)) := by
  refine pu_start (by decide) rfl (Nat.le_of_ble_eq_true rfl) ?_
  intro pg ev sx mm args below meth cd ls M hP hK hl
  obtain ⟨hx, hb, hr, hml, hown, hts, hlk, hN0⟩ := id M
  have hl : lv_has ls 2 [(0, .ref pa), (1, .int (zI p))] := hl
  refine lv_aload_n hx hb dX1_sortOf_0 rfl (lv_at hl 0 rfl) ?_
  refine lv_iload_n hx hb dX1_sortOf_1 rfl (lv_at hl 1 rfl) ?_
  refine pc_V (As := [.int (zI p)]) (rest := []) M (c_X1_hasPanel l D cB cI cZ cM _ pa sa ba so bm P TH B ra su vw no dn ha p (by first | assumption | omega) (by first | assumption | omega)) gX1_sortOf_X1_hasPanel rfl ⟨rfl, hd_X1_hasPanel⟩ ⟨Nat.le_of_ble_eq_true rfl, Nat.le_of_ble_eq_true rfl⟩ hK hP [0, 1, 2] rfl 0 1 rfl rfl rfl hl.1 rfl rfl (Nat.le_of_ble_eq_true rfl) dX1_sortOf_2 ⟨Nat.le_of_ble_eq_true rfl, Nat.le_of_ble_eq_true rfl⟩ (fun r_2 h_2 => ?_)
  subst h_2
  refine z_if_eq (tgt := 17) hx hb dX1_sortOf_5 (by decide) (zb_bd _) (fun c_5 => ?_) (fun c_5 => ?_)
  · skip
    have c_5 := zb_f c_5
    refine lv_bipush (v := zI (-9)) hx hb dX1_sortOf_17 (by decide) ?_
    exact pu_ret M dX1_sortOf_19 (congrArg zI (by first | (rw [if_pos c_5]; done) | (rw [if_neg c_5]; done)))
  have c_5 := zb_t c_5
  refine lv_aload_n hx hb dX1_sortOf_8 rfl (lv_at hl 0 rfl) ?_
  refine va_get (D := D) (ci := 1) (C := RX1) (T := TX1) (N := 11) hx hb hts inc_X1_sortOf_1 hown hK hP 0 rfl rfl 0 (by decide) (hts (.fieldLink RX1 9 "BedHouse$Plan" "sorts" "[I") (by decide +kernel)) (fun _ h9 => h9) rfl dX1_sortOf_9 ?_
  refine lv_iload_n hx hb dX1_sortOf_12 rfl (lv_at hl 1 rfl) ?_
  refine z_iald hx hb hK hP 1 1 rfl rfl (Nat.le_of_ble_eq_true rfl) dX1_sortOf_13 (by omega) ?_
  refine lv_goto (tgt := 19) hx hb dX1_sortOf_14 (by decide) ?_
  exact pu_ret M dX1_sortOf_19 (congrArg zI (by first | (rw [if_pos c_5]; done) | (rw [if_neg c_5]; done)))
set_option maxHeartbeats 4000000 in
set_option maxRecDepth 100000 in
theorem lp_X1_panelAt_2 (l : Launch) (D : va_G) (cB cI cZ cM : ClassId) (pa : Nat) (sa : Nat) (ba : Nat) (so : Int → Int) (bm : Int → Int) (P : Int) (TH : Int) (B : Int) (ra : Int) (su : Int) (vw : Int) (no : Int) (dn : Int) (ha : Int) (h : Int) (k : Int) (hP4 : 0 ≤ P ∧ P ≤ 4) (hh : 0 ≤ h ∧ h < 2147483648) (k0 : -2147483648 ≤ k ∧ k < 2147483648) {pg : Program} {ev : Env} {sx : State} {mm : MethodId} {args : Array Value} {below : List Frame} {meth : Method} {cd : Code} (M : MX pg sx mm args meth cd cX1_panelAt 4 (some .int) RX1 wsX1_panelAt) (hP : va_P D vwCl [(pa, .inr (1, [.ref sa, .int (zI P), .int (zI TH), .ref ba, .int (zI B), .int (zI ra), .int (zI su), .int (zI vw), .int (zI no), .int (zI dn), .int (zI ha)])), (sa, .inl (cI, 4, .inl (zia so))), (ba, .inl (cI, 2, .inl (zia bm)))] sx.heap) (hK : va_K D vwCl (TYS cB cI cZ cM) sx) : ∀ (N : Nat) (n : Nat) (i : Int), (n < N) → (0 ≤ i ∧ i + n = P) → (patF (pl h) k n i = patF (pl h) k P.toNat 0) → ∀ ls : Array Slot, lv_has ls 4 [(0, .ref pa), (1, .int (zI h)), (2, .int (zI k)), (3, .int (zI i))] → W pg l ev (rmP 1 21) sx mm args below meth cd sx.heap [] 0 0 (QP below args sx (fun r => r = zI (patF (pl h) k P.toNat 0))) (F0 mm 2 ls []) := by
  intro N
  induction N with
  | zero => intro n i hN; exact absurd hN (Nat.not_lt_zero _)
  | succ N ih =>
    intro n i hN hi hv ls hl
    obtain ⟨hx, hb, hr, hml, hown, hts, hlk, hN0⟩ := id M
    refine lv_iload_n hx hb dX1_panelAt_2 rfl (lv_at hl 3 rfl) ?_
    refine lv_aload_n hx hb dX1_panelAt_3 rfl (lv_at hl 0 rfl) ?_
    refine va_get (D := D) (ci := 1) (C := RX1) (T := TX1) (N := 11) hx hb hts inc_X1_panelAt_1 hown hK hP 0 rfl rfl 1 (by decide) (hts (.fieldLink RX1 21 "BedHouse$Plan" "panels" "I") (by decide +kernel)) (fun _ h9 => h9) rfl dX1_panelAt_4 ?_
    refine z_icmp_ge (tgt := 27) hx hb dX1_panelAt_7 (by decide) (by omega) (fun c_7 => ?_) (fun c_7 => ?_)
    · skip
      refine lv_bipush (v := zI (-9)) hx hb dX1_panelAt_27 (by decide) ?_
      obtain rfl : n = 0 := by omega
      exact pu_ret M dX1_panelAt_29 (congrArg zI (by rw [← hv]; rfl))
    obtain ⟨n, rfl⟩ : ∃ j : Nat, n = j + 1 := ⟨n - 1, by omega⟩
    refine lv_iload_n hx hb dX1_panelAt_10 rfl (lv_at hl 1 rfl) ?_
    refine lv_iload_n hx hb dX1_panelAt_11 rfl (lv_at hl 3 rfl) ?_
    have hpl := pl_rng h i
    refine pc_SN (As := [.int (zI h), .int (zI i)]) (rest := []) M (c_X4_placeIn l D cB cI cZ cM _ h i (by first | assumption | omega) (by first | assumption | omega)) gX1_panelAt_X4_placeIn_n57 rfl (NW.at hN0 44 rfl) (by decide +kernel) (by decide +kernel) hd_X4_placeIn ⟨Nat.le_of_ble_eq_true rfl, Nat.le_of_ble_eq_true rfl⟩ hK hP [] rfl hl.1 rfl rfl (Nat.le_of_ble_eq_true rfl) dX1_panelAt_12 ⟨Nat.le_of_ble_eq_true rfl, Nat.le_of_ble_eq_true rfl⟩ (fun r_12 h_12 => ?_)
    subst h_12
    refine lv_iload_n hx hb dX1_panelAt_15 rfl (lv_at hl 2 rfl) ?_
    refine z_icmp_ne (tgt := 21) hx hb dX1_panelAt_16 (by decide) (by omega) (fun c_16 => ?_) (fun c_16 => ?_)
    · skip
      refine z_iinc (a := i) (k := 3) (lv' := [(3, .int (zI (i + 1))), (0, .ref pa), (1, .int (zI h)), (2, .int (zI k))]) hx hb dX1_panelAt_21 hl rfl (by decide) rfl (fun ls hl => ?_)
      refine lv_goto (tgt := 2) hx hb dX1_panelAt_24 (by decide) ?_
      exact ih n (i + 1) (by omega) (by omega) (by first | rfl | (rw [← hv]; simp only [patF]; rw [if_neg c_16])) _ (lv_sub hl [1, 2, 3, 0] rfl)
    refine lv_iload_n hx hb dX1_panelAt_19 rfl (lv_at hl 3 rfl) ?_
    exact pu_ret M dX1_panelAt_20 (congrArg zI (by rw [← hv]; simp only [patF]; rw [if_pos c_16]))
set_option maxHeartbeats 4000000 in
set_option maxRecDepth 100000 in
theorem c_X1_panelAt (l : Launch) (D : va_G) (cB cI cZ cM : ClassId) (Hp : Heap) (pa : Nat) (sa : Nat) (ba : Nat) (so : Int → Int) (bm : Int → Int) (P : Int) (TH : Int) (B : Int) (ra : Int) (su : Int) (vw : Int) (no : Int) (dn : Int) (ha : Int) (h : Int) (k : Int) (hP4 : 0 ≤ P ∧ P ≤ 4) (hh : 0 ≤ h ∧ h < 2147483648) (k0 : -2147483648 ≤ k ∧ k < 2147483648) : cP l yX1_panelAt wsX1_panelAt 1 21 D (TYS cB cI cZ cM) [.ref pa, .int (zI h), .int (zI k)] [(pa, .inr (1, [.ref sa, .int (zI P), .int (zI TH), .ref ba, .int (zI B), .int (zI ra), .int (zI su), .int (zI vw), .int (zI no), .int (zI dn), .int (zI ha)])), (sa, .inl (cI, 4, .inl (zia so))), (ba, .inl (cI, 2, .inl (zia bm)))] Hp (fun r => r = zI (patF (pl h) k P.toNat 0)) := by
  refine pu_start (by decide) rfl (Nat.le_of_ble_eq_true rfl) ?_
  intro pg ev sx mm args below meth cd ls M hP hK hl
  obtain ⟨hx, hb, hr, hml, hown, hts, hlk, hN0⟩ := id M
  have hl : lv_has ls 4 [(0, .ref pa), (1, .int (zI h)), (2, .int (zI k))] := hl
  refine lv_iconst (v := zI 0) hx hb dX1_panelAt_0 rfl ?_
  refine lv_istore_n (lv' := [(3, .int (zI 0)), (0, .ref pa), (1, .int (zI h)), (2, .int (zI k))]) hx hb dX1_panelAt_1 rfl hl (by decide) rfl (fun ls hl => ?_)
  exact lp_X1_panelAt_2 l D cB cI cZ cM pa sa ba so bm P TH B ra su vw no dn ha h k hP4 hh k0 M hP hK (P.toNat + 1) P.toNat 0 (Nat.lt_succ_self _) (by omega) (by rfl) _ (lv_sub hl [1, 2, 3, 0] rfl)
set_option maxHeartbeats 4000000 in
set_option maxRecDepth 100000 in
theorem lp_X1_slotsUnder_5 (l : Launch) (D : va_G) (cB cI cZ cM : ClassId) (pa : Nat) (sa : Nat) (ba : Nat) (so : Int → Int) (bm : Int → Int) (P : Int) (TH : Int) (B : Int) (ra : Int) (su : Int) (vw : Int) (no : Int) (dn : Int) (ha : Int) (h : Int) (set : Int) (hP4 : 0 ≤ P ∧ P ≤ 4) (hso : ∀ i : Int, 0 ≤ i → i < 4 → 0 ≤ so i ∧ so i ≤ 3) (hh : 0 ≤ h ∧ h < 2147483648) (s0 : 0 ≤ set ∧ set < 256) {pg : Program} {ev : Env} {sx : State} {mm : MethodId} {args : Array Value} {below : List Frame} {meth : Method} {cd : Code} (M : MX pg sx mm args meth cd cX1_slotsUnder 6 (some .int) RX1 wsX1_slotsUnder) (hP : va_P D vwCl [(pa, .inr (1, [.ref sa, .int (zI P), .int (zI TH), .ref ba, .int (zI B), .int (zI ra), .int (zI su), .int (zI vw), .int (zI no), .int (zI dn), .int (zI ha)])), (sa, .inl (cI, 4, .inl (zia so))), (ba, .inl (cI, 2, .inl (zia bm)))] sx.heap) (hK : va_K D vwCl (TYS cB cI cZ cM) sx) : ∀ (N : Nat) (n : Nat) (i : Int) (acc : Int), (n < N) → (0 ≤ i ∧ i + n = P) → (0 ≤ acc ∧ acc < 256) → (mskF (pl h) so set n i acc = msk (pl h) so set P) → ∀ ls : Array Slot, lv_has ls 6 [(0, .ref pa), (1, .int (zI h)), (2, .int (zI set)), (3, .int (zI acc)), (4, .int (zI i))] → W pg l ev (rmP 1 21) sx mm args below meth cd sx.heap [] 0 0 (QP below args sx (fun r => r = zI (msk (pl h) so set P))) (F0 mm 5 ls []) := by
  intro N
  induction N with
  | zero => intro n i acc hN; exact absurd hN (Nat.not_lt_zero _)
  | succ N ih =>
    intro n i acc hN hi ha hv ls hl
    obtain ⟨hx, hb, hr, hml, hown, hts, hlk, hN0⟩ := id M
    refine lv_iload hx hb dX1_slotsUnder_5 (lv_at hl 4 rfl) ?_
    refine lv_aload_n hx hb dX1_slotsUnder_7 rfl (lv_at hl 0 rfl) ?_
    refine va_get (D := D) (ci := 1) (C := RX1) (T := TX1) (N := 11) hx hb hts inc_X1_slotsUnder_1 hown hK hP 0 rfl rfl 1 (by decide) (hts (.fieldLink RX1 21 "BedHouse$Plan" "panels" "I") (by decide +kernel)) (fun _ h9 => h9) rfl dX1_slotsUnder_8 ?_
    refine z_icmp_ge (tgt := 67) hx hb dX1_slotsUnder_11 (by decide) (by omega) (fun c_11 => ?_) (fun c_11 => ?_)
    · skip
      refine lv_iload_n hx hb dX1_slotsUnder_67 rfl (lv_at hl 3 rfl) ?_
      obtain rfl : n = 0 := by omega
      exact pu_ret M dX1_slotsUnder_68 (congrArg zI (hv))
    obtain ⟨n, rfl⟩ : ∃ j : Nat, n = j + 1 := ⟨n - 1, by omega⟩
    refine lv_iload hx hb dX1_slotsUnder_14 (lv_at hl 4 rfl) ?_
    refine lv_aload_n hx hb dX1_slotsUnder_16 rfl (lv_at hl 0 rfl) ?_
    refine va_get (D := D) (ci := 1) (C := RX1) (T := TX1) (N := 11) hx hb hts inc_X1_slotsUnder_1 hown hK hP 0 rfl rfl 0 (by decide) (hts (.fieldLink RX1 9 "BedHouse$Plan" "sorts" "[I") (by decide +kernel)) (fun _ h9 => h9) rfl dX1_slotsUnder_17 ?_
    refine z_alen (n := 4) hx hb hK hP 1 1 rfl rfl dX1_slotsUnder_20 ?_
    refine z_icmp_ge (tgt := 67) hx hb dX1_slotsUnder_21 (by decide) (by omega) (fun c_21 => ?_) (fun c_21 => ?_)
    · skip
      exfalso; omega
    refine lv_iload_n hx hb dX1_slotsUnder_24 rfl (lv_at hl 1 rfl) ?_
    refine lv_iload hx hb dX1_slotsUnder_25 (lv_at hl 4 rfl) ?_
    have hpl := pl_rng h i
    refine pc_SN (As := [.int (zI h), .int (zI i)]) (rest := []) M (c_X4_placeIn l D cB cI cZ cM _ h i (by first | assumption | omega) (by first | assumption | omega)) gX1_slotsUnder_X4_placeIn_n57 rfl (NW.at hN0 44 rfl) (by decide +kernel) (by decide +kernel) hd_X4_placeIn ⟨Nat.le_of_ble_eq_true rfl, Nat.le_of_ble_eq_true rfl⟩ hK hP [] rfl hl.1 rfl rfl (Nat.le_of_ble_eq_true rfl) dX1_slotsUnder_27 ⟨Nat.le_of_ble_eq_true rfl, Nat.le_of_ble_eq_true rfl⟩ (fun r_27 h_27 => ?_)
    subst h_27
    refine lv_istore (lv' := [(5, .int (zI (pl h i))), (0, .ref pa), (1, .int (zI h)), (2, .int (zI set)), (3, .int (zI acc)), (4, .int (zI i))]) hx hb dX1_slotsUnder_30 hl (by decide) rfl (fun ls hl => ?_)
    refine lv_iload hx hb dX1_slotsUnder_32 (lv_at hl 0 rfl) ?_
    refine lv_bipush (v := zI 8) hx hb dX1_slotsUnder_34 (by decide) ?_
    refine z_icmp_eq (tgt := 61) hx hb dX1_slotsUnder_36 (by decide) (by omega) (fun c_36 => ?_) (fun c_36 => ?_)
    · skip
      refine z_iinc (a := i) (k := 5) (lv' := [(4, .int (zI (i + 1))), (5, .int (zI (pl h i))), (0, .ref pa), (1, .int (zI h)), (2, .int (zI set)), (3, .int (zI acc))]) hx hb dX1_slotsUnder_61 hl rfl (by decide) rfl (fun ls hl => ?_)
      refine lv_goto (tgt := 5) hx hb dX1_slotsUnder_64 (by decide) ?_
      exact ih n (i + 1) acc (by omega) (by omega) (by first | omega | exact ⟨zbor_nn _ _, zbor_lt 8 (by omega) (zpw_lt (n := 8) (by omega) (by omega))⟩) (by rw [← hv, mskF]; rw [if_neg (fun q => q.1 c_36)]) _ (lv_sub hl [2, 3, 4, 5, 0] rfl)
    refine lv_iload_n hx hb dX1_slotsUnder_39 rfl (lv_at hl 3 rfl) ?_
    refine lv_aload_n hx hb dX1_slotsUnder_40 rfl (lv_at hl 1 rfl) ?_
    refine va_get (D := D) (ci := 1) (C := RX1) (T := TX1) (N := 11) hx hb hts inc_X1_slotsUnder_1 hown hK hP 0 rfl rfl 0 (by decide) (hts (.fieldLink RX1 9 "BedHouse$Plan" "sorts" "[I") (by decide +kernel)) (fun _ h9 => h9) rfl dX1_slotsUnder_41 ?_
    refine lv_iload hx hb dX1_slotsUnder_44 (lv_at hl 5 rfl) ?_
    have hs := hso i (by omega) (by omega)
    refine z_iald hx hb hK hP 1 1 rfl rfl (Nat.le_of_ble_eq_true rfl) dX1_slotsUnder_46 (by omega) ?_
    refine z_ishr hx hb dX1_slotsUnder_47 (by omega) ?_
    refine lv_iconst (v := zI 1) hx hb dX1_slotsUnder_48 rfl ?_
    refine z_ibit hx hb dX1_slotsUnder_49 ?_
    refine lv_iconst (v := zI 1) hx hb dX1_slotsUnder_50 rfl ?_
    refine z_icmp_ne (tgt := 61) hx hb dX1_slotsUnder_51 (by decide) (⟨zbit_bd _ _, by omega⟩) (fun c_51 => ?_) (fun c_51 => ?_)
    · skip
      have c_51 := zbit_ne1 c_51
      refine z_iinc (a := i) (k := 5) (lv' := [(4, .int (zI (i + 1))), (5, .int (zI (pl h i))), (0, .ref pa), (1, .int (zI h)), (2, .int (zI set)), (3, .int (zI acc))]) hx hb dX1_slotsUnder_61 hl rfl (by decide) rfl (fun ls hl => ?_)
      refine lv_goto (tgt := 5) hx hb dX1_slotsUnder_64 (by decide) ?_
      exact ih n (i + 1) acc (by omega) (by omega) (by first | omega | exact ⟨zbor_nn _ _, zbor_lt 8 (by omega) (zpw_lt (n := 8) (by omega) (by omega))⟩) (by rw [← hv, mskF]; rw [if_neg (fun q => by simp [c_51] at q)]) _ (lv_sub hl [2, 3, 4, 5, 0] rfl)
    have c_51 := (zbit_1 _ _).mp c_51
    refine lv_iload_n hx hb dX1_slotsUnder_54 rfl (lv_at hl 4 rfl) ?_
    refine lv_iconst (v := zI 1) hx hb dX1_slotsUnder_55 rfl ?_
    refine lv_iload hx hb dX1_slotsUnder_56 (lv_at hl 0 rfl) ?_
    refine z_ishl1 hx hb dX1_slotsUnder_58 (by omega) ?_
    refine z_ior hx hb dX1_slotsUnder_59 (⟨by omega, zpw_nn _⟩) ?_
    refine lv_istore_n (lv' := [(3, .int (zI (zbor acc (zpw (pl h i))))), (5, .int (zI (pl h i))), (0, .ref pa), (1, .int (zI h)), (2, .int (zI set)), (4, .int (zI i))]) hx hb dX1_slotsUnder_60 rfl hl (by decide) rfl (fun ls hl => ?_)
    refine z_iinc (a := i) (k := 5) (lv' := [(4, .int (zI (i + 1))), (3, .int (zI (zbor acc (zpw (pl h i))))), (5, .int (zI (pl h i))), (0, .ref pa), (1, .int (zI h)), (2, .int (zI set))]) hx hb dX1_slotsUnder_61 hl rfl (by decide) rfl (fun ls hl => ?_)
    refine lv_goto (tgt := 5) hx hb dX1_slotsUnder_64 (by decide) ?_
    exact ih n (i + 1) (zbor acc (zpw (pl h i))) (by omega) (by omega) (by first | omega | exact ⟨zbor_nn _ _, zbor_lt 8 (by omega) (zpw_lt (n := 8) (by omega) (by omega))⟩) (by rw [← hv, mskF]; rw [if_pos ⟨c_36, c_51⟩]) _ (lv_sub hl [3, 4, 5, 1, 0] rfl)
set_option maxHeartbeats 4000000 in
set_option maxRecDepth 100000 in
theorem c_X1_slotsUnder (l : Launch) (D : va_G) (cB cI cZ cM : ClassId) (Hp : Heap) (pa : Nat) (sa : Nat) (ba : Nat) (so : Int → Int) (bm : Int → Int) (P : Int) (TH : Int) (B : Int) (ra : Int) (su : Int) (vw : Int) (no : Int) (dn : Int) (ha : Int) (h : Int) (set : Int) (hP4 : 0 ≤ P ∧ P ≤ 4) (hso : ∀ i : Int, 0 ≤ i → i < 4 → 0 ≤ so i ∧ so i ≤ 3) (hh : 0 ≤ h ∧ h < 2147483648) (s0 : 0 ≤ set ∧ set < 256) : cP l yX1_slotsUnder wsX1_slotsUnder 1 21 D (TYS cB cI cZ cM) [.ref pa, .int (zI h), .int (zI set)] [(pa, .inr (1, [.ref sa, .int (zI P), .int (zI TH), .ref ba, .int (zI B), .int (zI ra), .int (zI su), .int (zI vw), .int (zI no), .int (zI dn), .int (zI ha)])), (sa, .inl (cI, 4, .inl (zia so))), (ba, .inl (cI, 2, .inl (zia bm)))] Hp (fun r => r = zI (msk (pl h) so set P)) := by
  refine pu_start (by decide) rfl (Nat.le_of_ble_eq_true rfl) ?_
  intro pg ev sx mm args below meth cd ls M hP hK hl
  obtain ⟨hx, hb, hr, hml, hown, hts, hlk, hN0⟩ := id M
  have hl : lv_has ls 6 [(0, .ref pa), (1, .int (zI h)), (2, .int (zI set))] := hl
  refine lv_iconst (v := zI 0) hx hb dX1_slotsUnder_0 rfl ?_
  refine lv_istore_n (lv' := [(3, .int (zI 0)), (0, .ref pa), (1, .int (zI h)), (2, .int (zI set))]) hx hb dX1_slotsUnder_1 rfl hl (by decide) rfl (fun ls hl => ?_)
  refine lv_iconst (v := zI 0) hx hb dX1_slotsUnder_2 rfl ?_
  refine lv_istore (lv' := [(4, .int (zI 0)), (3, .int (zI 0)), (0, .ref pa), (1, .int (zI h)), (2, .int (zI set))]) hx hb dX1_slotsUnder_3 hl (by decide) rfl (fun ls hl => ?_)
  exact lp_X1_slotsUnder_5 l D cB cI cZ cM pa sa ba so bm P TH B ra su vw no dn ha h set hP4 hso hh s0 M hP hK (P.toNat + 1) P.toNat 0 0 (Nat.lt_succ_self _) (by omega) (by first | omega | exact ⟨zbor_nn _ _, zbor_lt 8 (by omega) (zpw_lt (n := 8) (by omega) (by omega))⟩) (by rfl) _ (lv_sub hl [2, 3, 4, 1, 0] rfl)
set_option maxHeartbeats 4000000 in
set_option maxRecDepth 100000 in
theorem lp_X1_lyingIn_4 (l : Launch) (D : va_G) (cB cI cZ cM : ClassId) (pa : Nat) (sa : Nat) (ba : Nat) (so : Int → Int) (bm : Int → Int) (P : Int) (TH : Int) (B : Int) (ra : Int) (su : Int) (vw : Int) (no : Int) (dn : Int) (ha : Int) (h : Int) (hP4 : 0 ≤ P ∧ P ≤ 4) (hh : 0 ≤ h ∧ h < 2147483648) {pg : Program} {ev : Env} {sx : State} {mm : MethodId} {args : Array Value} {below : List Frame} {meth : Method} {cd : Code} (M : MX pg sx mm args meth cd cX1_lyingIn 4 (some .int) RX1 wsX1_lyingIn) (hP : va_P D vwCl [(pa, .inr (1, [.ref sa, .int (zI P), .int (zI TH), .ref ba, .int (zI B), .int (zI ra), .int (zI su), .int (zI vw), .int (zI no), .int (zI dn), .int (zI ha)])), (sa, .inl (cI, 4, .inl (zia so))), (ba, .inl (cI, 2, .inl (zia bm)))] sx.heap) (hK : va_K D vwCl (TYS cB cI cZ cM) sx) : ∀ (N : Nat) (n : Nat) (i : Int) (acc : Int), (n < N) → (0 ≤ i ∧ i + n = P) → (acc + lyC (pl h) n i = lyC (pl h) P.toNat 0) → ∀ ls : Array Slot, lv_has ls 4 [(0, .ref pa), (1, .int (zI h)), (2, .int (zI acc)), (3, .int (zI i))] → W pg l ev (rmP 1 21) sx mm args below meth cd sx.heap [] 0 0 (QP below args sx (fun r => r = zI (lyC (pl h) P.toNat 0))) (F0 mm 4 ls []) := by
  intro N
  induction N with
  | zero => intro n i acc hN; exact absurd hN (Nat.not_lt_zero _)
  | succ N ih =>
    intro n i acc hN hi hv ls hl
    obtain ⟨hx, hb, hr, hml, hown, hts, hlk, hN0⟩ := id M
    refine lv_iload_n hx hb dX1_lyingIn_4 rfl (lv_at hl 3 rfl) ?_
    refine lv_aload_n hx hb dX1_lyingIn_5 rfl (lv_at hl 0 rfl) ?_
    refine va_get (D := D) (ci := 1) (C := RX1) (T := TX1) (N := 11) hx hb hts inc_X1_lyingIn_1 hown hK hP 0 rfl rfl 1 (by decide) (hts (.fieldLink RX1 21 "BedHouse$Plan" "panels" "I") (by decide +kernel)) (fun _ h9 => h9) rfl dX1_lyingIn_6 ?_
    refine z_icmp_ge (tgt := 31) hx hb dX1_lyingIn_9 (by decide) (by omega) (fun c_9 => ?_) (fun c_9 => ?_)
    · skip
      refine lv_iload_n hx hb dX1_lyingIn_31 rfl (lv_at hl 2 rfl) ?_
      obtain rfl : n = 0 := by omega
      exact pu_ret M dX1_lyingIn_32 (congrArg zI (by rw [← hv, lyC]; omega))
    obtain ⟨n, rfl⟩ : ∃ j : Nat, n = j + 1 := ⟨n - 1, by omega⟩
    refine lv_iload_n hx hb dX1_lyingIn_12 rfl (lv_at hl 1 rfl) ?_
    refine lv_iload_n hx hb dX1_lyingIn_13 rfl (lv_at hl 3 rfl) ?_
    have hpl := pl_rng h i
    refine pc_SN (As := [.int (zI h), .int (zI i)]) (rest := []) M (c_X4_placeIn l D cB cI cZ cM _ h i (by first | assumption | omega) (by first | assumption | omega)) gX1_lyingIn_X4_placeIn_n57 rfl (NW.at hN0 44 rfl) (by decide +kernel) (by decide +kernel) hd_X4_placeIn ⟨Nat.le_of_ble_eq_true rfl, Nat.le_of_ble_eq_true rfl⟩ hK hP [] rfl hl.1 rfl rfl (Nat.le_of_ble_eq_true rfl) dX1_lyingIn_14 ⟨Nat.le_of_ble_eq_true rfl, Nat.le_of_ble_eq_true rfl⟩ (fun r_14 h_14 => ?_)
    subst h_14
    refine lv_bipush (v := zI 8) hx hb dX1_lyingIn_17 (by decide) ?_
    refine z_icmp_ne (tgt := 25) hx hb dX1_lyingIn_19 (by decide) (by omega) (fun c_19 => ?_) (fun c_19 => ?_)
    · skip
      refine z_iinc (a := i) (k := 3) (lv' := [(3, .int (zI (i + 1))), (0, .ref pa), (1, .int (zI h)), (2, .int (zI acc))]) hx hb dX1_lyingIn_25 hl rfl (by decide) rfl (fun ls hl => ?_)
      refine lv_goto (tgt := 4) hx hb dX1_lyingIn_28 (by decide) ?_
      exact ih n (i + 1) acc (by omega) (by omega) (by rw [← hv, lyC]; first | (rw [if_pos c_19]; omega) | (rw [if_neg c_19]; omega)) _ (lv_sub hl [1, 2, 3, 0] rfl)
    refine z_iinc (a := acc) (k := 2) (lv' := [(2, .int (zI (acc + 1))), (0, .ref pa), (1, .int (zI h)), (3, .int (zI i))]) hx hb dX1_lyingIn_22 hl rfl (by decide) rfl (fun ls hl => ?_)
    refine z_iinc (a := i) (k := 3) (lv' := [(3, .int (zI (i + 1))), (2, .int (zI (acc + 1))), (0, .ref pa), (1, .int (zI h))]) hx hb dX1_lyingIn_25 hl rfl (by decide) rfl (fun ls hl => ?_)
    refine lv_goto (tgt := 4) hx hb dX1_lyingIn_28 (by decide) ?_
    exact ih n (i + 1) (acc + 1) (by omega) (by omega) (by rw [← hv, lyC]; first | (rw [if_pos c_19]; omega) | (rw [if_neg c_19]; omega)) _ (lv_sub hl [2, 3, 1, 0] rfl)
set_option maxHeartbeats 4000000 in
set_option maxRecDepth 100000 in
theorem c_X1_lyingIn (l : Launch) (D : va_G) (cB cI cZ cM : ClassId) (Hp : Heap) (pa : Nat) (sa : Nat) (ba : Nat) (so : Int → Int) (bm : Int → Int) (P : Int) (TH : Int) (B : Int) (ra : Int) (su : Int) (vw : Int) (no : Int) (dn : Int) (ha : Int) (h : Int) (hP4 : 0 ≤ P ∧ P ≤ 4) (hh : 0 ≤ h ∧ h < 2147483648) : cP l yX1_lyingIn wsX1_lyingIn 1 21 D (TYS cB cI cZ cM) [.ref pa, .int (zI h)] [(pa, .inr (1, [.ref sa, .int (zI P), .int (zI TH), .ref ba, .int (zI B), .int (zI ra), .int (zI su), .int (zI vw), .int (zI no), .int (zI dn), .int (zI ha)])), (sa, .inl (cI, 4, .inl (zia so))), (ba, .inl (cI, 2, .inl (zia bm)))] Hp (fun r => r = zI (lyC (pl h) P.toNat 0)) := by
  refine pu_start (by decide) rfl (Nat.le_of_ble_eq_true rfl) ?_
  intro pg ev sx mm args below meth cd ls M hP hK hl
  obtain ⟨hx, hb, hr, hml, hown, hts, hlk, hN0⟩ := id M
  have hl : lv_has ls 4 [(0, .ref pa), (1, .int (zI h))] := hl
  refine lv_iconst (v := zI 0) hx hb dX1_lyingIn_0 rfl ?_
  refine lv_istore_n (lv' := [(2, .int (zI 0)), (0, .ref pa), (1, .int (zI h))]) hx hb dX1_lyingIn_1 rfl hl (by decide) rfl (fun ls hl => ?_)
  refine lv_iconst (v := zI 0) hx hb dX1_lyingIn_2 rfl ?_
  refine lv_istore_n (lv' := [(3, .int (zI 0)), (2, .int (zI 0)), (0, .ref pa), (1, .int (zI h))]) hx hb dX1_lyingIn_3 rfl hl (by decide) rfl (fun ls hl => ?_)
  exact lp_X1_lyingIn_4 l D cB cI cZ cM pa sa ba so bm P TH B ra su vw no dn ha h hP4 hh M hP hK (P.toNat + 1) P.toNat 0 0 (Nat.lt_succ_self _) (by omega) (by omega) _ (lv_sub hl [2, 3, 1, 0] rfl)
set_option maxHeartbeats 4000000 in
set_option maxRecDepth 100000 in
theorem c_X1_isBorne (l : Launch) (D : va_G) (cB cI cZ cM : ClassId) (Hp : Heap) (pa : Nat) (sa : Nat) (ba : Nat) (so : Int → Int) (bm : Int → Int) (P : Int) (TH : Int) (B : Int) (ra : Int) (su : Int) (vw : Int) (no : Int) (dn : Int) (ha : Int) (h : Int) (k : Int) (hP4 : 0 ≤ P ∧ P ≤ 4) (hso : ∀ i : Int, 0 ≤ i → i < 4 → 0 ≤ so i ∧ so i ≤ 3) (hB2 : 0 ≤ B ∧ B ≤ 2) (hbm : ∀ i : Int, 0 ≤ i → i < 2 → 0 ≤ bm i ∧ bm i < 256) (hh : 0 ≤ h ∧ h < 2147483648) (k0 : -2147483648 ≤ k ∧ k < 2147483648) : cP l yX1_isBorne wsX1_isBorne 2 46 D (TYS cB cI cZ cM) [.ref pa, .int (zI h), .int (zI k)] [(pa, .inr (1, [.ref sa, .int (zI P), .int (zI TH), .ref ba, .int (zI B), .int (zI ra), .int (zI su), .int (zI vw), .int (zI no), .int (zI dn), .int (zI ha)])), (sa, .inl (cI, 4, .inl (zia so))), (ba, .inl (cI, 2, .inl (zia bm)))] Hp (fun r => r = zI (zb ((0 ≤ k ∧ k < B) ∧ zband (msk (pl h) so 1 P) (bm k) ≠ 0))) := by
  refine pu_start (by decide) rfl (Nat.le_of_ble_eq_true rfl) ?_
  intro pg ev sx mm args below meth cd ls M hP hK hl
  obtain ⟨hx, hb, hr, hml, hown, hts, hlk, hN0⟩ := id M
  have hl : lv_has ls 3 [(0, .ref pa), (1, .int (zI h)), (2, .int (zI k))] := hl
  refine lv_aload_n hx hb dX1_isBorne_0 rfl (lv_at hl 0 rfl) ?_
  refine lv_iload_n hx hb dX1_isBorne_1 rfl (lv_at hl 2 rfl) ?_
  refine pc_V (As := [.int (zI k)]) (rest := []) M (c_X1_hasBeam l D cB cI cZ cM _ pa sa ba so bm P TH B ra su vw no dn ha k (by first | assumption | omega) (by first | assumption | omega)) gX1_isBorne_X1_hasBeam rfl ⟨rfl, hd_X1_hasBeam⟩ ⟨Nat.le_of_ble_eq_true rfl, Nat.le_of_ble_eq_true rfl⟩ hK hP [0, 1, 2] rfl 0 1 rfl rfl rfl hl.1 rfl rfl (Nat.le_of_ble_eq_true rfl) dX1_isBorne_2 ⟨Nat.le_of_ble_eq_true rfl, Nat.le_of_ble_eq_true rfl⟩ (fun r_2 h_2 => ?_)
  subst h_2
  refine z_if_eq (tgt := 28) hx hb dX1_isBorne_5 (by decide) (zb_bd _) (fun c_5 => ?_) (fun c_5 => ?_)
  · skip
    have c_5 := zb_f c_5
    refine lv_iconst (v := zI 0) hx hb dX1_isBorne_28 rfl ?_
    exact pu_retz M (rfl) dX1_isBorne_29 (congrArg zI (by unfold zb; split <;> omega))
  have c_5 := zb_t c_5
  have hk2 : 0 ≤ k ∧ k < 2 := by omega
  refine lv_aload_n hx hb dX1_isBorne_8 rfl (lv_at hl 0 rfl) ?_
  refine lv_iload_n hx hb dX1_isBorne_9 rfl (lv_at hl 1 rfl) ?_
  refine lv_iconst (v := zI 1) hx hb dX1_isBorne_10 rfl ?_
  refine pc_V (As := [.int (zI h), .int (zI 1)]) (rest := []) M (c_X1_slotsUnder l D cB cI cZ cM _ pa sa ba so bm P TH B ra su vw no dn ha h 1 (by first | assumption | omega) (by first | assumption | omega) (by first | assumption | omega) (by first | assumption | omega)) gX1_isBorne_X1_slotsUnder rfl ⟨rfl, hd_X1_slotsUnder⟩ ⟨Nat.le_of_ble_eq_true rfl, Nat.le_of_ble_eq_true rfl⟩ hK hP [0, 1, 2] rfl 0 1 rfl rfl rfl hl.1 rfl rfl (Nat.le_of_ble_eq_true rfl) dX1_isBorne_11 ⟨Nat.le_of_ble_eq_true rfl, Nat.le_of_ble_eq_true rfl⟩ (fun r_11 h_11 => ?_)
  subst h_11
  refine lv_aload_n hx hb dX1_isBorne_14 rfl (lv_at hl 0 rfl) ?_
  refine va_get (D := D) (ci := 1) (C := RX1) (T := TX1) (N := 11) hx hb hts inc_X1_isBorne_1 hown hK hP 0 rfl rfl 3 (by decide) (hts (.fieldLink RX1 15 "BedHouse$Plan" "beamSlots" "[I") (by decide +kernel)) (fun _ h9 => h9) rfl dX1_isBorne_15 ?_
  refine lv_iload_n hx hb dX1_isBorne_18 rfl (lv_at hl 2 rfl) ?_
  refine z_iald hx hb hK hP 2 1 rfl rfl (Nat.le_of_ble_eq_true rfl) dX1_isBorne_19 (by omega) ?_
  have hm := msk_rng (pl h) so 1 P (pl_rng h)
  have hbk := hbm k (by omega) (by omega)
  refine z_iand hx hb dX1_isBorne_20 (by omega) ?_
  have hm2 := zband_le (msk (pl h) so 1 P) (bm k) (by omega)
  have hm3 := zband_nn (msk (pl h) so 1 P) (bm k)
  refine z_if_eq (tgt := 28) hx hb dX1_isBorne_21 (by decide) (by omega) (fun c_21 => ?_) (fun c_21 => ?_)
  · skip
    refine lv_iconst (v := zI 0) hx hb dX1_isBorne_28 rfl ?_
    exact pu_retz M (rfl) dX1_isBorne_29 (congrArg zI (by unfold zb; split <;> omega))
  refine lv_iconst (v := zI 1) hx hb dX1_isBorne_24 rfl ?_
  refine lv_goto (tgt := 29) hx hb dX1_isBorne_25 (by decide) ?_
  exact pu_retz M (rfl) dX1_isBorne_29 (congrArg zI (by unfold zb; split <;> omega))
set_option maxHeartbeats 4000000 in
set_option maxRecDepth 100000 in
theorem lp_X1_allows_39 (l : Launch) (D : va_G) (cB cI cZ cM : ClassId) (pa : Nat) (sa : Nat) (ba : Nat) (so : Int → Int) (bm : Int → Int) (P : Int) (TH : Int) (B : Int) (ra : Int) (su : Int) (vw : Int) (no : Int) (dn : Int) (ha : Int) (h : Int) (hP4 : 0 ≤ P ∧ P ≤ 4) (hso : ∀ i : Int, 0 ≤ i → i < 4 → 0 ≤ so i ∧ so i ≤ 3) (hB2 : 0 ≤ B ∧ B ≤ 2) (hbm : ∀ i : Int, 0 ≤ i → i < 2 → 0 ≤ bm i ∧ bm i < 256) (hh : 0 ≤ h ∧ h < 2147483648) (hdn : 0 ≤ dn ∧ dn ≤ 4) {pg : Program} {ev : Env} {sx : State} {mm : MethodId} {args : Array Value} {below : List Frame} {meth : Method} {cd : Code} (M : MX pg sx mm args meth cd cX1_allows 4 (some .boolean) RX1 wsX1_allows) (hP : va_P D vwCl [(pa, .inr (1, [.ref sa, .int (zI P), .int (zI TH), .ref ba, .int (zI B), .int (zI ra), .int (zI su), .int (zI vw), .int (zI no), .int (zI dn), .int (zI ha)])), (sa, .inl (cI, 4, .inl (zia so))), (ba, .inl (cI, 2, .inl (zia bm)))] sx.heap) (hK : va_K D vwCl (TYS cB cI cZ cM) sx) : ∀ (N : Nat) (n : Nat) (k : Int), (n < N) → (0 ≤ k ∧ k + n = B) → (lyC (pl h) P.toNat 0 ≤ dn) → (popc (msk (pl h) so 15 P) + lyC (pl h) P.toNat 0 = P) → (brB (msk (pl h) so 1 P) bm n k = brB (msk (pl h) so 1 P) bm B.toNat 0) → ∀ ls : Array Slot, lv_has ls 4 [(0, .ref pa), (1, .int (zI h)), (2, .int (zI (lyC (pl h) P.toNat 0))), (3, .int (zI k))] → W pg l ev (rmP 3 68) sx mm args below meth cd sx.heap [] 0 0 (QP below args sx (fun r => r = zI (zb (alw (pl h) so bm P B dn = true)))) (F0 mm 39 ls []) := by
  intro N
  induction N with
  | zero => intro n k hN; exact absurd hN (Nat.not_lt_zero _)
  | succ N ih =>
    intro n k hN hi q1 q2 hv ls hl
    obtain ⟨hx, hb, hr, hml, hown, hts, hlk, hN0⟩ := id M
    refine lv_iload_n hx hb dX1_allows_39 rfl (lv_at hl 3 rfl) ?_
    refine lv_aload_n hx hb dX1_allows_40 rfl (lv_at hl 0 rfl) ?_
    refine va_get (D := D) (ci := 1) (C := RX1) (T := TX1) (N := 11) hx hb hts inc_X1_allows_1 hown hK hP 0 rfl rfl 4 (by decide) (hts (.fieldLink RX1 28 "BedHouse$Plan" "beams" "I") (by decide +kernel)) (fun _ h9 => h9) rfl dX1_allows_41 ?_
    refine z_icmp_ge (tgt := 64) hx hb dX1_allows_44 (by decide) (by omega) (fun c_44 => ?_) (fun c_44 => ?_)
    · skip
      refine lv_iconst (v := zI 1) hx hb dX1_allows_64 rfl ?_
      obtain rfl : n = 0 := by omega
      exact pu_retz M (rfl) dX1_allows_65 (congrArg zI (by rw [zb_1]; unfold alw; rw [← hv]; simp [brB, q1, q2]))
    obtain ⟨n, rfl⟩ : ∃ j : Nat, n = j + 1 := ⟨n - 1, by omega⟩
    refine lv_aload_n hx hb dX1_allows_47 rfl (lv_at hl 0 rfl) ?_
    refine lv_iload_n hx hb dX1_allows_48 rfl (lv_at hl 1 rfl) ?_
    refine lv_iload_n hx hb dX1_allows_49 rfl (lv_at hl 3 rfl) ?_
    refine pc_V (As := [.int (zI h), .int (zI k)]) (rest := []) M (c_X1_isBorne l D cB cI cZ cM _ pa sa ba so bm P TH B ra su vw no dn ha h k (by first | assumption | omega) (by first | assumption | omega) (by first | assumption | omega) (by first | assumption | omega) (by first | assumption | omega) (by first | assumption | omega)) gX1_allows_X1_isBorne rfl ⟨rfl, hd_X1_isBorne⟩ ⟨Nat.le_of_ble_eq_true rfl, Nat.le_of_ble_eq_true rfl⟩ hK hP [0, 1, 2] rfl 0 1 rfl rfl rfl hl.1 rfl rfl (Nat.le_of_ble_eq_true rfl) dX1_allows_50 ⟨Nat.le_of_ble_eq_true rfl, Nat.le_of_ble_eq_true rfl⟩ (fun r_50 h_50 => ?_)
    subst h_50
    refine z_if_ne (tgt := 58) hx hb dX1_allows_53 (by decide) (zb_bd _) (fun c_53 => ?_) (fun c_53 => ?_)
    · skip
      have c_53 := zb_t c_53
      refine z_iinc (a := k) (k := 3) (lv' := [(3, .int (zI (k + 1))), (0, .ref pa), (1, .int (zI h)), (2, .int (zI (lyC (pl h) P.toNat 0)))]) hx hb dX1_allows_58 hl rfl (by decide) rfl (fun ls hl => ?_)
      refine lv_goto (tgt := 39) hx hb dX1_allows_61 (by decide) ?_
      exact ih n (k + 1) (by omega) (by omega) (by assumption) (by assumption) (by rw [← hv, brB]; simp [c_53.2]) _ (lv_sub hl [1, 2, 3, 0] rfl)
    have c_53 := zb_f c_53
    refine lv_iconst (v := zI 0) hx hb dX1_allows_56 rfl ?_
    exact pu_retz M (rfl) dX1_allows_57 (congrArg zI (by rw [zb_0]; unfold alw; rw [← hv, brB]; simp only [Bool.and_eq_true, decide_eq_true_eq, not_and]; intro _ q; exact absurd ⟨by omega, q⟩ c_53))
set_option maxHeartbeats 4000000 in
set_option maxRecDepth 100000 in
theorem c_X1_allows (l : Launch) (D : va_G) (cB cI cZ cM : ClassId) (Hp : Heap) (pa : Nat) (sa : Nat) (ba : Nat) (so : Int → Int) (bm : Int → Int) (P : Int) (TH : Int) (B : Int) (ra : Int) (su : Int) (vw : Int) (no : Int) (dn : Int) (ha : Int) (h : Int) (hP4 : 0 ≤ P ∧ P ≤ 4) (hso : ∀ i : Int, 0 ≤ i → i < 4 → 0 ≤ so i ∧ so i ≤ 3) (hB2 : 0 ≤ B ∧ B ≤ 2) (hbm : ∀ i : Int, 0 ≤ i → i < 2 → 0 ≤ bm i ∧ bm i < 256) (hh : 0 ≤ h ∧ h < 2147483648) (hdn : 0 ≤ dn ∧ dn ≤ 4) : cP l yX1_allows wsX1_allows 3 68 D (TYS cB cI cZ cM) [.ref pa, .int (zI h)] [(pa, .inr (1, [.ref sa, .int (zI P), .int (zI TH), .ref ba, .int (zI B), .int (zI ra), .int (zI su), .int (zI vw), .int (zI no), .int (zI dn), .int (zI ha)])), (sa, .inl (cI, 4, .inl (zia so))), (ba, .inl (cI, 2, .inl (zia bm)))] Hp (fun r => r = zI (zb (alw (pl h) so bm P B dn = true))) := by
  refine pu_start (by decide) rfl (Nat.le_of_ble_eq_true rfl) ?_
  intro pg ev sx mm args below meth cd ls M hP hK hl
  obtain ⟨hx, hb, hr, hml, hown, hts, hlk, hN0⟩ := id M
  have hl : lv_has ls 4 [(0, .ref pa), (1, .int (zI h))] := hl
  refine lv_aload_n hx hb dX1_allows_0 rfl (lv_at hl 0 rfl) ?_
  refine lv_iload_n hx hb dX1_allows_1 rfl (lv_at hl 1 rfl) ?_
  refine pc_V (As := [.int (zI h)]) (rest := []) M (c_X1_lyingIn l D cB cI cZ cM _ pa sa ba so bm P TH B ra su vw no dn ha h (by first | assumption | omega) (by first | assumption | omega)) gX1_allows_X1_lyingIn rfl ⟨rfl, hd_X1_lyingIn⟩ ⟨Nat.le_of_ble_eq_true rfl, Nat.le_of_ble_eq_true rfl⟩ hK hP [0, 1, 2] rfl 0 1 rfl rfl rfl hl.1 rfl rfl (Nat.le_of_ble_eq_true rfl) dX1_allows_2 ⟨Nat.le_of_ble_eq_true rfl, Nat.le_of_ble_eq_true rfl⟩ (fun r_2 h_2 => ?_)
  subst h_2
  refine lv_istore_n (lv' := [(2, .int (zI (lyC (pl h) P.toNat 0))), (0, .ref pa), (1, .int (zI h))]) hx hb dX1_allows_5 rfl hl (by decide) rfl (fun ls hl => ?_)
  refine lv_iload_n hx hb dX1_allows_6 rfl (lv_at hl 0 rfl) ?_
  refine lv_aload_n hx hb dX1_allows_7 rfl (lv_at hl 1 rfl) ?_
  refine va_get (D := D) (ci := 1) (C := RX1) (T := TX1) (N := 11) hx hb hts inc_X1_allows_1 hown hK hP 0 rfl rfl 9 (by decide) (hts (.fieldLink RX1 43 "BedHouse$Plan" "mostLying" "I") (by decide +kernel)) (fun _ h9 => h9) rfl dX1_allows_8 ?_
  have hly := lyC_rng (pl h) P.toNat 0
  refine z_icmp_le (tgt := 16) hx hb dX1_allows_11 (by decide) (by omega) (fun c_11 => ?_) (fun c_11 => ?_)
  · skip
    refine lv_aload_n hx hb dX1_allows_16 rfl (lv_at hl 1 rfl) ?_
    refine lv_iload_n hx hb dX1_allows_17 rfl (lv_at hl 2 rfl) ?_
    refine lv_bipush (v := zI 15) hx hb dX1_allows_18 (by decide) ?_
    refine pc_V (As := [.int (zI h), .int (zI 15)]) (rest := []) M (c_X1_slotsUnder l D cB cI cZ cM _ pa sa ba so bm P TH B ra su vw no dn ha h 15 (by first | assumption | omega) (by first | assumption | omega) (by first | assumption | omega) (by first | assumption | omega)) gX1_allows_X1_slotsUnder rfl ⟨rfl, hd_X1_slotsUnder⟩ ⟨Nat.le_of_ble_eq_true rfl, Nat.le_of_ble_eq_true rfl⟩ hK hP [0, 1, 2] rfl 0 1 rfl rfl rfl hl.1 rfl rfl (Nat.le_of_ble_eq_true rfl) dX1_allows_20 ⟨Nat.le_of_ble_eq_true rfl, Nat.le_of_ble_eq_true rfl⟩ (fun r_20 h_20 => ?_)
    subst h_20
    have hm := msk_rng (pl h) so 15 P (pl_rng h)
    refine pc_J (As := [.int (zI (msk (pl h) so 15 P))]) (rest := []) M (c_J6_bitCount_0f7a4 l D cB cI cZ cM _ (msk (pl h) so 15 P) (by first | assumption | omega)) gX1_allows_J6_bitCount_0f7a4 rfl hd_J6_bitCount_0f7a4 ⟨Nat.le_of_ble_eq_true rfl, Nat.le_of_ble_eq_true rfl⟩ hK hP [] rfl hl.1 rfl rfl (Nat.le_of_ble_eq_true rfl) dX1_allows_23 ⟨Nat.le_of_ble_eq_true rfl, Nat.le_of_ble_eq_true rfl⟩ (fun r_23 h_23 => ?_)
    subst h_23
    refine lv_iload_n hx hb dX1_allows_26 rfl (lv_at hl 0 rfl) ?_
    refine z_iadd hx hb dX1_allows_27 ?_
    refine lv_aload_n hx hb dX1_allows_28 rfl (lv_at hl 1 rfl) ?_
    refine va_get (D := D) (ci := 1) (C := RX1) (T := TX1) (N := 11) hx hb hts inc_X1_allows_1 hown hK hP 0 rfl rfl 1 (by decide) (hts (.fieldLink RX1 21 "BedHouse$Plan" "panels" "I") (by decide +kernel)) (fun _ h9 => h9) rfl dX1_allows_29 ?_
    have hpc := popc_rng (msk (pl h) so 15 P)
    refine z_icmp_eq (tgt := 37) hx hb dX1_allows_32 (by decide) (by omega) (fun c_32 => ?_) (fun c_32 => ?_)
    · skip
      refine lv_iconst (v := zI 0) hx hb dX1_allows_37 rfl ?_
      refine lv_istore_n (lv' := [(3, .int (zI 0)), (2, .int (zI (lyC (pl h) P.toNat 0))), (0, .ref pa), (1, .int (zI h))]) hx hb dX1_allows_38 rfl hl (by decide) rfl (fun ls hl => ?_)
      exact lp_X1_allows_39 l D cB cI cZ cM pa sa ba so bm P TH B ra su vw no dn ha h hP4 hso hB2 hbm hh hdn M hP hK (B.toNat + 1) B.toNat 0 (Nat.lt_succ_self _) (by omega) (by omega) (by omega) (by rfl) _ (lv_sub hl [2, 3, 1, 0] rfl)
    refine lv_iconst (v := zI 0) hx hb dX1_allows_35 rfl ?_
    exact pu_retz M (rfl) dX1_allows_36 (congrArg zI (by rw [zb_0]; unfold alw; simp; omega))
  refine lv_iconst (v := zI 0) hx hb dX1_allows_14 rfl ?_
  exact pu_retz M (rfl) dX1_allows_15 (congrArg zI (by rw [zb_0]; unfold alw; simp; omega))
set_option maxHeartbeats 4000000 in
set_option maxRecDepth 100000 in
theorem c_X1_leaksOf (l : Launch) (D : va_G) (cB cI cZ cM : ClassId) (Hp : Heap) (pa : Nat) (sa : Nat) (ba : Nat) (so : Int → Int) (bm : Int → Int) (P : Int) (TH : Int) (B : Int) (ra : Int) (su : Int) (vw : Int) (no : Int) (dn : Int) (ha : Int) (h : Int) (hP4 : 0 ≤ P ∧ P ≤ 4) (hso : ∀ i : Int, 0 ≤ i → i < 4 → 0 ≤ so i ∧ so i ≤ 3) (hra : 0 ≤ ra ∧ ra < 256) (hh : 0 ≤ h ∧ h < 2147483648) : cP l yX1_leaksOf wsX1_leaksOf 2 46 D (TYS cB cI cZ cM) [.ref pa, .int (zI h)] [(pa, .inr (1, [.ref sa, .int (zI P), .int (zI TH), .ref ba, .int (zI B), .int (zI ra), .int (zI su), .int (zI vw), .int (zI no), .int (zI dn), .int (zI ha)])), (sa, .inl (cI, 4, .inl (zia so))), (ba, .inl (cI, 2, .inl (zia bm)))] Hp (fun r => r = zI (lkA (pl h) so P ra)) := by
  refine pu_start (by decide) rfl (Nat.le_of_ble_eq_true rfl) ?_
  intro pg ev sx mm args below meth cd ls M hP hK hl
  obtain ⟨hx, hb, hr, hml, hown, hts, hlk, hN0⟩ := id M
  have hl : lv_has ls 2 [(0, .ref pa), (1, .int (zI h))] := hl
  refine lv_aload_n hx hb dX1_leaksOf_0 rfl (lv_at hl 0 rfl) ?_
  refine va_get (D := D) (ci := 1) (C := RX1) (T := TX1) (N := 11) hx hb hts inc_X1_leaksOf_1 hown hK hP 0 rfl rfl 5 (by decide) (hts (.fieldLink RX1 31 "BedHouse$Plan" "rain" "I") (by decide +kernel)) (fun _ h9 => h9) rfl dX1_leaksOf_1 ?_
  refine lv_aload_n hx hb dX1_leaksOf_4 rfl (lv_at hl 0 rfl) ?_
  refine lv_iload_n hx hb dX1_leaksOf_5 rfl (lv_at hl 1 rfl) ?_
  refine lv_iconst (v := zI 3) hx hb dX1_leaksOf_6 rfl ?_
  refine pc_V (As := [.int (zI h), .int (zI 3)]) (rest := [.int (zI ra)]) M (c_X1_slotsUnder l D cB cI cZ cM _ pa sa ba so bm P TH B ra su vw no dn ha h 3 (by first | assumption | omega) (by first | assumption | omega) (by first | assumption | omega) (by first | assumption | omega)) gX1_leaksOf_X1_slotsUnder rfl ⟨rfl, hd_X1_slotsUnder⟩ ⟨Nat.le_of_ble_eq_true rfl, Nat.le_of_ble_eq_true rfl⟩ hK hP [0, 1, 2] rfl 0 1 rfl rfl rfl hl.1 rfl rfl (Nat.le_of_ble_eq_true rfl) dX1_leaksOf_7 ⟨Nat.le_of_ble_eq_true rfl, Nat.le_of_ble_eq_true rfl⟩ (fun r_7 h_7 => ?_)
  subst h_7
  refine lv_iconst (v := zI (-1)) hx hb dX1_leaksOf_10 rfl ?_
  refine lv_ixor hx hb dX1_leaksOf_11 ?_
  have hm := msk_rng (pl h) so 3 P (pl_rng h)
  refine z_iandn hx hb dX1_leaksOf_12 (by omega) ?_
  have hz := zbandn_le ra (msk (pl h) so 3 P) hra.1
  have hz2 := zbandn_nn ra (msk (pl h) so 3 P)
  refine pc_J (As := [.int (zI (zbandn ra (msk (pl h) so 3 P)))]) (rest := []) M (c_J6_bitCount_0f7a4 l D cB cI cZ cM _ (zbandn ra (msk (pl h) so 3 P)) (by first | assumption | omega)) gX1_leaksOf_J6_bitCount_0f7a4 rfl hd_J6_bitCount_0f7a4 ⟨Nat.le_of_ble_eq_true rfl, Nat.le_of_ble_eq_true rfl⟩ hK hP [] rfl hl.1 rfl rfl (Nat.le_of_ble_eq_true rfl) dX1_leaksOf_13 ⟨Nat.le_of_ble_eq_true rfl, Nat.le_of_ble_eq_true rfl⟩ (fun r_13 h_13 => ?_)
  subst h_13
  exact pu_ret M dX1_leaksOf_16 (congrArg zI (by rfl))
set_option maxHeartbeats 4000000 in
set_option maxRecDepth 100000 in
theorem c_X1_litHours (l : Launch) (D : va_G) (cB cI cZ cM : ClassId) (Hp : Heap) (pa : Nat) (sa : Nat) (ba : Nat) (so : Int → Int) (bm : Int → Int) (P : Int) (TH : Int) (B : Int) (ra : Int) (su : Int) (vw : Int) (no : Int) (dn : Int) (ha : Int) (h : Int) (hP4 : 0 ≤ P ∧ P ≤ 4) (hso : ∀ i : Int, 0 ≤ i → i < 4 → 0 ≤ so i ∧ so i ≤ 3) (hsu : 0 ≤ su ∧ su < 256) (hh : 0 ≤ h ∧ h < 2147483648) : cP l yX1_litHours wsX1_litHours 2 46 D (TYS cB cI cZ cM) [.ref pa, .int (zI h)] [(pa, .inr (1, [.ref sa, .int (zI P), .int (zI TH), .ref ba, .int (zI B), .int (zI ra), .int (zI su), .int (zI vw), .int (zI no), .int (zI dn), .int (zI ha)])), (sa, .inl (cI, 4, .inl (zia so))), (ba, .inl (cI, 2, .inl (zia bm)))] Hp (fun r => r = zI (ltA (pl h) so P su)) := by
  refine pu_start (by decide) rfl (Nat.le_of_ble_eq_true rfl) ?_
  intro pg ev sx mm args below meth cd ls M hP hK hl
  obtain ⟨hx, hb, hr, hml, hown, hts, hlk, hN0⟩ := id M
  have hl : lv_has ls 2 [(0, .ref pa), (1, .int (zI h))] := hl
  refine lv_aload_n hx hb dX1_litHours_0 rfl (lv_at hl 0 rfl) ?_
  refine va_get (D := D) (ci := 1) (C := RX1) (T := TX1) (N := 11) hx hb hts inc_X1_litHours_1 hown hK hP 0 rfl rfl 6 (by decide) (hts (.fieldLink RX1 34 "BedHouse$Plan" "sun" "I") (by decide +kernel)) (fun _ h9 => h9) rfl dX1_litHours_1 ?_
  refine lv_aload_n hx hb dX1_litHours_4 rfl (lv_at hl 0 rfl) ?_
  refine lv_iload_n hx hb dX1_litHours_5 rfl (lv_at hl 1 rfl) ?_
  refine lv_bipush (v := zI 13) hx hb dX1_litHours_6 (by decide) ?_
  refine pc_V (As := [.int (zI h), .int (zI 13)]) (rest := [.int (zI su)]) M (c_X1_slotsUnder l D cB cI cZ cM _ pa sa ba so bm P TH B ra su vw no dn ha h 13 (by first | assumption | omega) (by first | assumption | omega) (by first | assumption | omega) (by first | assumption | omega)) gX1_litHours_X1_slotsUnder rfl ⟨rfl, hd_X1_slotsUnder⟩ ⟨Nat.le_of_ble_eq_true rfl, Nat.le_of_ble_eq_true rfl⟩ hK hP [0, 1, 2] rfl 0 1 rfl rfl rfl hl.1 rfl rfl (Nat.le_of_ble_eq_true rfl) dX1_litHours_8 ⟨Nat.le_of_ble_eq_true rfl, Nat.le_of_ble_eq_true rfl⟩ (fun r_8 h_8 => ?_)
  subst h_8
  refine lv_iconst (v := zI (-1)) hx hb dX1_litHours_11 rfl ?_
  refine lv_ixor hx hb dX1_litHours_12 ?_
  have hm := msk_rng (pl h) so 13 P (pl_rng h)
  refine z_iandn hx hb dX1_litHours_13 (by omega) ?_
  exact pu_ret M dX1_litHours_14 (congrArg zI (by rfl))
set_option maxHeartbeats 4000000 in
set_option maxRecDepth 100000 in
theorem c_X1_quietIn (l : Launch) (D : va_G) (cB cI cZ cM : ClassId) (Hp : Heap) (pa : Nat) (sa : Nat) (ba : Nat) (so : Int → Int) (bm : Int → Int) (P : Int) (TH : Int) (B : Int) (ra : Int) (su : Int) (vw : Int) (no : Int) (dn : Int) (ha : Int) (h : Int) (hP4 : 0 ≤ P ∧ P ≤ 4) (hso : ∀ i : Int, 0 ≤ i → i < 4 → 0 ≤ so i ∧ so i ≤ 3) (hno : 0 ≤ no ∧ no < 8) (hh : 0 ≤ h ∧ h < 2147483648) : cP l yX1_quietIn wsX1_quietIn 2 46 D (TYS cB cI cZ cM) [.ref pa, .int (zI h)] [(pa, .inr (1, [.ref sa, .int (zI P), .int (zI TH), .ref ba, .int (zI B), .int (zI ra), .int (zI su), .int (zI vw), .int (zI no), .int (zI dn), .int (zI ha)])), (sa, .inl (cI, 4, .inl (zia so))), (ba, .inl (cI, 2, .inl (zia bm)))] Hp (fun r => r = zI (quA (pl h) so P no)) := by
  refine pu_start (by decide) rfl (Nat.le_of_ble_eq_true rfl) ?_
  intro pg ev sx mm args below meth cd ls M hP hK hl
  obtain ⟨hx, hb, hr, hml, hown, hts, hlk, hN0⟩ := id M
  have hl : lv_has ls 2 [(0, .ref pa), (1, .int (zI h))] := hl
  refine lv_aload_n hx hb dX1_quietIn_0 rfl (lv_at hl 0 rfl) ?_
  refine lv_iload_n hx hb dX1_quietIn_1 rfl (lv_at hl 1 rfl) ?_
  refine lv_iconst (v := zI 1) hx hb dX1_quietIn_2 rfl ?_
  refine pc_V (As := [.int (zI h), .int (zI 1)]) (rest := []) M (c_X1_slotsUnder l D cB cI cZ cM _ pa sa ba so bm P TH B ra su vw no dn ha h 1 (by first | assumption | omega) (by first | assumption | omega) (by first | assumption | omega) (by first | assumption | omega)) gX1_quietIn_X1_slotsUnder rfl ⟨rfl, hd_X1_slotsUnder⟩ ⟨Nat.le_of_ble_eq_true rfl, Nat.le_of_ble_eq_true rfl⟩ hK hP [0, 1, 2] rfl 0 1 rfl rfl rfl hl.1 rfl rfl (Nat.le_of_ble_eq_true rfl) dX1_quietIn_3 ⟨Nat.le_of_ble_eq_true rfl, Nat.le_of_ble_eq_true rfl⟩ (fun r_3 h_3 => ?_)
  subst h_3
  refine lv_aload_n hx hb dX1_quietIn_6 rfl (lv_at hl 0 rfl) ?_
  refine va_get (D := D) (ci := 1) (C := RX1) (T := TX1) (N := 11) hx hb hts inc_X1_quietIn_1 hown hK hP 0 rfl rfl 8 (by decide) (hts (.fieldLink RX1 40 "BedHouse$Plan" "noise" "I") (by decide +kernel)) (fun _ h9 => h9) rfl dX1_quietIn_7 ?_
  have hm := msk_rng (pl h) so 1 P (pl_rng h)
  refine z_ishr hx hb dX1_quietIn_10 (by omega) ?_
  refine lv_iconst (v := zI 1) hx hb dX1_quietIn_11 rfl ?_
  refine z_ibit hx hb dX1_quietIn_12 ?_
  refine lv_iconst (v := zI 1) hx hb dX1_quietIn_13 rfl ?_
  refine z_icmp_ne (tgt := 19) hx hb dX1_quietIn_14 (by decide) (⟨zbit_bd _ _, by omega⟩) (fun c_14 => ?_) (fun c_14 => ?_)
  · skip
    have c_14 := zbit_ne1 c_14
    refine lv_aload_n hx hb dX1_quietIn_19 rfl (lv_at hl 0 rfl) ?_
    refine lv_iload_n hx hb dX1_quietIn_20 rfl (lv_at hl 1 rfl) ?_
    refine lv_bipush (v := zI 15) hx hb dX1_quietIn_21 (by decide) ?_
    refine pc_V (As := [.int (zI h), .int (zI 15)]) (rest := []) M (c_X1_slotsUnder l D cB cI cZ cM _ pa sa ba so bm P TH B ra su vw no dn ha h 15 (by first | assumption | omega) (by first | assumption | omega) (by first | assumption | omega) (by first | assumption | omega)) gX1_quietIn_X1_slotsUnder rfl ⟨rfl, hd_X1_slotsUnder⟩ ⟨Nat.le_of_ble_eq_true rfl, Nat.le_of_ble_eq_true rfl⟩ hK hP [0, 1, 2] rfl 0 1 rfl rfl rfl hl.1 rfl rfl (Nat.le_of_ble_eq_true rfl) dX1_quietIn_23 ⟨Nat.le_of_ble_eq_true rfl, Nat.le_of_ble_eq_true rfl⟩ (fun r_23 h_23 => ?_)
    subst h_23
    refine lv_aload_n hx hb dX1_quietIn_26 rfl (lv_at hl 0 rfl) ?_
    refine va_get (D := D) (ci := 1) (C := RX1) (T := TX1) (N := 11) hx hb hts inc_X1_quietIn_1 hown hK hP 0 rfl rfl 8 (by decide) (hts (.fieldLink RX1 40 "BedHouse$Plan" "noise" "I") (by decide +kernel)) (fun _ h9 => h9) rfl dX1_quietIn_27 ?_
    have hm := msk_rng (pl h) so 15 P (pl_rng h)
    refine z_ishr hx hb dX1_quietIn_30 (by omega) ?_
    refine lv_iconst (v := zI 1) hx hb dX1_quietIn_31 rfl ?_
    refine z_ibit hx hb dX1_quietIn_32 ?_
    refine lv_iconst (v := zI 1) hx hb dX1_quietIn_33 rfl ?_
    refine z_icmp_ne (tgt := 41) hx hb dX1_quietIn_34 (by decide) (⟨zbit_bd _ _, by omega⟩) (fun c_34 => ?_) (fun c_34 => ?_)
    · skip
      have c_34 := zbit_ne1 c_34
      refine lv_iconst (v := zI 0) hx hb dX1_quietIn_41 rfl ?_
      exact pu_ret M dX1_quietIn_42 (congrArg zI (by unfold quA; rw [if_neg (fun q => by rw [(zbit_1 _ _).mp q] at c_14; cases c_14), if_neg (fun q => by rw [(zbit_1 _ _).mp q] at c_34; cases c_34)]))
    have c_34 := (zbit_1 _ _).mp c_34
    refine lv_iconst (v := zI 2) hx hb dX1_quietIn_37 rfl ?_
    refine lv_goto (tgt := 42) hx hb dX1_quietIn_38 (by decide) ?_
    exact pu_ret M dX1_quietIn_42 (congrArg zI (by unfold quA; rw [if_neg (fun q => by rw [(zbit_1 _ _).mp q] at c_14; cases c_14), if_pos ((zbit_1 _ _).mpr c_34)]))
  have c_14 := (zbit_1 _ _).mp c_14
  refine lv_iconst (v := zI 4) hx hb dX1_quietIn_17 rfl ?_
  exact pu_ret M dX1_quietIn_18 (congrArg zI (by unfold quA; rw [if_pos ((zbit_1 _ _).mpr c_14)]))
set_option maxHeartbeats 4000000 in
set_option maxRecDepth 100000 in
theorem c_X1_worthOf (l : Launch) (D : va_G) (cB cI cZ cM : ClassId) (Hp : Heap) (pa : Nat) (sa : Nat) (ba : Nat) (so : Int → Int) (bm : Int → Int) (P : Int) (TH : Int) (B : Int) (ra : Int) (su : Int) (vw : Int) (no : Int) (dn : Int) (ha : Int) (h : Int) (hP4 : 0 ≤ P ∧ P ≤ 4) (hso : ∀ i : Int, 0 ≤ i → i < 4 → 0 ≤ so i ∧ so i ≤ 3) (hra : 0 ≤ ra ∧ ra < 256) (hsu : 0 ≤ su ∧ su < 256) (hvw : vw = -9 ∨ (0 ≤ vw ∧ vw < 8)) (hno : no = -9 ∨ (0 ≤ no ∧ no < 8)) (hh : 0 ≤ h ∧ h < 2147483648) : cP l yX1_worthOf wsX1_worthOf 3 67 D (TYS cB cI cZ cM) [.ref pa, .int (zI h)] [(pa, .inr (1, [.ref sa, .int (zI P), .int (zI TH), .ref ba, .int (zI B), .int (zI ra), .int (zI su), .int (zI vw), .int (zI no), .int (zI dn), .int (zI ha)])), (sa, .inl (cI, 4, .inl (zia so))), (ba, .inl (cI, 2, .inl (zia bm)))] Hp (fun r => r = zI (woA (pl h) so P ra su vw no)) := by
  refine pu_start (by decide) rfl (Nat.le_of_ble_eq_true rfl) ?_
  intro pg ev sx mm args below meth cd ls M hP hK hl
  obtain ⟨hx, hb, hr, hml, hown, hts, hlk, hN0⟩ := id M
  have hl : lv_has ls 3 [(0, .ref pa), (1, .int (zI h))] := hl
  refine lv_iconst (v := zI 3) hx hb dX1_worthOf_0 rfl ?_
  refine lv_aload_n hx hb dX1_worthOf_1 rfl (lv_at hl 0 rfl) ?_
  refine lv_iload_n hx hb dX1_worthOf_2 rfl (lv_at hl 1 rfl) ?_
  refine pc_V (As := [.int (zI h)]) (rest := [.int (zI 3)]) M (c_X1_litHours l D cB cI cZ cM _ pa sa ba so bm P TH B ra su vw no dn ha h (by first | assumption | omega) (by first | assumption | omega) (by first | assumption | omega) (by first | assumption | omega)) gX1_worthOf_X1_litHours rfl ⟨rfl, hd_X1_litHours⟩ ⟨Nat.le_of_ble_eq_true rfl, Nat.le_of_ble_eq_true rfl⟩ hK hP [0, 1, 2] rfl 0 1 rfl rfl rfl hl.1 rfl rfl (Nat.le_of_ble_eq_true rfl) dX1_worthOf_3 ⟨Nat.le_of_ble_eq_true rfl, Nat.le_of_ble_eq_true rfl⟩ (fun r_3 h_3 => ?_)
  subst h_3
  have hlt := ltA_rng (pl h) so P hsu
  have hpo := popc_rng (ltA (pl h) so P su)
  have hlk2 := lkA_rng (pl h) so P ra
  refine pc_J (As := [.int (zI (ltA (pl h) so P su))]) (rest := [.int (zI 3)]) M (c_J6_bitCount_0f7a4 l D cB cI cZ cM _ (ltA (pl h) so P su) (by first | assumption | omega)) gX1_worthOf_J6_bitCount_0f7a4 rfl hd_J6_bitCount_0f7a4 ⟨Nat.le_of_ble_eq_true rfl, Nat.le_of_ble_eq_true rfl⟩ hK hP [] rfl hl.1 rfl rfl (Nat.le_of_ble_eq_true rfl) dX1_worthOf_6 ⟨Nat.le_of_ble_eq_true rfl, Nat.le_of_ble_eq_true rfl⟩ (fun r_6 h_6 => ?_)
  subst h_6
  refine z_imul hx hb dX1_worthOf_9 ?_
  refine lv_iconst (v := zI 2) hx hb dX1_worthOf_10 rfl ?_
  refine lv_aload_n hx hb dX1_worthOf_11 rfl (lv_at hl 0 rfl) ?_
  refine lv_iload_n hx hb dX1_worthOf_12 rfl (lv_at hl 1 rfl) ?_
  refine pc_V (As := [.int (zI h)]) (rest := [.int (zI 2), .int (zI (3 * (popc (ltA (pl h) so P su))))]) M (c_X1_leaksOf l D cB cI cZ cM _ pa sa ba so bm P TH B ra su vw no dn ha h (by first | assumption | omega) (by first | assumption | omega) (by first | assumption | omega) (by first | assumption | omega)) gX1_worthOf_X1_leaksOf rfl ⟨rfl, hd_X1_leaksOf⟩ ⟨Nat.le_of_ble_eq_true rfl, Nat.le_of_ble_eq_true rfl⟩ hK hP [0, 1, 2] rfl 0 1 rfl rfl rfl hl.1 rfl rfl (Nat.le_of_ble_eq_true rfl) dX1_worthOf_13 ⟨Nat.le_of_ble_eq_true rfl, Nat.le_of_ble_eq_true rfl⟩ (fun r_13 h_13 => ?_)
  subst h_13
  refine z_imul hx hb dX1_worthOf_16 ?_
  refine z_isub hx hb dX1_worthOf_17 ?_
  refine lv_istore_n (lv' := [(2, .int (zI ((3 * (popc (ltA (pl h) so P su))) - (2 * (lkA (pl h) so P ra))))), (0, .ref pa), (1, .int (zI h))]) hx hb dX1_worthOf_18 rfl hl (by decide) rfl (fun ls hl => ?_)
  refine lv_aload_n hx hb dX1_worthOf_19 rfl (lv_at hl 1 rfl) ?_
  refine va_get (D := D) (ci := 1) (C := RX1) (T := TX1) (N := 11) hx hb hts inc_X1_worthOf_1 hown hK hP 0 rfl rfl 7 (by decide) (hts (.fieldLink RX1 37 "BedHouse$Plan" "view" "I") (by decide +kernel)) (fun _ h9 => h9) rfl dX1_worthOf_20 ?_
  refine lv_bipush (v := zI (-9)) hx hb dX1_worthOf_23 (by decide) ?_
  refine z_icmp_eq (tgt := 48) hx hb dX1_worthOf_25 (by decide) (by omega) (fun c_25 => ?_) (fun c_25 => ?_)
  · skip
    refine lv_aload_n hx hb dX1_worthOf_48 rfl (lv_at hl 1 rfl) ?_
    refine va_get (D := D) (ci := 1) (C := RX1) (T := TX1) (N := 11) hx hb hts inc_X1_worthOf_1 hown hK hP 0 rfl rfl 8 (by decide) (hts (.fieldLink RX1 40 "BedHouse$Plan" "noise" "I") (by decide +kernel)) (fun _ h9 => h9) rfl dX1_worthOf_49 ?_
    refine lv_bipush (v := zI (-9)) hx hb dX1_worthOf_52 (by decide) ?_
    refine z_icmp_eq (tgt := 65) hx hb dX1_worthOf_54 (by decide) (by omega) (fun c_54 => ?_) (fun c_54 => ?_)
    · skip
      refine lv_iload_n hx hb dX1_worthOf_65 rfl (lv_at hl 0 rfl) ?_
      exact pu_ret M dX1_worthOf_66 (congrArg zI (by unfold woA; rw [if_neg (fun q => q.1 c_25), if_neg (fun q => q c_54)]; omega))
    refine lv_iload_n hx hb dX1_worthOf_57 rfl (lv_at hl 0 rfl) ?_
    refine lv_aload_n hx hb dX1_worthOf_58 rfl (lv_at hl 1 rfl) ?_
    refine lv_iload_n hx hb dX1_worthOf_59 rfl (lv_at hl 2 rfl) ?_
    refine pc_V (As := [.int (zI h)]) (rest := [.int (zI ((3 * (popc (ltA (pl h) so P su))) - (2 * (lkA (pl h) so P ra))))]) M (c_X1_quietIn l D cB cI cZ cM _ pa sa ba so bm P TH B ra su vw no dn ha h (by first | assumption | omega) (by first | assumption | omega) (by first | assumption | omega) (by first | assumption | omega)) gX1_worthOf_X1_quietIn rfl ⟨rfl, hd_X1_quietIn⟩ ⟨Nat.le_of_ble_eq_true rfl, Nat.le_of_ble_eq_true rfl⟩ hK hP [0, 1, 2] rfl 0 1 rfl rfl rfl hl.1 rfl rfl (Nat.le_of_ble_eq_true rfl) dX1_worthOf_60 ⟨Nat.le_of_ble_eq_true rfl, Nat.le_of_ble_eq_true rfl⟩ (fun r_60 h_60 => ?_)
    subst h_60
    have hqu := quA_rng (pl h) so P no
    refine z_iadd hx hb dX1_worthOf_63 ?_
    refine lv_istore_n (lv' := [(2, .int (zI (((3 * (popc (ltA (pl h) so P su))) - (2 * (lkA (pl h) so P ra))) + (quA (pl h) so P no)))), (0, .ref pa), (1, .int (zI h))]) hx hb dX1_worthOf_64 rfl hl (by decide) rfl (fun ls hl => ?_)
    refine lv_iload_n hx hb dX1_worthOf_65 rfl (lv_at hl 0 rfl) ?_
    exact pu_ret M dX1_worthOf_66 (congrArg zI (by unfold woA; rw [if_neg (fun q => q.1 c_25), if_pos c_54]; omega))
  refine lv_aload_n hx hb dX1_worthOf_28 rfl (lv_at hl 1 rfl) ?_
  refine lv_iload_n hx hb dX1_worthOf_29 rfl (lv_at hl 2 rfl) ?_
  refine lv_bipush (v := zI 13) hx hb dX1_worthOf_30 (by decide) ?_
  refine pc_V (As := [.int (zI h), .int (zI 13)]) (rest := []) M (c_X1_slotsUnder l D cB cI cZ cM _ pa sa ba so bm P TH B ra su vw no dn ha h 13 (by first | assumption | omega) (by first | assumption | omega) (by first | assumption | omega) (by first | assumption | omega)) gX1_worthOf_X1_slotsUnder rfl ⟨rfl, hd_X1_slotsUnder⟩ ⟨Nat.le_of_ble_eq_true rfl, Nat.le_of_ble_eq_true rfl⟩ hK hP [0, 1, 2] rfl 0 1 rfl rfl rfl hl.1 rfl rfl (Nat.le_of_ble_eq_true rfl) dX1_worthOf_32 ⟨Nat.le_of_ble_eq_true rfl, Nat.le_of_ble_eq_true rfl⟩ (fun r_32 h_32 => ?_)
  subst h_32
  refine lv_aload_n hx hb dX1_worthOf_35 rfl (lv_at hl 1 rfl) ?_
  refine va_get (D := D) (ci := 1) (C := RX1) (T := TX1) (N := 11) hx hb hts inc_X1_worthOf_1 hown hK hP 0 rfl rfl 7 (by decide) (hts (.fieldLink RX1 37 "BedHouse$Plan" "view" "I") (by decide +kernel)) (fun _ h9 => h9) rfl dX1_worthOf_36 ?_
  have hm := msk_rng (pl h) so 13 P (pl_rng h)
  refine z_ishr hx hb dX1_worthOf_39 (by omega) ?_
  refine lv_iconst (v := zI 1) hx hb dX1_worthOf_40 rfl ?_
  refine z_ibit hx hb dX1_worthOf_41 ?_
  refine z_if_ne (tgt := 48) hx hb dX1_worthOf_42 (by decide) (zbit_bd _ _) (fun c_42 => ?_) (fun c_42 => ?_)
  · skip
    have c_42 := zbit_nz c_42
    refine lv_aload_n hx hb dX1_worthOf_48 rfl (lv_at hl 1 rfl) ?_
    refine va_get (D := D) (ci := 1) (C := RX1) (T := TX1) (N := 11) hx hb hts inc_X1_worthOf_1 hown hK hP 0 rfl rfl 8 (by decide) (hts (.fieldLink RX1 40 "BedHouse$Plan" "noise" "I") (by decide +kernel)) (fun _ h9 => h9) rfl dX1_worthOf_49 ?_
    refine lv_bipush (v := zI (-9)) hx hb dX1_worthOf_52 (by decide) ?_
    refine z_icmp_eq (tgt := 65) hx hb dX1_worthOf_54 (by decide) (by omega) (fun c_54 => ?_) (fun c_54 => ?_)
    · skip
      refine lv_iload_n hx hb dX1_worthOf_65 rfl (lv_at hl 0 rfl) ?_
      exact pu_ret M dX1_worthOf_66 (congrArg zI (by unfold woA; rw [if_neg (fun q => by rw [zbit_0] at q; rw [q.2] at c_42; cases c_42), if_neg (fun q => q c_54)]; omega))
    refine lv_iload_n hx hb dX1_worthOf_57 rfl (lv_at hl 0 rfl) ?_
    refine lv_aload_n hx hb dX1_worthOf_58 rfl (lv_at hl 1 rfl) ?_
    refine lv_iload_n hx hb dX1_worthOf_59 rfl (lv_at hl 2 rfl) ?_
    refine pc_V (As := [.int (zI h)]) (rest := [.int (zI ((3 * (popc (ltA (pl h) so P su))) - (2 * (lkA (pl h) so P ra))))]) M (c_X1_quietIn l D cB cI cZ cM _ pa sa ba so bm P TH B ra su vw no dn ha h (by first | assumption | omega) (by first | assumption | omega) (by first | assumption | omega) (by first | assumption | omega)) gX1_worthOf_X1_quietIn rfl ⟨rfl, hd_X1_quietIn⟩ ⟨Nat.le_of_ble_eq_true rfl, Nat.le_of_ble_eq_true rfl⟩ hK hP [0, 1, 2] rfl 0 1 rfl rfl rfl hl.1 rfl rfl (Nat.le_of_ble_eq_true rfl) dX1_worthOf_60 ⟨Nat.le_of_ble_eq_true rfl, Nat.le_of_ble_eq_true rfl⟩ (fun r_60 h_60 => ?_)
    subst h_60
    have hqu := quA_rng (pl h) so P no
    refine z_iadd hx hb dX1_worthOf_63 ?_
    refine lv_istore_n (lv' := [(2, .int (zI (((3 * (popc (ltA (pl h) so P su))) - (2 * (lkA (pl h) so P ra))) + (quA (pl h) so P no)))), (0, .ref pa), (1, .int (zI h))]) hx hb dX1_worthOf_64 rfl hl (by decide) rfl (fun ls hl => ?_)
    refine lv_iload_n hx hb dX1_worthOf_65 rfl (lv_at hl 0 rfl) ?_
    exact pu_ret M dX1_worthOf_66 (congrArg zI (by unfold woA; rw [if_neg (fun q => by rw [zbit_0] at q; rw [q.2] at c_42; cases c_42), if_pos c_54]; omega))
  have c_42 := (zbit_0 _ _).mp c_42
  refine z_iinc (a := ((3 * (popc (ltA (pl h) so P su))) - (2 * (lkA (pl h) so P ra)))) (k := 0) (lv' := [(2, .int (zI (((3 * (popc (ltA (pl h) so P su))) - (2 * (lkA (pl h) so P ra))) + 5))), (0, .ref pa), (1, .int (zI h))]) hx hb dX1_worthOf_45 hl rfl (by decide) rfl (fun ls hl => ?_)
  refine lv_aload_n hx hb dX1_worthOf_48 rfl (lv_at hl 1 rfl) ?_
  refine va_get (D := D) (ci := 1) (C := RX1) (T := TX1) (N := 11) hx hb hts inc_X1_worthOf_1 hown hK hP 0 rfl rfl 8 (by decide) (hts (.fieldLink RX1 40 "BedHouse$Plan" "noise" "I") (by decide +kernel)) (fun _ h9 => h9) rfl dX1_worthOf_49 ?_
  refine lv_bipush (v := zI (-9)) hx hb dX1_worthOf_52 (by decide) ?_
  refine z_icmp_eq (tgt := 65) hx hb dX1_worthOf_54 (by decide) (by omega) (fun c_54 => ?_) (fun c_54 => ?_)
  · skip
    refine lv_iload_n hx hb dX1_worthOf_65 rfl (lv_at hl 0 rfl) ?_
    exact pu_ret M dX1_worthOf_66 (congrArg zI (by unfold woA; rw [if_pos ⟨c_25, (zbit_0 _ _).mpr c_42⟩, if_neg (fun q => q c_54)]; omega))
  refine lv_iload_n hx hb dX1_worthOf_57 rfl (lv_at hl 0 rfl) ?_
  refine lv_aload_n hx hb dX1_worthOf_58 rfl (lv_at hl 1 rfl) ?_
  refine lv_iload_n hx hb dX1_worthOf_59 rfl (lv_at hl 2 rfl) ?_
  refine pc_V (As := [.int (zI h)]) (rest := [.int (zI (((3 * (popc (ltA (pl h) so P su))) - (2 * (lkA (pl h) so P ra))) + 5))]) M (c_X1_quietIn l D cB cI cZ cM _ pa sa ba so bm P TH B ra su vw no dn ha h (by first | assumption | omega) (by first | assumption | omega) (by first | assumption | omega) (by first | assumption | omega)) gX1_worthOf_X1_quietIn rfl ⟨rfl, hd_X1_quietIn⟩ ⟨Nat.le_of_ble_eq_true rfl, Nat.le_of_ble_eq_true rfl⟩ hK hP [0, 1, 2] rfl 0 1 rfl rfl rfl hl.1 rfl rfl (Nat.le_of_ble_eq_true rfl) dX1_worthOf_60 ⟨Nat.le_of_ble_eq_true rfl, Nat.le_of_ble_eq_true rfl⟩ (fun r_60 h_60 => ?_)
  subst h_60
  have hqu := quA_rng (pl h) so P no
  refine z_iadd hx hb dX1_worthOf_63 ?_
  refine lv_istore_n (lv' := [(2, .int (zI ((((3 * (popc (ltA (pl h) so P su))) - (2 * (lkA (pl h) so P ra))) + 5) + (quA (pl h) so P no)))), (0, .ref pa), (1, .int (zI h))]) hx hb dX1_worthOf_64 rfl hl (by decide) rfl (fun ls hl => ?_)
  refine lv_iload_n hx hb dX1_worthOf_65 rfl (lv_at hl 0 rfl) ?_
  exact pu_ret M dX1_worthOf_66 (congrArg zI (by unfold woA; rw [if_pos ⟨c_25, (zbit_0 _ _).mpr c_42⟩, if_pos c_54]))
set_option maxHeartbeats 4000000 in
set_option maxRecDepth 100000 in
theorem c_X1_fitsLetter (l : Launch) (D : va_G) (cB cI cZ cM : ClassId) (Hp : Heap) (pa : Nat) (sa : Nat) (ba : Nat) (so : Int → Int) (bm : Int → Int) (P : Int) (TH : Int) (B : Int) (ra : Int) (su : Int) (vw : Int) (no : Int) (dn : Int) (ha : Int) (ma : Nat) (hm : Int) (dy : Int) (ac : Int) (lk : Int) (cl : Int) (li : Int) (da : Int) (kp : Int) (h : Int) (hP4 : 0 ≤ P ∧ P ≤ 4) (hso : ∀ i : Int, 0 ≤ i → i < 4 → 0 ≤ so i ∧ so i ≤ 3) (hsu : 0 ≤ su ∧ su < 256) (hli : 0 ≤ li ∧ li < 256) (hda : 0 ≤ da ∧ da < 256) (hh : 0 ≤ h ∧ h < 2147483648) : cP l yX1_fitsLetter wsX1_fitsLetter 3 67 D (TYS cB cI cZ cM) [.ref pa, .int (zI h), .ref ma] [(pa, .inr (1, [.ref sa, .int (zI P), .int (zI TH), .ref ba, .int (zI B), .int (zI ra), .int (zI su), .int (zI vw), .int (zI no), .int (zI dn), .int (zI ha)])), (sa, .inl (cI, 4, .inl (zia so))), (ba, .inl (cI, 2, .inl (zia bm))), (ma, .inr (0, [.int (zI hm), .int (zI dy), .int (zI ac), .int (zI lk), .int (zI cl), .int (zI li), .int (zI da), .int (zI kp)]))] Hp (fun r => r = zI (zb (zbandn li (ltA (pl h) so P su) = 0 ∧ zband da (ltA (pl h) so P su) = 0))) := by
  refine pu_start (by decide) rfl (Nat.le_of_ble_eq_true rfl) ?_
  intro pg ev sx mm args below meth cd ls M hP hK hl
  obtain ⟨hx, hb, hr, hml, hown, hts, hlk, hN0⟩ := id M
  have hl : lv_has ls 4 [(0, .ref pa), (1, .int (zI h)), (2, .ref ma)] := hl
  refine lv_aload_n hx hb dX1_fitsLetter_0 rfl (lv_at hl 0 rfl) ?_
  refine lv_iload_n hx hb dX1_fitsLetter_1 rfl (lv_at hl 1 rfl) ?_
  refine pc_V (As := [.int (zI h)]) (rest := []) M (c_X1_litHours l D cB cI cZ cM _ pa sa ba so bm P TH B ra su vw no dn ha h (by first | assumption | omega) (by first | assumption | omega) (by first | assumption | omega) (by first | assumption | omega)) gX1_fitsLetter_X1_litHours rfl ⟨rfl, hd_X1_litHours⟩ ⟨Nat.le_of_ble_eq_true rfl, Nat.le_of_ble_eq_true rfl⟩ hK hP [0, 1, 2] rfl 0 1 rfl rfl rfl hl.1 rfl rfl (Nat.le_of_ble_eq_true rfl) dX1_fitsLetter_2 ⟨Nat.le_of_ble_eq_true rfl, Nat.le_of_ble_eq_true rfl⟩ (fun r_2 h_2 => ?_)
  subst h_2
  have hlt := ltA_rng (pl h) so P hsu
  refine lv_istore_n (lv' := [(3, .int (zI (ltA (pl h) so P su))), (0, .ref pa), (1, .int (zI h)), (2, .ref ma)]) hx hb dX1_fitsLetter_5 rfl hl (by decide) rfl (fun ls hl => ?_)
  refine lv_aload_n hx hb dX1_fitsLetter_6 rfl (lv_at hl 3 rfl) ?_
  refine va_getN (D := D) (ci := 0) (C := RX0) (T := TX0) (N := 8) hx hb hts inc_X1_fitsLetter_0 hown hK hP 3 rfl rfl 5 (by decide) ((NW.at hN0 10 rfl).use rfl) (fun _ h9 => h9) rfl dX1_fitsLetter_7 ?_
  refine lv_iload_n hx hb dX1_fitsLetter_10 rfl (lv_at hl 0 rfl) ?_
  refine lv_iconst (v := zI (-1)) hx hb dX1_fitsLetter_11 rfl ?_
  refine lv_ixor hx hb dX1_fitsLetter_12 ?_
  refine z_iandn hx hb dX1_fitsLetter_13 (by omega) ?_
  have hz := zbandn_le li (ltA (pl h) so P su) hli.1
  have hz2 := zbandn_nn li (ltA (pl h) so P su)
  refine z_if_ne (tgt := 30) hx hb dX1_fitsLetter_14 (by decide) (by omega) (fun c_14 => ?_) (fun c_14 => ?_)
  · skip
    refine lv_iconst (v := zI 0) hx hb dX1_fitsLetter_30 rfl ?_
    exact pu_retz M (rfl) dX1_fitsLetter_31 (congrArg zI (by unfold zb; split <;> omega))
  refine lv_aload_n hx hb dX1_fitsLetter_17 rfl (lv_at hl 3 rfl) ?_
  refine va_getN (D := D) (ci := 0) (C := RX0) (T := TX0) (N := 8) hx hb hts inc_X1_fitsLetter_0 hown hK hP 3 rfl rfl 6 (by decide) ((NW.at hN0 12 rfl).use rfl) (fun _ h9 => h9) rfl dX1_fitsLetter_18 ?_
  refine lv_iload_n hx hb dX1_fitsLetter_21 rfl (lv_at hl 0 rfl) ?_
  refine z_iand hx hb dX1_fitsLetter_22 (by omega) ?_
  have hy := zband_le da (ltA (pl h) so P su) hda.1
  have hy2 := zband_nn da (ltA (pl h) so P su)
  refine z_if_ne (tgt := 30) hx hb dX1_fitsLetter_23 (by decide) (by omega) (fun c_23 => ?_) (fun c_23 => ?_)
  · skip
    refine lv_iconst (v := zI 0) hx hb dX1_fitsLetter_30 rfl ?_
    exact pu_retz M (rfl) dX1_fitsLetter_31 (congrArg zI (by unfold zb; split <;> omega))
  refine lv_iconst (v := zI 1) hx hb dX1_fitsLetter_26 rfl ?_
  refine lv_goto (tgt := 31) hx hb dX1_fitsLetter_27 (by decide) ?_
  exact pu_retz M (rfl) dX1_fitsLetter_31 (congrArg zI (by unfold zb; split <;> omega))
