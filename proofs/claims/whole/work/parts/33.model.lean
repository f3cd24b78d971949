theorem inc_X5_act_5 : ∀ w ∈ wsX50, w ∈ wsX5_act := by decide +kernel
theorem inc_X5_back_5 : ∀ w ∈ wsX50, w ∈ wsX5_back := by decide +kernel
theorem inc_X5_beam_5 : ∀ w ∈ wsX50, w ∈ wsX5_beam := by decide +kernel
theorem inc_X5_clear_5 : ∀ w ∈ wsX50, w ∈ wsX5_clear := by decide +kernel
theorem inc_X5_clue_5 : ∀ w ∈ wsX50, w ∈ wsX5_clue := by decide +kernel
theorem inc_X5_copy_5 : ∀ w ∈ wsX50, w ∈ wsX5_copy := by decide +kernel
theorem inc_X5_count_5 : ∀ w ∈ wsX50, w ∈ wsX5_count := by decide +kernel
theorem inc_X5_down_5 : ∀ w ∈ wsX50, w ∈ wsX5_down := by decide +kernel
theorem inc_X5_forget_5 : ∀ w ∈ wsX50, w ∈ wsX5_forget := by decide +kernel
theorem inc_X5_houseOf_5 : ∀ w ∈ wsX50, w ∈ wsX5_houseOf := by decide +kernel
theorem inc_X5_keep_5 : ∀ w ∈ wsX50, w ∈ wsX5_keep := by decide +kernel
theorem inc_X5_lit_5 : ∀ w ∈ wsX50, w ∈ wsX5_lit := by decide +kernel
theorem inc_X5_mark_5 : ∀ w ∈ wsX50, w ∈ wsX5_mark := by decide +kernel
theorem inc_X5_night_5 : ∀ w ∈ wsX50, w ∈ wsX5_night := by decide +kernel
theorem inc_X5_now_5 : ∀ w ∈ wsX50, w ∈ wsX5_now := by decide +kernel
theorem inc_X5_panel_5 : ∀ w ∈ wsX50, w ∈ wsX5_panel := by decide +kernel
theorem inc_X5_refuses_5 : ∀ w ∈ wsX50, w ∈ wsX5_refuses := by decide +kernel
theorem inc_X5_slot_5 : ∀ w ∈ wsX50, w ∈ wsX5_slot := by decide +kernel
theorem inc_X5_told_5 : ∀ w ∈ wsX50, w ∈ wsX5_told := by decide +kernel
theorem inc_X5_trace_5 : ∀ w ∈ wsX50, w ∈ wsX5_trace := by decide +kernel
theorem inc_X5_up_5 : ∀ w ∈ wsX50, w ∈ wsX5_up := by decide +kernel
theorem hd_X5_act : yX5_act.cls ≠ "java/lang/invoke/MethodHandle" ∧ yX5_act.cls ≠ "java/lang/invoke/VarHandle" ∧ (parseMethodDescriptor yX5_act.desc).map (fun d => d.parameters.length) = some 1 := by decide +kernel
theorem hd_X5_copy : yX5_copy.cls ≠ "java/lang/invoke/MethodHandle" ∧ yX5_copy.cls ≠ "java/lang/invoke/VarHandle" ∧ (parseMethodDescriptor yX5_copy.desc).map (fun d => d.parameters.length) = some 2 := by decide +kernel
theorem hd_X5_isLawful : yX5_isLawful.cls ≠ "java/lang/invoke/MethodHandle" ∧ yX5_isLawful.cls ≠ "java/lang/invoke/VarHandle" ∧ (parseMethodDescriptor yX5_isLawful.desc).map (fun d => d.parameters.length) = some 1 := by decide +kernel
theorem hd_X5_isPanel : yX5_isPanel.cls ≠ "java/lang/invoke/MethodHandle" ∧ yX5_isPanel.cls ≠ "java/lang/invoke/VarHandle" ∧ (parseMethodDescriptor yX5_isPanel.desc).map (fun d => d.parameters.length) = some 1 := by decide +kernel
theorem hd_X5_refuses : yX5_refuses.cls ≠ "java/lang/invoke/MethodHandle" ∧ yX5_refuses.cls ≠ "java/lang/invoke/VarHandle" ∧ (parseMethodDescriptor yX5_refuses.desc).map (fun d => d.parameters.length) = some 1 := by decide +kernel
theorem hd_X5_with : yX5_with.cls ≠ "java/lang/invoke/MethodHandle" ∧ yX5_with.cls ≠ "java/lang/invoke/VarHandle" ∧ (parseMethodDescriptor yX5_with.desc).map (fun d => d.parameters.length) = some 3 := by decide +kernel
theorem hd_X5_worthOf : yX5_worthOf.cls ≠ "java/lang/invoke/MethodHandle" ∧ yX5_worthOf.cls ≠ "java/lang/invoke/VarHandle" ∧ (parseMethodDescriptor yX5_worthOf.desc).map (fun d => d.parameters.length) = some 1 := by decide +kernel
set_option maxHeartbeats 4000000 in
set_option maxRecDepth 100000 in
theorem c_X5_panel (l : Launch) (D : va_G) (cB cI cZ cM : ClassId) (Hp : Heap) (o0 : Nat) (o1 : Nat) (o2 : Nat) (o3 : Nat) (o4 : Nat) (o5 : Nat) (o6 : Nat) (o7 : Nat) (o8 : Nat) (o9 : Nat) (oz : Nat) (tr : Int64) (td : Int) (g1 : Int) (g2 : Int) (g3 : Int) (g4 : Int) (g5 : Int) (g6 : Int) (g7 : Int) (f2 : Int → Int) (f3 : Int → Int) (f5 : Int → Int) (f6 : Int → Int) (p : Int) (wh : Int) (hp2 : okR f2 f3 f5) (hn6 : okN f2 f6) (hp0 : -2147483648 ≤ p ∧ p < 2147483648) (hwh0 : -2147483648 ≤ wh ∧ wh < 2147483648) : cP l yX5_panel wsX5_panel 2 44 D (TYS cB cI cZ cM) [.ref o0, .int (zI p), .int (zI wh)] [(o0, .inr (5, [.long tr, .ref o1, .int (zI td), .ref o2, .ref o3, .ref o4, .ref o5, .int (zI g1), .int (zI g2), .int (zI g3), .int (zI g4), .int (zI g5), .int (zI g6), .ref o6, .ref o7, .ref o8, .ref o9, .int (zI g7), .ref oz])), (o2, .inl (cI, 16, .inl (zia f2))), (o3, .inl (cI, 8, .inl (zia f3))), (o5, .inl (cI, 4, .inl (zia f5))), (o6, .inl (cI, 63, .inl (zia f6)))] Hp (fun r => r = zI (if (0 ≤ p ∧ p < f2 0) ∧ (0 ≤ wh ∧ wh ≤ 1) then (if wh = 0 then f3 p else slI (f2 0) (f6 0) p) else -1)) := by
  refine pu_start (by decide) rfl (Nat.le_of_ble_eq_true rfl) ?_
  intro pg ev sx mm args below meth cd ls M hP hK hl
  obtain ⟨hx, hb, hr, hml, hown, hts, hlk, hN0⟩ := id M
  have hl : lv_has ls 3 [(0, .ref o0), (1, .int (zI p)), (2, .int (zI wh))] := hl
  obtain ⟨hPm, hB1, hra, hsu, hvw, hno, hdn6, hha7, hso, hbm⟩ := id hp2
  obtain ⟨hhm, hdy, hac, hlk, hmn, hcl⟩ := id hn6
  refine lv_aload_n hx hb dX5_panel_0 rfl (lv_at hl 0 rfl) ?_
  refine lv_iload_n hx hb dX5_panel_1 rfl (lv_at hl 1 rfl) ?_
  refine pc_V (As := [.int (zI p)]) (rest := []) M (c_X5_isPanel l D cB cI cZ cM _ o0 o1 o2 o3 o4 o5 o6 o7 o8 o9 oz tr td g1 g2 g3 g4 g5 g6 g7 f2 p (by first | assumption | omega) (by first | assumption | omega)) gX5_panel_X5_isPanel rfl ⟨rfl, hd_X5_isPanel⟩ ⟨Nat.le_of_ble_eq_true rfl, Nat.le_of_ble_eq_true rfl⟩ hK hP [0, 1] rfl 0 5 rfl rfl rfl hl.1 rfl rfl (Nat.le_of_ble_eq_true rfl) dX5_panel_2 ⟨Nat.le_of_ble_eq_true rfl, Nat.le_of_ble_eq_true rfl⟩ (fun r_2 h_2 => ?_)
  subst h_2
  refine z_if_eq (tgt := 44) hx hb dX5_panel_5 (by decide) (zb_bd _) (fun c_5 => ?_) (fun c_5 => ?_)
  · skip
    have c_5 := zb_f c_5
    refine lv_iconst (v := zI (-1)) hx hb dX5_panel_44 rfl ?_
    exact pu_ret M dX5_panel_45 (congrArg zI (by rw [if_neg (fun q => c_5 q.1)]))
  have c_5 := zb_t c_5
  refine lv_iload_n hx hb dX5_panel_8 rfl (lv_at hl 2 rfl) ?_
  refine lv_iconst (v := zI 0) hx hb dX5_panel_9 rfl ?_
  refine lv_iconst (v := zI 1) hx hb dX5_panel_10 rfl ?_
  refine pc_J (As := [.int (zI wh), .int (zI 0), .int (zI 1)]) (rest := []) M (c_X5_in l D cB cI cZ cM _ wh 0 1 (by first | assumption | omega) (by first | assumption | omega) (by first | assumption | omega)) gX5_panel_X5_in rfl hd_X5_in ⟨Nat.le_of_ble_eq_true rfl, Nat.le_of_ble_eq_true rfl⟩ hK hP [] rfl hl.1 rfl rfl (Nat.le_of_ble_eq_true rfl) dX5_panel_11 ⟨Nat.le_of_ble_eq_true rfl, Nat.le_of_ble_eq_true rfl⟩ (fun r_11 h_11 => ?_)
  subst h_11
  refine z_if_eq (tgt := 44) hx hb dX5_panel_14 (by decide) (zb_bd _) (fun c_14 => ?_) (fun c_14 => ?_)
  · skip
    have c_14 := zb_f c_14
    refine lv_iconst (v := zI (-1)) hx hb dX5_panel_44 rfl ?_
    exact pu_ret M dX5_panel_45 (congrArg zI (by rw [if_neg (fun q => c_14 q.2)]))
  have c_14 := zb_t c_14
  refine lv_iload_n hx hb dX5_panel_17 rfl (lv_at hl 2 rfl) ?_
  refine z_if_ne (tgt := 30) hx hb dX5_panel_18 (by decide) (by omega) (fun c_18 => ?_) (fun c_18 => ?_)
  · skip
    refine lv_aload_n hx hb dX5_panel_30 rfl (lv_at hl 0 rfl) ?_
    refine lv_aload_n hx hb dX5_panel_31 rfl (lv_at hl 0 rfl) ?_
    refine va_get (D := D) (ci := 5) (C := RX5) (T := TX5) (N := 19) hx hb hts inc_X5_panel_5 hown hK hP 0 rfl rfl 13 (by decide) (hts (.fieldLink RX5 26 "BedHouseModel" "now" "[I") (by decide +kernel)) (fun _ h9 => h9) rfl dX5_panel_32 ?_
    refine lv_iconst (v := zI 0) hx hb dX5_panel_35 rfl ?_
    refine z_iald hx hb hK hP 4 1 rfl rfl (Nat.le_of_ble_eq_true rfl) dX5_panel_36 (by omega) ?_
    refine lv_iload_n hx hb dX5_panel_37 rfl (lv_at hl 1 rfl) ?_
    refine pc_V (As := [.int (zI (f6 0)), .int (zI p)]) (rest := []) M (c_X5_slotIn l D cB cI cZ cM _ o0 o1 o2 o3 o4 o5 o6 o7 o8 o9 oz tr td g1 g2 g3 g4 g5 g6 g7 f2 (f6 0) p (by first | assumption | omega) (by first | assumption | omega) (by first | assumption | omega)) gX5_panel_X5_slotIn rfl ⟨rfl, hd_X5_slotIn⟩ ⟨Nat.le_of_ble_eq_true rfl, Nat.le_of_ble_eq_true rfl⟩ hK hP [0, 1] rfl 0 5 rfl rfl rfl hl.1 rfl rfl (Nat.le_of_ble_eq_true rfl) dX5_panel_38 ⟨Nat.le_of_ble_eq_true rfl, Nat.le_of_ble_eq_true rfl⟩ (fun r_38 h_38 => ?_)
    subst h_38
    refine lv_goto (tgt := 45) hx hb dX5_panel_41 (by decide) ?_
    exact pu_ret M dX5_panel_45 (congrArg zI (by rw [if_pos (And.intro c_5 c_14), if_neg (by omega)]))
  refine lv_aload_n hx hb dX5_panel_21 rfl (lv_at hl 0 rfl) ?_
  refine va_get (D := D) (ci := 5) (C := RX5) (T := TX5) (N := 19) hx hb hts inc_X5_panel_5 hown hK hP 0 rfl rfl 4 (by decide) (hts (.fieldLink RX5 17 "BedHouseModel" "sorts" "[I") (by decide +kernel)) (fun _ h9 => h9) rfl dX5_panel_22 ?_
  refine lv_iload_n hx hb dX5_panel_25 rfl (lv_at hl 1 rfl) ?_
  refine z_iald hx hb hK hP 2 1 rfl rfl (Nat.le_of_ble_eq_true rfl) dX5_panel_26 (by omega) ?_
  refine lv_goto (tgt := 45) hx hb dX5_panel_27 (by decide) ?_
  exact pu_ret M dX5_panel_45 (congrArg zI (by rw [if_pos (And.intro c_5 c_14), if_pos (by omega)]))
set_option maxHeartbeats 4000000 in
set_option maxRecDepth 100000 in
theorem c_X5_slot (l : Launch) (D : va_G) (cB cI cZ cM : ClassId) (Hp : Heap) (o0 : Nat) (o1 : Nat) (o2 : Nat) (o3 : Nat) (o4 : Nat) (o5 : Nat) (o6 : Nat) (o7 : Nat) (o8 : Nat) (o9 : Nat) (oz : Nat) (tr : Int64) (td : Int) (g1 : Int) (g2 : Int) (g3 : Int) (g4 : Int) (g5 : Int) (g6 : Int) (g7 : Int) (f2 : Int → Int) (f3 : Int → Int) (f5 : Int → Int) (f6 : Int → Int) (k : Int) (wh : Int) (hp2 : okR f2 f3 f5) (hn6 : okN f2 f6) (hk0 : -2147483648 ≤ k ∧ k < 2147483648) (hwh0 : -2147483648 ≤ wh ∧ wh < 2147483648) : cP l yX5_slot wsX5_slot 3 67 D (TYS cB cI cZ cM) [.ref o0, .int (zI k), .int (zI wh)] [(o0, .inr (5, [.long tr, .ref o1, .int (zI td), .ref o2, .ref o3, .ref o4, .ref o5, .int (zI g1), .int (zI g2), .int (zI g3), .int (zI g4), .int (zI g5), .int (zI g6), .ref o6, .ref o7, .ref o8, .ref o9, .int (zI g7), .ref oz])), (o2, .inl (cI, 16, .inl (zia f2))), (o3, .inl (cI, 8, .inl (zia f3))), (o5, .inl (cI, 4, .inl (zia f5))), (o6, .inl (cI, 63, .inl (zia f6)))] Hp (fun r => r = zI (if (0 ≤ k ∧ k ≤ 7) ∧ (0 ≤ wh ∧ wh ≤ 2) then (if wh = 0 then patF (slI (f2 0) (f6 0)) k (f2 0).toNat 0 else zbit (f2 (2 + wh - 1)) k) else -1)) := by
  refine pu_start (by decide) rfl (Nat.le_of_ble_eq_true rfl) ?_
  intro pg ev sx mm args below meth cd ls M hP hK hl
  obtain ⟨hx, hb, hr, hml, hown, hts, hlk, hN0⟩ := id M
  have hl : lv_has ls 3 [(0, .ref o0), (1, .int (zI k)), (2, .int (zI wh))] := hl
  obtain ⟨hPm, hB1, hra, hsu, hvw, hno, hdn6, hha7, hso, hbm⟩ := id hp2
  obtain ⟨hhm, hdy, hac, hlk, hmn, hcl⟩ := id hn6
  refine lv_iload_n hx hb dX5_slot_0 rfl (lv_at hl 1 rfl) ?_
  refine lv_iconst (v := zI 0) hx hb dX5_slot_1 rfl ?_
  refine lv_bipush (v := zI 7) hx hb dX5_slot_2 (by decide) ?_
  refine pc_J (As := [.int (zI k), .int (zI 0), .int (zI 7)]) (rest := []) M (c_X5_in l D cB cI cZ cM _ k 0 7 (by first | assumption | omega) (by first | assumption | omega) (by first | assumption | omega)) gX5_slot_X5_in rfl hd_X5_in ⟨Nat.le_of_ble_eq_true rfl, Nat.le_of_ble_eq_true rfl⟩ hK hP [] rfl hl.1 rfl rfl (Nat.le_of_ble_eq_true rfl) dX5_slot_4 ⟨Nat.le_of_ble_eq_true rfl, Nat.le_of_ble_eq_true rfl⟩ (fun r_4 h_4 => ?_)
  subst h_4
  refine z_if_eq (tgt := 19) hx hb dX5_slot_7 (by decide) (zb_bd _) (fun c_7 => ?_) (fun c_7 => ?_)
  · skip
    have c_7 := zb_f c_7
    refine lv_iconst (v := zI (-1)) hx hb dX5_slot_19 rfl ?_
    exact pu_ret M dX5_slot_20 (congrArg zI (by rw [if_neg (fun q => c_7 q.1)]))
  have c_7 := zb_t c_7
  refine lv_iload_n hx hb dX5_slot_10 rfl (lv_at hl 2 rfl) ?_
  refine lv_iconst (v := zI 0) hx hb dX5_slot_11 rfl ?_
  refine lv_iconst (v := zI 2) hx hb dX5_slot_12 rfl ?_
  refine pc_J (As := [.int (zI wh), .int (zI 0), .int (zI 2)]) (rest := []) M (c_X5_in l D cB cI cZ cM _ wh 0 2 (by first | assumption | omega) (by first | assumption | omega) (by first | assumption | omega)) gX5_slot_X5_in rfl hd_X5_in ⟨Nat.le_of_ble_eq_true rfl, Nat.le_of_ble_eq_true rfl⟩ hK hP [] rfl hl.1 rfl rfl (Nat.le_of_ble_eq_true rfl) dX5_slot_13 ⟨Nat.le_of_ble_eq_true rfl, Nat.le_of_ble_eq_true rfl⟩ (fun r_13 h_13 => ?_)
  subst h_13
  refine z_if_ne (tgt := 21) hx hb dX5_slot_16 (by decide) (zb_bd _) (fun c_16 => ?_) (fun c_16 => ?_)
  · skip
    have c_16 := zb_t c_16
    refine lv_iload_n hx hb dX5_slot_21 rfl (lv_at hl 2 rfl) ?_
    refine z_if_ne (tgt := 39) hx hb dX5_slot_22 (by decide) (by omega) (fun c_22 => ?_) (fun c_22 => ?_)
    · skip
      refine lv_aload_n hx hb dX5_slot_39 rfl (lv_at hl 0 rfl) ?_
      refine va_get (D := D) (ci := 5) (C := RX5) (T := TX5) (N := 19) hx hb hts inc_X5_slot_5 hown hK hP 0 rfl rfl 3 (by decide) (hts (.fieldLink RX5 13 "BedHouseModel" "plan" "[I") (by decide +kernel)) (fun _ h9 => h9) rfl dX5_slot_40 ?_
      refine lv_iconst (v := zI 2) hx hb dX5_slot_43 rfl ?_
      refine lv_iload_n hx hb dX5_slot_44 rfl (lv_at hl 2 rfl) ?_
      refine z_iadd hx hb dX5_slot_45 ?_
      refine lv_iconst (v := zI 1) hx hb dX5_slot_46 rfl ?_
      refine z_isub hx hb dX5_slot_47 ?_
      refine z_iald hx hb hK hP 1 1 rfl rfl (Nat.le_of_ble_eq_true rfl) dX5_slot_48 (by omega) ?_
      have hb2 : 0 ≤ f2 (2 + wh - 1) ∧ f2 (2 + wh - 1) < 256 := by rcases (show wh = 1 ∨ wh = 2 by omega) with rfl | rfl; exact hra; exact hsu
      refine lv_iload_n hx hb dX5_slot_49 rfl (lv_at hl 1 rfl) ?_
      refine z_ishr hx hb dX5_slot_50 (by omega) ?_
      refine lv_iconst (v := zI 1) hx hb dX5_slot_51 rfl ?_
      refine z_ibit hx hb dX5_slot_52 ?_
      exact pu_ret M dX5_slot_53 (congrArg zI (by rw [if_pos (And.intro c_7 c_16), if_neg (by omega)]))
    refine lv_aload_n hx hb dX5_slot_25 rfl (lv_at hl 0 rfl) ?_
    refine lv_aload_n hx hb dX5_slot_26 rfl (lv_at hl 0 rfl) ?_
    refine va_get (D := D) (ci := 5) (C := RX5) (T := TX5) (N := 19) hx hb hts inc_X5_slot_5 hown hK hP 0 rfl rfl 13 (by decide) (hts (.fieldLink RX5 26 "BedHouseModel" "now" "[I") (by decide +kernel)) (fun _ h9 => h9) rfl dX5_slot_27 ?_
    refine lv_iconst (v := zI 0) hx hb dX5_slot_30 rfl ?_
    refine z_iald hx hb hK hP 4 1 rfl rfl (Nat.le_of_ble_eq_true rfl) dX5_slot_31 (by omega) ?_
    refine lv_iload_n hx hb dX5_slot_32 rfl (lv_at hl 1 rfl) ?_
    refine pc_V (As := [.int (zI (f6 0)), .int (zI k)]) (rest := []) M (c_X5_panelAt l D cB cI cZ cM _ o0 o1 o2 o3 o4 o5 o6 o7 o8 o9 oz tr td g1 g2 g3 g4 g5 g6 g7 f2 (f6 0) k (by first | assumption | omega) (by first | assumption | omega) (by first | assumption | omega)) gX5_slot_X5_panelAt rfl ⟨rfl, hd_X5_panelAt⟩ ⟨Nat.le_of_ble_eq_true rfl, Nat.le_of_ble_eq_true rfl⟩ hK hP [0, 1] rfl 0 5 rfl rfl rfl hl.1 rfl rfl (Nat.le_of_ble_eq_true rfl) dX5_slot_33 ⟨Nat.le_of_ble_eq_true rfl, Nat.le_of_ble_eq_true rfl⟩ (fun r_33 h_33 => ?_)
    subst h_33
    refine lv_goto (tgt := 53) hx hb dX5_slot_36 (by decide) ?_
    exact pu_ret M dX5_slot_53 (congrArg zI (by rw [if_pos (And.intro c_7 c_16), if_pos (by omega)]))
  have c_16 := zb_f c_16
  refine lv_iconst (v := zI (-1)) hx hb dX5_slot_19 rfl ?_
  exact pu_ret M dX5_slot_20 (congrArg zI (by rw [if_neg (fun q => c_16 q.2)]))
set_option maxHeartbeats 4000000 in
set_option maxRecDepth 100000 in
theorem c_X5_told (l : Launch) (D : va_G) (cB cI cZ cM : ClassId) (Hp : Heap) (o0 : Nat) (o1 : Nat) (o2 : Nat) (o3 : Nat) (o4 : Nat) (o5 : Nat) (o6 : Nat) (o7 : Nat) (o8 : Nat) (o9 : Nat) (oz : Nat) (tr : Int64) (td : Int) (g1 : Int) (g2 : Int) (g3 : Int) (g4 : Int) (g5 : Int) (g6 : Int) (g7 : Int) (f2 : Int → Int) (f3 : Int → Int) (f5 : Int → Int) (f6 : Int → Int) (wh : Int) (hwh0 : -2147483648 ≤ wh ∧ wh < 2147483648) : cP l yX5_told wsX5_told 1 22 D (TYS cB cI cZ cM) [.ref o0, .int (zI wh)] [(o0, .inr (5, [.long tr, .ref o1, .int (zI td), .ref o2, .ref o3, .ref o4, .ref o5, .int (zI g1), .int (zI g2), .int (zI g3), .int (zI g4), .int (zI g5), .int (zI g6), .ref o6, .ref o7, .ref o8, .ref o9, .int (zI g7), .ref oz])), (o2, .inl (cI, 16, .inl (zia f2))), (o3, .inl (cI, 8, .inl (zia f3))), (o5, .inl (cI, 4, .inl (zia f5))), (o6, .inl (cI, 63, .inl (zia f6)))] Hp (fun r => r = zI (if 0 ≤ wh ∧ wh ≤ 3 then f2 (4 + wh) else -1)) := by
  refine pu_start (by decide) rfl (Nat.le_of_ble_eq_true rfl) ?_
  intro pg ev sx mm args below meth cd ls M hP hK hl
  obtain ⟨hx, hb, hr, hml, hown, hts, hlk, hN0⟩ := id M
  have hl : lv_has ls 2 [(0, .ref o0), (1, .int (zI wh))] := hl
  refine lv_iload_n hx hb dX5_told_0 rfl (lv_at hl 1 rfl) ?_
  refine lv_iconst (v := zI 0) hx hb dX5_told_1 rfl ?_
  refine lv_iconst (v := zI 3) hx hb dX5_told_2 rfl ?_
  refine pc_J (As := [.int (zI wh), .int (zI 0), .int (zI 3)]) (rest := []) M (c_X5_in l D cB cI cZ cM _ wh 0 3 (by first | assumption | omega) (by first | assumption | omega) (by first | assumption | omega)) gX5_told_X5_in rfl hd_X5_in ⟨Nat.le_of_ble_eq_true rfl, Nat.le_of_ble_eq_true rfl⟩ hK hP [] rfl hl.1 rfl rfl (Nat.le_of_ble_eq_true rfl) dX5_told_3 ⟨Nat.le_of_ble_eq_true rfl, Nat.le_of_ble_eq_true rfl⟩ (fun r_3 h_3 => ?_)
  subst h_3
  refine z_if_eq (tgt := 20) hx hb dX5_told_6 (by decide) (zb_bd _) (fun c_6 => ?_) (fun c_6 => ?_)
  · skip
    have c_6 := zb_f c_6
    refine lv_iconst (v := zI (-1)) hx hb dX5_told_20 rfl ?_
    exact pu_ret M dX5_told_21 (congrArg zI (by rw [if_neg c_6]))
  have c_6 := zb_t c_6
  refine lv_aload_n hx hb dX5_told_9 rfl (lv_at hl 0 rfl) ?_
  refine va_get (D := D) (ci := 5) (C := RX5) (T := TX5) (N := 19) hx hb hts inc_X5_told_5 hown hK hP 0 rfl rfl 3 (by decide) (hts (.fieldLink RX5 13 "BedHouseModel" "plan" "[I") (by decide +kernel)) (fun _ h9 => h9) rfl dX5_told_10 ?_
  refine lv_iconst (v := zI 4) hx hb dX5_told_13 rfl ?_
  refine lv_iload_n hx hb dX5_told_14 rfl (lv_at hl 1 rfl) ?_
  refine z_iadd hx hb dX5_told_15 ?_
  refine z_iald hx hb hK hP 1 1 rfl rfl (Nat.le_of_ble_eq_true rfl) dX5_told_16 (by omega) ?_
  refine lv_goto (tgt := 21) hx hb dX5_told_17 (by decide) ?_
  exact pu_ret M dX5_told_21 (congrArg zI (by rw [if_pos c_6]))
set_option maxHeartbeats 4000000 in
set_option maxRecDepth 100000 in
theorem c_X5_beam (l : Launch) (D : va_G) (cB cI cZ cM : ClassId) (Hp : Heap) (o0 : Nat) (o1 : Nat) (o2 : Nat) (o3 : Nat) (o4 : Nat) (o5 : Nat) (o6 : Nat) (o7 : Nat) (o8 : Nat) (o9 : Nat) (oz : Nat) (tr : Int64) (td : Int) (g1 : Int) (g2 : Int) (g3 : Int) (g4 : Int) (g5 : Int) (g6 : Int) (g7 : Int) (f2 : Int → Int) (f3 : Int → Int) (f5 : Int → Int) (f6 : Int → Int) (k : Int) (hp2 : okR f2 f3 f5) (hn6 : okN f2 f6) (hk0 : -2147483648 ≤ k ∧ k < 2147483648) : cP l yX5_beam wsX5_beam 3 69 D (TYS cB cI cZ cM) [.ref o0, .int (zI k)] [(o0, .inr (5, [.long tr, .ref o1, .int (zI td), .ref o2, .ref o3, .ref o4, .ref o5, .int (zI g1), .int (zI g2), .int (zI g3), .int (zI g4), .int (zI g5), .int (zI g6), .ref o6, .ref o7, .ref o8, .ref o9, .int (zI g7), .ref oz])), (o2, .inl (cI, 16, .inl (zia f2))), (o3, .inl (cI, 8, .inl (zia f3))), (o5, .inl (cI, 4, .inl (zia f5))), (o6, .inl (cI, 63, .inl (zia f6)))] Hp (fun r => r = zI (if 0 ≤ k ∧ k < f2 1 then zb (boF (slI (f2 0) (f6 0)) f3 (f5 k) (f2 0).toNat 0 = true) else -1)) := by
  refine pu_start (by decide) rfl (Nat.le_of_ble_eq_true rfl) ?_
  intro pg ev sx mm args below meth cd ls M hP hK hl
  obtain ⟨hx, hb, hr, hml, hown, hts, hlk, hN0⟩ := id M
  have hl : lv_has ls 2 [(0, .ref o0), (1, .int (zI k))] := hl
  obtain ⟨hPm, hB1, hra, hsu, hvw, hno, hdn6, hha7, hso, hbm⟩ := id hp2
  obtain ⟨hhm, hdy, hac, hlk, hmn, hcl⟩ := id hn6
  refine lv_iload_n hx hb dX5_beam_0 rfl (lv_at hl 1 rfl) ?_
  refine lv_iconst (v := zI 0) hx hb dX5_beam_1 rfl ?_
  refine lv_aload_n hx hb dX5_beam_2 rfl (lv_at hl 0 rfl) ?_
  refine va_get (D := D) (ci := 5) (C := RX5) (T := TX5) (N := 19) hx hb hts inc_X5_beam_5 hown hK hP 0 rfl rfl 3 (by decide) (hts (.fieldLink RX5 13 "BedHouseModel" "plan" "[I") (by decide +kernel)) (fun _ h9 => h9) rfl dX5_beam_3 ?_
  refine lv_iconst (v := zI 1) hx hb dX5_beam_6 rfl ?_
  refine z_iald hx hb hK hP 1 1 rfl rfl (Nat.le_of_ble_eq_true rfl) dX5_beam_7 (by omega) ?_
  refine lv_iconst (v := zI 1) hx hb dX5_beam_8 rfl ?_
  refine z_isub hx hb dX5_beam_9 ?_
  refine pc_J (As := [.int (zI k), .int (zI 0), .int (zI ((f2 1) - 1))]) (rest := []) M (c_X5_in l D cB cI cZ cM _ k 0 ((f2 1) - 1) (by first | assumption | omega) (by first | assumption | omega) (by first | assumption | omega)) gX5_beam_X5_in rfl hd_X5_in ⟨Nat.le_of_ble_eq_true rfl, Nat.le_of_ble_eq_true rfl⟩ hK hP [] rfl hl.1 rfl rfl (Nat.le_of_ble_eq_true rfl) dX5_beam_10 ⟨Nat.le_of_ble_eq_true rfl, Nat.le_of_ble_eq_true rfl⟩ (fun r_10 h_10 => ?_)
  subst h_10
  refine z_if_eq (tgt := 38) hx hb dX5_beam_13 (by decide) (zb_bd _) (fun c_13 => ?_) (fun c_13 => ?_)
  · skip
    have c_13 := zb_f c_13
    refine lv_iconst (v := zI (-1)) hx hb dX5_beam_38 rfl ?_
    exact pu_ret M dX5_beam_39 (congrArg zI (by rw [if_neg (by omega)]))
  have c_13 := zb_t c_13
  refine lv_aload_n hx hb dX5_beam_16 rfl (lv_at hl 0 rfl) ?_
  refine lv_aload_n hx hb dX5_beam_17 rfl (lv_at hl 0 rfl) ?_
  refine va_get (D := D) (ci := 5) (C := RX5) (T := TX5) (N := 19) hx hb hts inc_X5_beam_5 hown hK hP 0 rfl rfl 13 (by decide) (hts (.fieldLink RX5 26 "BedHouseModel" "now" "[I") (by decide +kernel)) (fun _ h9 => h9) rfl dX5_beam_18 ?_
  refine lv_iconst (v := zI 0) hx hb dX5_beam_21 rfl ?_
  refine z_iald hx hb hK hP 4 1 rfl rfl (Nat.le_of_ble_eq_true rfl) dX5_beam_22 (by omega) ?_
  refine lv_iload_n hx hb dX5_beam_23 rfl (lv_at hl 1 rfl) ?_
  refine pc_V (As := [.int (zI (f6 0)), .int (zI k)]) (rest := []) M (c_X5_isBorne l D cB cI cZ cM _ o0 o1 o2 o3 o4 o5 o6 o7 o8 o9 oz tr td g1 g2 g3 g4 g5 g6 g7 f2 f3 f5 (f6 0) k (by first | assumption | omega) (by first | assumption | omega) (by first | assumption | omega) (by first | assumption | omega) (by omega)) gX5_beam_X5_isBorne rfl ⟨rfl, hd_X5_isBorne⟩ ⟨Nat.le_of_ble_eq_true rfl, Nat.le_of_ble_eq_true rfl⟩ hK hP [0, 1, 2, 3] rfl 0 5 rfl rfl rfl hl.1 rfl rfl (Nat.le_of_ble_eq_true rfl) dX5_beam_24 ⟨Nat.le_of_ble_eq_true rfl, Nat.le_of_ble_eq_true rfl⟩ (fun r_24 h_24 => ?_)
  subst h_24
  refine z_if_eq (tgt := 34) hx hb dX5_beam_27 (by decide) (zb_bd _) (fun c_27 => ?_) (fun c_27 => ?_)
  · skip
    have c_27 := zb_f c_27
    refine lv_iconst (v := zI 0) hx hb dX5_beam_34 rfl ?_
    refine lv_goto (tgt := 39) hx hb dX5_beam_35 (by decide) ?_
    exact pu_ret M dX5_beam_39 (congrArg zI (by rw [if_pos (by omega)]; exact (zb_0 c_27).symm))
  have c_27 := zb_t c_27
  refine lv_iconst (v := zI 1) hx hb dX5_beam_30 rfl ?_
  refine lv_goto (tgt := 39) hx hb dX5_beam_31 (by decide) ?_
  exact pu_ret M dX5_beam_39 (congrArg zI (by rw [if_pos (by omega)]; exact (zb_1 c_27).symm))
set_option maxHeartbeats 4000000 in
set_option maxRecDepth 100000 in
theorem c_X5_act (l : Launch) (D : va_G) (cB cI cZ cM : ClassId) (Hp : Heap) (o0 : Nat) (o1 : Nat) (o2 : Nat) (o3 : Nat) (o4 : Nat) (o5 : Nat) (o6 : Nat) (o7 : Nat) (o8 : Nat) (o9 : Nat) (oz : Nat) (tr : Int64) (td : Int) (g1 : Int) (g2 : Int) (g3 : Int) (g4 : Int) (g5 : Int) (g6 : Int) (g7 : Int) (f2 : Int → Int) (f3 : Int → Int) (f5 : Int → Int) (f6 : Int → Int) (h : Int) (hp2 : okR f2 f3 f5) (hn6 : okN f2 f6) (hh : 0 ≤ h ∧ h < pw9 (f2 0)) : cWi l yX5_act wsX5_act (rmW 4 0 0 94) D (TYS cB cI cZ cM) [.ref o0, .int (zI h)] [(o0, .inr (5, [.long tr, .ref o1, .int (zI td), .ref o2, .ref o3, .ref o4, .ref o5, .int (zI g1), .int (zI g2), .int (zI g3), .int (zI g4), .int (zI g5), .int (zI g6), .ref o6, .ref o7, .ref o8, .ref o9, .int (zI g7), .ref oz])), (o2, .inl (cI, 16, .inl (zia f2))), (o3, .inl (cI, 8, .inl (zia f3))), (o5, .inl (cI, 4, .inl (zia f5))), (o6, .inl (cI, 63, .inl (zia f6)))] Hp (fun (r : Int32) (u : Int → Int) => r = zI ((acM f2 f3 f5 f6 h).1) ∧ (u = (acM f2 f3 f5 f6 h).2)) (fun (u : Int → Int) => [(o0, .inr (5, [.long tr, .ref o1, .int (zI td), .ref o2, .ref o3, .ref o4, .ref o5, .int (zI g1), .int (zI g2), .int (zI g3), .int (zI g4), .int (zI g5), .int (zI g6), .ref o6, .ref o7, .ref o8, .ref o9, .int (zI g7), .ref oz])), (o2, .inl (cI, 16, .inl (zia f2))), (o3, .inl (cI, 8, .inl (zia f3))), (o5, .inl (cI, 4, .inl (zia f5))), (o6, .inl (cI, 63, .inl (zia u)))]) 0 0 := by
  refine wr_starti (by decide) rfl (Nat.le_of_ble_eq_true rfl) ?_
  intro pg ev sx mm args below meth cd ls A M hP hD hS hA hK hl
  obtain ⟨hx, hb, hr, hml, hown, hts, hlk, hN0⟩ := id M
  have hl : lv_has ls 2 [(0, .ref o0), (1, .int (zI h))] := hl
  refine W.widen (k := 0) (n := 0) (Nat.zero_le _) (Nat.zero_le _) ?_
  obtain ⟨hPm, hB1, hra, hsu, hvw, hno, hdn6, hha7, hso, hbm⟩ := id hp2
  obtain ⟨hhm, hdy, hac, hlk, hmn, hcl⟩ := id hn6
  refine lv_aload_n hx hb dX5_act_0 rfl (lv_at hl 0 rfl) ?_
  refine va_get (D := D) (ci := 5) (C := RX5) (T := TX5) (N := 19) hx hb hts inc_X5_act_5 hown hK hP 0 rfl rfl 13 (by decide) (hts (.fieldLink RX5 26 "BedHouseModel" "now" "[I") (by decide +kernel)) (fun _ h9 => h9) rfl dX5_act_1 ?_
  refine lv_iconst (v := zI 2) hx hb dX5_act_4 rfl ?_
  refine z_iald hx hb hK hP 4 1 rfl rfl (Nat.le_of_ble_eq_true rfl) dX5_act_5 (by omega) ?_
  refine lv_aload_n hx hb dX5_act_6 rfl (lv_at hl 0 rfl) ?_
  refine va_get (D := D) (ci := 5) (C := RX5) (T := TX5) (N := 19) hx hb hts inc_X5_act_5 hown hK hP 0 rfl rfl 3 (by decide) (hts (.fieldLink RX5 13 "BedHouseModel" "plan" "[I") (by decide +kernel)) (fun _ h9 => h9) rfl dX5_act_7 ?_
  refine lv_bipush (v := zI 7) hx hb dX5_act_10 (by decide) ?_
  refine z_iald hx hb hK hP 1 1 rfl rfl (Nat.le_of_ble_eq_true rfl) dX5_act_12 (by omega) ?_
  refine z_icmp_eq (tgt := 24) hx hb dX5_act_13 (by decide) (by omega) (fun c_13 => ?_) (fun c_13 => ?_)
  · skip
    refine lv_bipush (v := zI (-2)) hx hb dX5_act_24 (by decide) ?_
    have hit : acM f2 f3 f5 f6 h = (-2, f6) := by unfold acM; rw [if_pos (Or.inl c_13)]
    exact wr_reti M dX5_act_26 (u := f6) ⟨(congrArg zI (by rw [hit])), by rw [hit]⟩ hP hD hS
  refine lv_aload_n hx hb dX5_act_16 rfl (lv_at hl 0 rfl) ?_
  refine lv_iload_n hx hb dX5_act_17 rfl (lv_at hl 1 rfl) ?_
  refine pc_V (As := [.int (zI h)]) (rest := []) M (c_X5_isLawful l D cB cI cZ cM _ o0 o1 o2 o3 o4 o5 o6 o7 o8 o9 oz tr td g1 g2 g3 g4 g5 g6 g7 f2 f3 f5 h (by first | assumption | omega) (by first | assumption | omega) (by first | assumption | omega) (by first | assumption | omega) (by first | assumption | omega) (by first | assumption | omega)) gX5_act_X5_isLawful rfl ⟨rfl, hd_X5_isLawful⟩ ⟨Nat.le_of_ble_eq_true rfl, Nat.le_of_ble_eq_true rfl⟩ hK hP [0, 1, 2, 3] rfl 0 5 rfl rfl rfl hl.1 rfl rfl (Nat.le_of_ble_eq_true rfl) dX5_act_18 ⟨Nat.le_of_ble_eq_true rfl, Nat.le_of_ble_eq_true rfl⟩ (fun r_18 h_18 => ?_)
  subst h_18
  refine z_if_ne (tgt := 27) hx hb dX5_act_21 (by decide) (zb_bd _) (fun c_21 => ?_) (fun c_21 => ?_)
  · skip
    have c_21 := zb_t c_21
    refine lv_aload_n hx hb dX5_act_27 rfl (lv_at hl 0 rfl) ?_
    refine va_get (D := D) (ci := 5) (C := RX5) (T := TX5) (N := 19) hx hb hts inc_X5_act_5 hown hK hP 0 rfl rfl 13 (by decide) (hts (.fieldLink RX5 26 "BedHouseModel" "now" "[I") (by decide +kernel)) (fun _ h9 => h9) rfl dX5_act_28 ?_
    refine lv_iconst (v := zI 0) hx hb dX5_act_31 rfl ?_
    refine lv_iload_n hx hb dX5_act_32 rfl (lv_at hl 1 rfl) ?_
    refine z_iast (ws' := [(o0, .inr (5, [.long tr, .ref o1, .int (zI td), .ref o2, .ref o3, .ref o4, .ref o5, .int (zI g1), .int (zI g2), .int (zI g3), .int (zI g4), .int (zI g5), .int (zI g6), .ref o6, .ref o7, .ref o8, .ref o9, .int (zI g7), .ref oz])), (o2, .inl (cI, 16, .inl (zia f2))), (o3, .inl (cI, 8, .inl (zia f3))), (o5, .inl (cI, 4, .inl (zia f5))), (o6, .inl (cI, 63, .inl (zia (zup f6 0 h))))]) hx hb hK hP hD hS 4 1 rfl rfl (Nat.le_of_ble_eq_true rfl) dX5_act_33 rfl (by omega) (fun H locs hP hD hS => ?_)
    refine lv_aload_n hx hb dX5_act_34 rfl (lv_at hl 0 rfl) ?_
    refine va_get (D := D) (ci := 5) (C := RX5) (T := TX5) (N := 19) hx hb hts inc_X5_act_5 hown hK hP 0 rfl rfl 13 (by decide) (hts (.fieldLink RX5 26 "BedHouseModel" "now" "[I") (by decide +kernel)) (fun _ h9 => h9) rfl dX5_act_35 ?_
    refine lv_iconst (v := zI 2) hx hb dX5_act_38 rfl ?_
    refine lv_dup2_11 hx hb dX5_act_39 rfl rfl ?_
    refine z_iald hx hb hK hP 4 1 rfl rfl (Nat.le_of_ble_eq_true rfl) dX5_act_40 (by omega) ?_
    refine lv_iconst (v := zI 1) hx hb dX5_act_41 rfl ?_
    refine z_iadd hx hb dX5_act_42 ?_
    refine z_iast (ws' := [(o0, .inr (5, [.long tr, .ref o1, .int (zI td), .ref o2, .ref o3, .ref o4, .ref o5, .int (zI g1), .int (zI g2), .int (zI g3), .int (zI g4), .int (zI g5), .int (zI g6), .ref o6, .ref o7, .ref o8, .ref o9, .int (zI g7), .ref oz])), (o2, .inl (cI, 16, .inl (zia f2))), (o3, .inl (cI, 8, .inl (zia f3))), (o5, .inl (cI, 4, .inl (zia f5))), (o6, .inl (cI, 63, .inl (zia (zup (zup f6 0 h) 2 (((zup f6 0 h) 2) + 1)))))]) hx hb hK hP hD hS 4 1 rfl rfl (Nat.le_of_ble_eq_true rfl) dX5_act_43 rfl (by omega) (fun H locs hP hD hS => ?_)
    refine lv_aload_n hx hb dX5_act_44 rfl (lv_at hl 0 rfl) ?_
    refine lv_iload_n hx hb dX5_act_45 rfl (lv_at hl 1 rfl) ?_
    refine pc_V (As := [.int (zI h)]) (rest := []) M (c_X5_lying l D cB cI cZ cM _ o0 o1 o2 o3 o4 o5 o6 o7 o8 o9 oz tr td g1 g2 g3 g4 g5 g6 g7 f2 h (by first | assumption | omega) (by first | assumption | omega)) gX5_act_X5_lying rfl ⟨rfl, hd_X5_lying⟩ ⟨Nat.le_of_ble_eq_true rfl, Nat.le_of_ble_eq_true rfl⟩ hK hP [0, 1] rfl 0 5 rfl rfl rfl hl.1 rfl rfl (Nat.le_of_ble_eq_true rfl) dX5_act_46 ⟨Nat.le_of_ble_eq_true rfl, Nat.le_of_ble_eq_true rfl⟩ (fun r_46 h_46 => ?_)
    subst h_46
    have hit : acM f2 f3 f5 f6 h = (lyC (slI (f2 0) h) (f2 0).toNat 0, zup (zup f6 0 h) 2 (zup f6 0 h 2 + 1)) := by unfold acM; rw [if_neg (fun q => q.elim c_13 (fun q => q c_21))]
    exact wr_reti M dX5_act_49 (u := zup (zup f6 0 h) 2 (zup f6 0 h 2 + 1)) ⟨(congrArg zI (by rw [hit])), by rw [hit]⟩ hP hD hS
  have c_21 := zb_f c_21
  refine lv_bipush (v := zI (-2)) hx hb dX5_act_24 (by decide) ?_
  have hit : acM f2 f3 f5 f6 h = (-2, f6) := by unfold acM; rw [if_pos (Or.inr c_21)]
  exact wr_reti M dX5_act_26 (u := f6) ⟨(congrArg zI (by rw [hit])), by rw [hit]⟩ hP hD hS
set_option maxHeartbeats 4000000 in
set_option maxRecDepth 100000 in
theorem c_X5_down (l : Launch) (D : va_G) (cB cI cZ cM : ClassId) (Hp : Heap) (o0 : Nat) (o1 : Nat) (o2 : Nat) (o3 : Nat) (o4 : Nat) (o5 : Nat) (o6 : Nat) (o7 : Nat) (o8 : Nat) (o9 : Nat) (oz : Nat) (tr : Int64) (td : Int) (g1 : Int) (g2 : Int) (g3 : Int) (g4 : Int) (g5 : Int) (g6 : Int) (g7 : Int) (f2 : Int → Int) (f3 : Int → Int) (f5 : Int → Int) (f6 : Int → Int) (p : Int) (hp2 : okR f2 f3 f5) (hn6 : okN f2 f6) (hp0 : -2147483648 ≤ p ∧ p < 2147483648) : cWi l yX5_down wsX5_down (rmW 5 0 0 115) D (TYS cB cI cZ cM) [.ref o0, .int (zI p)] [(o0, .inr (5, [.long tr, .ref o1, .int (zI td), .ref o2, .ref o3, .ref o4, .ref o5, .int (zI g1), .int (zI g2), .int (zI g3), .int (zI g4), .int (zI g5), .int (zI g6), .ref o6, .ref o7, .ref o8, .ref o9, .int (zI g7), .ref oz])), (o2, .inl (cI, 16, .inl (zia f2))), (o3, .inl (cI, 8, .inl (zia f3))), (o5, .inl (cI, 4, .inl (zia f5))), (o6, .inl (cI, 63, .inl (zia f6)))] Hp (fun (r : Int32) (u : Int → Int) => r = zI ((dnM f2 f3 f5 f6 p).1) ∧ (u = (dnM f2 f3 f5 f6 p).2)) (fun (u : Int → Int) => [(o0, .inr (5, [.long tr, .ref o1, .int (zI td), .ref o2, .ref o3, .ref o4, .ref o5, .int (zI g1), .int (zI g2), .int (zI g3), .int (zI g4), .int (zI g5), .int (zI g6), .ref o6, .ref o7, .ref o8, .ref o9, .int (zI g7), .ref oz])), (o2, .inl (cI, 16, .inl (zia f2))), (o3, .inl (cI, 8, .inl (zia f3))), (o5, .inl (cI, 4, .inl (zia f5))), (o6, .inl (cI, 63, .inl (zia u)))]) 0 0 := by
  refine wr_starti (by decide) rfl (Nat.le_of_ble_eq_true rfl) ?_
  intro pg ev sx mm args below meth cd ls A M hP hD hS hA hK hl
  obtain ⟨hx, hb, hr, hml, hown, hts, hlk, hN0⟩ := id M
  have hl : lv_has ls 2 [(0, .ref o0), (1, .int (zI p))] := hl
  refine W.widen (k := 0) (n := 0) (Nat.zero_le _) (Nat.zero_le _) ?_
  obtain ⟨hPm, hB1, hra, hsu, hvw, hno, hdn6, hha7, hso, hbm⟩ := id hp2
  obtain ⟨hhm, hdy, hac, hlk, hmn, hcl⟩ := id hn6
  have h9r := pw9_rng (n := f2 0) (by omega)
  refine lv_aload_n hx hb dX5_down_0 rfl (lv_at hl 0 rfl) ?_
  refine lv_iload_n hx hb dX5_down_1 rfl (lv_at hl 1 rfl) ?_
  refine pc_V (As := [.int (zI p)]) (rest := []) M (c_X5_isPanel l D cB cI cZ cM _ o0 o1 o2 o3 o4 o5 o6 o7 o8 o9 oz tr td g1 g2 g3 g4 g5 g6 g7 f2 p (by first | assumption | omega) (by first | assumption | omega)) gX5_down_X5_isPanel rfl ⟨rfl, hd_X5_isPanel⟩ ⟨Nat.le_of_ble_eq_true rfl, Nat.le_of_ble_eq_true rfl⟩ hK hP [0, 1] rfl 0 5 rfl rfl rfl hl.1 rfl rfl (Nat.le_of_ble_eq_true rfl) dX5_down_2 ⟨Nat.le_of_ble_eq_true rfl, Nat.le_of_ble_eq_true rfl⟩ (fun r_2 h_2 => ?_)
  subst h_2
  refine z_if_ne (tgt := 10) hx hb dX5_down_5 (by decide) (zb_bd _) (fun c_5 => ?_) (fun c_5 => ?_)
  · skip
    have c_5 := zb_t c_5
    refine lv_aload_n hx hb dX5_down_10 rfl (lv_at hl 0 rfl) ?_
    refine lv_aload_n hx hb dX5_down_11 rfl (lv_at hl 0 rfl) ?_
    refine va_get (D := D) (ci := 5) (C := RX5) (T := TX5) (N := 19) hx hb hts inc_X5_down_5 hown hK hP 0 rfl rfl 13 (by decide) (hts (.fieldLink RX5 26 "BedHouseModel" "now" "[I") (by decide +kernel)) (fun _ h9 => h9) rfl dX5_down_12 ?_
    refine lv_iconst (v := zI 0) hx hb dX5_down_15 rfl ?_
    refine z_iald hx hb hK hP 4 1 rfl rfl (Nat.le_of_ble_eq_true rfl) dX5_down_16 (by omega) ?_
    refine lv_iload_n hx hb dX5_down_17 rfl (lv_at hl 1 rfl) ?_
    refine pc_V (As := [.int (zI (f6 0)), .int (zI p)]) (rest := []) M (c_X5_slotIn l D cB cI cZ cM _ o0 o1 o2 o3 o4 o5 o6 o7 o8 o9 oz tr td g1 g2 g3 g4 g5 g6 g7 f2 (f6 0) p (by first | assumption | omega) (by first | assumption | omega) (by first | assumption | omega)) gX5_down_X5_slotIn rfl ⟨rfl, hd_X5_slotIn⟩ ⟨Nat.le_of_ble_eq_true rfl, Nat.le_of_ble_eq_true rfl⟩ hK hP [0, 1] rfl 0 5 rfl rfl rfl hl.1 rfl rfl (Nat.le_of_ble_eq_true rfl) dX5_down_18 ⟨Nat.le_of_ble_eq_true rfl, Nat.le_of_ble_eq_true rfl⟩ (fun r_18 h_18 => ?_)
    subst h_18
    have hsl := slI_rng (f2 0) p hhm.1
    refine lv_bipush (v := zI 8) hx hb dX5_down_21 (by decide) ?_
    refine z_icmp_ne (tgt := 31) hx hb dX5_down_23 (by decide) (by omega) (fun c_23 => ?_) (fun c_23 => ?_)
    · skip
      refine lv_aload_n hx hb dX5_down_31 rfl (lv_at hl 0 rfl) ?_
      refine lv_aload_n hx hb dX5_down_32 rfl (lv_at hl 0 rfl) ?_
      refine lv_aload_n hx hb dX5_down_33 rfl (lv_at hl 0 rfl) ?_
      refine va_get (D := D) (ci := 5) (C := RX5) (T := TX5) (N := 19) hx hb hts inc_X5_down_5 hown hK hP 0 rfl rfl 13 (by decide) (hts (.fieldLink RX5 26 "BedHouseModel" "now" "[I") (by decide +kernel)) (fun _ h9 => h9) rfl dX5_down_34 ?_
      refine lv_iconst (v := zI 0) hx hb dX5_down_37 rfl ?_
      refine z_iald hx hb hK hP 4 1 rfl rfl (Nat.le_of_ble_eq_true rfl) dX5_down_38 (by omega) ?_
      refine lv_iload_n hx hb dX5_down_39 rfl (lv_at hl 1 rfl) ?_
      refine lv_bipush (v := zI 8) hx hb dX5_down_40 (by decide) ?_
      refine pc_V (As := [.int (zI (f6 0)), .int (zI p), .int (zI 8)]) (rest := [.ref o0]) M (c_X5_with l D cB cI cZ cM _ o0 o1 o2 o3 o4 o5 o6 o7 o8 o9 oz tr td g1 g2 g3 g4 g5 g6 g7 f2 (f6 0) p 8 (by first | assumption | omega) (by first | assumption | omega) (by first | assumption | omega)) gX5_down_X5_with rfl ⟨rfl, hd_X5_with⟩ ⟨Nat.le_of_ble_eq_true rfl, Nat.le_of_ble_eq_true rfl⟩ hK hP [0, 1] rfl 0 5 rfl rfl rfl hl.1 rfl rfl (Nat.le_of_ble_eq_true rfl) dX5_down_42 ⟨Nat.le_of_ble_eq_true rfl, Nat.le_of_ble_eq_true rfl⟩ (fun r_42 h_42 => ?_)
      subst h_42
      have hwt := wtI_rng (k := 8) hPm.2 hhm c_5 (by omega)
      refine wc_Vi (As := [.int (zI (wtI (f2 0) (f6 0) p 8))]) (rest := []) (wr := []) (ws' := (fun u_45 : Int → Int => [(o0, .inr (5, [.long tr, .ref o1, .int (zI td), .ref o2, .ref o3, .ref o4, .ref o5, .int (zI g1), .int (zI g2), .int (zI g3), .int (zI g4), .int (zI g5), .int (zI g6), .ref o6, .ref o7, .ref o8, .ref o9, .int (zI g7), .ref oz])), (o2, .inl (cI, 16, .inl (zia f2))), (o3, .inl (cI, 8, .inl (zia f3))), (o5, .inl (cI, 4, .inl (zia f5))), (o6, .inl (cI, 63, .inl (zia u_45)))])) M (c_X5_act l D cB cI cZ cM _ o0 o1 o2 o3 o4 o5 o6 o7 o8 o9 oz tr td g1 g2 g3 g4 g5 g6 g7 f2 f3 f5 f6 (wtI (f2 0) (f6 0) p 8) (by first | assumption | omega) (by first | assumption | omega) (hwt)) gX5_down_X5_act rfl ⟨rfl, hd_X5_act⟩ ⟨Nat.le_of_ble_eq_true rfl, Nat.le_of_ble_eq_true rfl⟩ hK hP hD hS hA [0, 1, 2, 3, 4] [] [0, 1, 2, 3, 4] rfl rfl (by decide) (by decide) (by decide) (fun _ => rfl) 0 5 rfl rfl rfl hl.1 rfl rfl (Nat.le_of_ble_eq_true rfl) dX5_down_45 ⟨Nat.le_of_ble_eq_true rfl, Nat.le_of_ble_eq_true rfl⟩ (by decide) (fun r_45 u_45 H locs h_45 hP hD hS => ?_)
      obtain ⟨hz_45, h_45⟩ := h_45
      subst hz_45
      have hit : dnM f2 f3 f5 f6 p = ((acM f2 f3 f5 f6 (wtI (f2 0) (f6 0) p 8)).1, u_45) := by unfold dnM; rw [if_pos c_5, if_neg c_23, h_45]
      exact wr_reti M dX5_down_48 (u := u_45) ⟨(congrArg zI (by rw [hit])), by rw [hit]⟩ hP hD hS
    refine lv_bipush (v := zI (-2)) hx hb dX5_down_26 (by decide) ?_
    refine lv_goto (tgt := 48) hx hb dX5_down_28 (by decide) ?_
    have hit : dnM f2 f3 f5 f6 p = (-2, f6) := by unfold dnM; rw [if_pos c_5, if_pos c_23]
    exact wr_reti M dX5_down_48 (u := f6) ⟨(congrArg zI (by rw [hit])), by rw [hit]⟩ hP hD hS
  have c_5 := zb_f c_5
  refine lv_iconst (v := zI (-1)) hx hb dX5_down_8 rfl ?_
  have hit : dnM f2 f3 f5 f6 p = (-1, f6) := by unfold dnM; rw [if_neg c_5]
  exact wr_reti M dX5_down_9 (u := f6) ⟨(congrArg zI (by rw [hit])), by rw [hit]⟩ hP hD hS
set_option maxHeartbeats 4000000 in
set_option maxRecDepth 100000 in
theorem c_X5_up (l : Launch) (D : va_G) (cB cI cZ cM : ClassId) (Hp : Heap) (o0 : Nat) (o1 : Nat) (o2 : Nat) (o3 : Nat) (o4 : Nat) (o5 : Nat) (o6 : Nat) (o7 : Nat) (o8 : Nat) (o9 : Nat) (oz : Nat) (tr : Int64) (td : Int) (g1 : Int) (g2 : Int) (g3 : Int) (g4 : Int) (g5 : Int) (g6 : Int) (g7 : Int) (f2 : Int → Int) (f3 : Int → Int) (f5 : Int → Int) (f6 : Int → Int) (p : Int) (k : Int) (hp2 : okR f2 f3 f5) (hn6 : okN f2 f6) (hp0 : -2147483648 ≤ p ∧ p < 2147483648) (hk0 : -2147483648 ≤ k ∧ k < 2147483648) : cWi l yX5_up wsX5_up (rmW 5 0 0 115) D (TYS cB cI cZ cM) [.ref o0, .int (zI p), .int (zI k)] [(o0, .inr (5, [.long tr, .ref o1, .int (zI td), .ref o2, .ref o3, .ref o4, .ref o5, .int (zI g1), .int (zI g2), .int (zI g3), .int (zI g4), .int (zI g5), .int (zI g6), .ref o6, .ref o7, .ref o8, .ref o9, .int (zI g7), .ref oz])), (o2, .inl (cI, 16, .inl (zia f2))), (o3, .inl (cI, 8, .inl (zia f3))), (o5, .inl (cI, 4, .inl (zia f5))), (o6, .inl (cI, 63, .inl (zia f6)))] Hp (fun (r : Int32) (u : Int → Int) => r = zI ((upM f2 f3 f5 f6 p k).1) ∧ (u = (upM f2 f3 f5 f6 p k).2)) (fun (u : Int → Int) => [(o0, .inr (5, [.long tr, .ref o1, .int (zI td), .ref o2, .ref o3, .ref o4, .ref o5, .int (zI g1), .int (zI g2), .int (zI g3), .int (zI g4), .int (zI g5), .int (zI g6), .ref o6, .ref o7, .ref o8, .ref o9, .int (zI g7), .ref oz])), (o2, .inl (cI, 16, .inl (zia f2))), (o3, .inl (cI, 8, .inl (zia f3))), (o5, .inl (cI, 4, .inl (zia f5))), (o6, .inl (cI, 63, .inl (zia u)))]) 0 0 := by
  refine wr_starti (by decide) rfl (Nat.le_of_ble_eq_true rfl) ?_
  intro pg ev sx mm args below meth cd ls A M hP hD hS hA hK hl
  obtain ⟨hx, hb, hr, hml, hown, hts, hlk, hN0⟩ := id M
  have hl : lv_has ls 3 [(0, .ref o0), (1, .int (zI p)), (2, .int (zI k))] := hl
  refine W.widen (k := 0) (n := 0) (Nat.zero_le _) (Nat.zero_le _) ?_
  obtain ⟨hPm, hB1, hra, hsu, hvw, hno, hdn6, hha7, hso, hbm⟩ := id hp2
  obtain ⟨hhm, hdy, hac, hlk, hmn, hcl⟩ := id hn6
  have h9r := pw9_rng (n := f2 0) (by omega)
  refine lv_aload_n hx hb dX5_up_0 rfl (lv_at hl 0 rfl) ?_
  refine lv_iload_n hx hb dX5_up_1 rfl (lv_at hl 1 rfl) ?_
  refine pc_V (As := [.int (zI p)]) (rest := []) M (c_X5_isPanel l D cB cI cZ cM _ o0 o1 o2 o3 o4 o5 o6 o7 o8 o9 oz tr td g1 g2 g3 g4 g5 g6 g7 f2 p (by first | assumption | omega) (by first | assumption | omega)) gX5_up_X5_isPanel rfl ⟨rfl, hd_X5_isPanel⟩ ⟨Nat.le_of_ble_eq_true rfl, Nat.le_of_ble_eq_true rfl⟩ hK hP [0, 1] rfl 0 5 rfl rfl rfl hl.1 rfl rfl (Nat.le_of_ble_eq_true rfl) dX5_up_2 ⟨Nat.le_of_ble_eq_true rfl, Nat.le_of_ble_eq_true rfl⟩ (fun r_2 h_2 => ?_)
  subst h_2
  refine z_if_eq (tgt := 18) hx hb dX5_up_5 (by decide) (zb_bd _) (fun c_5 => ?_) (fun c_5 => ?_)
  · skip
    have c_5 := zb_f c_5
    refine lv_iconst (v := zI (-1)) hx hb dX5_up_18 rfl ?_
    have hit : upM f2 f3 f5 f6 p k = (-1, f6) := by unfold upM; rw [if_neg (fun q => c_5 q.1)]
    exact wr_reti M dX5_up_19 (u := f6) ⟨(congrArg zI (by rw [hit])), by rw [hit]⟩ hP hD hS
  have c_5 := zb_t c_5
  refine lv_iload_n hx hb dX5_up_8 rfl (lv_at hl 2 rfl) ?_
  refine lv_iconst (v := zI 0) hx hb dX5_up_9 rfl ?_
  refine lv_bipush (v := zI 7) hx hb dX5_up_10 (by decide) ?_
  refine pc_J (As := [.int (zI k), .int (zI 0), .int (zI 7)]) (rest := []) M (c_X5_in l D cB cI cZ cM _ k 0 7 (by first | assumption | omega) (by first | assumption | omega) (by first | assumption | omega)) gX5_up_X5_in rfl hd_X5_in ⟨Nat.le_of_ble_eq_true rfl, Nat.le_of_ble_eq_true rfl⟩ hK hP [] rfl hl.1 rfl rfl (Nat.le_of_ble_eq_true rfl) dX5_up_12 ⟨Nat.le_of_ble_eq_true rfl, Nat.le_of_ble_eq_true rfl⟩ (fun r_12 h_12 => ?_)
  subst h_12
  refine z_if_ne (tgt := 20) hx hb dX5_up_15 (by decide) (zb_bd _) (fun c_15 => ?_) (fun c_15 => ?_)
  · skip
    have c_15 := zb_t c_15
    refine lv_aload_n hx hb dX5_up_20 rfl (lv_at hl 0 rfl) ?_
    refine lv_aload_n hx hb dX5_up_21 rfl (lv_at hl 0 rfl) ?_
    refine va_get (D := D) (ci := 5) (C := RX5) (T := TX5) (N := 19) hx hb hts inc_X5_up_5 hown hK hP 0 rfl rfl 13 (by decide) (hts (.fieldLink RX5 26 "BedHouseModel" "now" "[I") (by decide +kernel)) (fun _ h9 => h9) rfl dX5_up_22 ?_
    refine lv_iconst (v := zI 0) hx hb dX5_up_25 rfl ?_
    refine z_iald hx hb hK hP 4 1 rfl rfl (Nat.le_of_ble_eq_true rfl) dX5_up_26 (by omega) ?_
    refine lv_iload_n hx hb dX5_up_27 rfl (lv_at hl 1 rfl) ?_
    refine pc_V (As := [.int (zI (f6 0)), .int (zI p)]) (rest := []) M (c_X5_slotIn l D cB cI cZ cM _ o0 o1 o2 o3 o4 o5 o6 o7 o8 o9 oz tr td g1 g2 g3 g4 g5 g6 g7 f2 (f6 0) p (by first | assumption | omega) (by first | assumption | omega) (by first | assumption | omega)) gX5_up_X5_slotIn rfl ⟨rfl, hd_X5_slotIn⟩ ⟨Nat.le_of_ble_eq_true rfl, Nat.le_of_ble_eq_true rfl⟩ hK hP [0, 1] rfl 0 5 rfl rfl rfl hl.1 rfl rfl (Nat.le_of_ble_eq_true rfl) dX5_up_28 ⟨Nat.le_of_ble_eq_true rfl, Nat.le_of_ble_eq_true rfl⟩ (fun r_28 h_28 => ?_)
    subst h_28
    have hsl := slI_rng (f2 0) p hhm.1
    refine lv_bipush (v := zI 8) hx hb dX5_up_31 (by decide) ?_
    refine z_icmp_ne (tgt := 52) hx hb dX5_up_33 (by decide) (by omega) (fun c_33 => ?_) (fun c_33 => ?_)
    · skip
      refine lv_bipush (v := zI (-2)) hx hb dX5_up_52 (by decide) ?_
      refine lv_goto (tgt := 73) hx hb dX5_up_54 (by decide) ?_
      have hit : upM f2 f3 f5 f6 p k = (-2, f6) := by unfold upM; rw [if_pos (And.intro c_5 c_15), if_pos (Or.inl c_33)]
      exact wr_reti M dX5_up_73 (u := f6) ⟨(congrArg zI (by rw [hit])), by rw [hit]⟩ hP hD hS
    refine lv_aload_n hx hb dX5_up_36 rfl (lv_at hl 0 rfl) ?_
    refine lv_aload_n hx hb dX5_up_37 rfl (lv_at hl 0 rfl) ?_
    refine va_get (D := D) (ci := 5) (C := RX5) (T := TX5) (N := 19) hx hb hts inc_X5_up_5 hown hK hP 0 rfl rfl 13 (by decide) (hts (.fieldLink RX5 26 "BedHouseModel" "now" "[I") (by decide +kernel)) (fun _ h9 => h9) rfl dX5_up_38 ?_
    refine lv_iconst (v := zI 0) hx hb dX5_up_41 rfl ?_
    refine z_iald hx hb hK hP 4 1 rfl rfl (Nat.le_of_ble_eq_true rfl) dX5_up_42 (by omega) ?_
    refine lv_iload_n hx hb dX5_up_43 rfl (lv_at hl 2 rfl) ?_
    refine pc_V (As := [.int (zI (f6 0)), .int (zI k)]) (rest := []) M (c_X5_panelAt l D cB cI cZ cM _ o0 o1 o2 o3 o4 o5 o6 o7 o8 o9 oz tr td g1 g2 g3 g4 g5 g6 g7 f2 (f6 0) k (by first | assumption | omega) (by first | assumption | omega) (by first | assumption | omega)) gX5_up_X5_panelAt rfl ⟨rfl, hd_X5_panelAt⟩ ⟨Nat.le_of_ble_eq_true rfl, Nat.le_of_ble_eq_true rfl⟩ hK hP [0, 1] rfl 0 5 rfl rfl rfl hl.1 rfl rfl (Nat.le_of_ble_eq_true rfl) dX5_up_44 ⟨Nat.le_of_ble_eq_true rfl, Nat.le_of_ble_eq_true rfl⟩ (fun r_44 h_44 => ?_)
    subst h_44
    have hpf := patF_rng (slI (f2 0) (f6 0)) k (f2 0).toNat 0 (by omega)
    refine lv_bipush (v := zI (-9)) hx hb dX5_up_47 (by decide) ?_
    refine z_icmp_eq (tgt := 57) hx hb dX5_up_49 (by decide) (by omega) (fun c_49 => ?_) (fun c_49 => ?_)
    · skip
      refine lv_aload_n hx hb dX5_up_57 rfl (lv_at hl 0 rfl) ?_
      refine lv_aload_n hx hb dX5_up_58 rfl (lv_at hl 0 rfl) ?_
      refine lv_aload_n hx hb dX5_up_59 rfl (lv_at hl 0 rfl) ?_
      refine va_get (D := D) (ci := 5) (C := RX5) (T := TX5) (N := 19) hx hb hts inc_X5_up_5 hown hK hP 0 rfl rfl 13 (by decide) (hts (.fieldLink RX5 26 "BedHouseModel" "now" "[I") (by decide +kernel)) (fun _ h9 => h9) rfl dX5_up_60 ?_
      refine lv_iconst (v := zI 0) hx hb dX5_up_63 rfl ?_
      refine z_iald hx hb hK hP 4 1 rfl rfl (Nat.le_of_ble_eq_true rfl) dX5_up_64 (by omega) ?_
      refine lv_iload_n hx hb dX5_up_65 rfl (lv_at hl 1 rfl) ?_
      refine lv_iload_n hx hb dX5_up_66 rfl (lv_at hl 2 rfl) ?_
      refine pc_V (As := [.int (zI (f6 0)), .int (zI p), .int (zI k)]) (rest := [.ref o0]) M (c_X5_with l D cB cI cZ cM _ o0 o1 o2 o3 o4 o5 o6 o7 o8 o9 oz tr td g1 g2 g3 g4 g5 g6 g7 f2 (f6 0) p k (by first | assumption | omega) (by first | assumption | omega) (by first | assumption | omega)) gX5_up_X5_with rfl ⟨rfl, hd_X5_with⟩ ⟨Nat.le_of_ble_eq_true rfl, Nat.le_of_ble_eq_true rfl⟩ hK hP [0, 1] rfl 0 5 rfl rfl rfl hl.1 rfl rfl (Nat.le_of_ble_eq_true rfl) dX5_up_67 ⟨Nat.le_of_ble_eq_true rfl, Nat.le_of_ble_eq_true rfl⟩ (fun r_67 h_67 => ?_)
      subst h_67
      have hwt := wtI_rng (k := k) hPm.2 hhm c_5 (by omega)
      refine wc_Vi (As := [.int (zI (wtI (f2 0) (f6 0) p k))]) (rest := []) (wr := []) (ws' := (fun u_70 : Int → Int => [(o0, .inr (5, [.long tr, .ref o1, .int (zI td), .ref o2, .ref o3, .ref o4, .ref o5, .int (zI g1), .int (zI g2), .int (zI g3), .int (zI g4), .int (zI g5), .int (zI g6), .ref o6, .ref o7, .ref o8, .ref o9, .int (zI g7), .ref oz])), (o2, .inl (cI, 16, .inl (zia f2))), (o3, .inl (cI, 8, .inl (zia f3))), (o5, .inl (cI, 4, .inl (zia f5))), (o6, .inl (cI, 63, .inl (zia u_70)))])) M (c_X5_act l D cB cI cZ cM _ o0 o1 o2 o3 o4 o5 o6 o7 o8 o9 oz tr td g1 g2 g3 g4 g5 g6 g7 f2 f3 f5 f6 (wtI (f2 0) (f6 0) p k) (by first | assumption | omega) (by first | assumption | omega) (hwt)) gX5_up_X5_act rfl ⟨rfl, hd_X5_act⟩ ⟨Nat.le_of_ble_eq_true rfl, Nat.le_of_ble_eq_true rfl⟩ hK hP hD hS hA [0, 1, 2, 3, 4] [] [0, 1, 2, 3, 4] rfl rfl (by decide) (by decide) (by decide) (fun _ => rfl) 0 5 rfl rfl rfl hl.1 rfl rfl (Nat.le_of_ble_eq_true rfl) dX5_up_70 ⟨Nat.le_of_ble_eq_true rfl, Nat.le_of_ble_eq_true rfl⟩ (by decide) (fun r_70 u_70 H locs h_70 hP hD hS => ?_)
      obtain ⟨hz_70, h_70⟩ := h_70
      subst hz_70
      have hit : upM f2 f3 f5 f6 p k = ((acM f2 f3 f5 f6 (wtI (f2 0) (f6 0) p k)).1, u_70) := by unfold upM; rw [if_pos (And.intro c_5 c_15), if_neg (fun q => q.elim (fun q => q c_33) (fun q => q c_49)), h_70]
      exact wr_reti M dX5_up_73 (u := u_70) ⟨(congrArg zI (by rw [hit])), by rw [hit]⟩ hP hD hS
    refine lv_bipush (v := zI (-2)) hx hb dX5_up_52 (by decide) ?_
    refine lv_goto (tgt := 73) hx hb dX5_up_54 (by decide) ?_
    have hit : upM f2 f3 f5 f6 p k = (-2, f6) := by unfold upM; rw [if_pos (And.intro c_5 c_15), if_pos (Or.inr c_49)]
    exact wr_reti M dX5_up_73 (u := f6) ⟨(congrArg zI (by rw [hit])), by rw [hit]⟩ hP hD hS
  have c_15 := zb_f c_15
  refine lv_iconst (v := zI (-1)) hx hb dX5_up_18 rfl ?_
  have hit : upM f2 f3 f5 f6 p k = (-1, f6) := by unfold upM; rw [if_neg (fun q => c_15 q.2)]
  exact wr_reti M dX5_up_19 (u := f6) ⟨(congrArg zI (by rw [hit])), by rw [hit]⟩ hP hD hS
set_option maxHeartbeats 4000000 in
set_option maxRecDepth 100000 in
theorem c_X5_night (l : Launch) (D : va_G) (cB cI cZ cM : ClassId) (Hp : Heap) (o0 : Nat) (o1 : Nat) (o2 : Nat) (o3 : Nat) (o4 : Nat) (o5 : Nat) (o6 : Nat) (o7 : Nat) (o8 : Nat) (o9 : Nat) (oz : Nat) (tr : Int64) (td : Int) (g1 : Int) (g2 : Int) (g3 : Int) (g4 : Int) (g5 : Int) (g6 : Int) (g7 : Int) (f2 : Int → Int) (f3 : Int → Int) (f5 : Int → Int) (f6 : Int → Int) (hp2 : okR f2 f3 f5) (hn6 : okN f2 f6) : cWi l yX5_night wsX5_night (rmW 5 0 0 113) D (TYS cB cI cZ cM) [.ref o0] [(o0, .inr (5, [.long tr, .ref o1, .int (zI td), .ref o2, .ref o3, .ref o4, .ref o5, .int (zI g1), .int (zI g2), .int (zI g3), .int (zI g4), .int (zI g5), .int (zI g6), .ref o6, .ref o7, .ref o8, .ref o9, .int (zI g7), .ref oz])), (o2, .inl (cI, 16, .inl (zia f2))), (o3, .inl (cI, 8, .inl (zia f3))), (o5, .inl (cI, 4, .inl (zia f5))), (o6, .inl (cI, 63, .inl (zia f6)))] Hp (fun (r : Int32) (u : Int → Int) => r = zI ((niM f2 f3 f6).1) ∧ (u = (niM f2 f3 f6).2)) (fun (u : Int → Int) => [(o0, .inr (5, [.long tr, .ref o1, .int (zI td), .ref o2, .ref o3, .ref o4, .ref o5, .int (zI g1), .int (zI g2), .int (zI g3), .int (zI g4), .int (zI g5), .int (zI g6), .ref o6, .ref o7, .ref o8, .ref o9, .int (zI g7), .ref oz])), (o2, .inl (cI, 16, .inl (zia f2))), (o3, .inl (cI, 8, .inl (zia f3))), (o5, .inl (cI, 4, .inl (zia f5))), (o6, .inl (cI, 63, .inl (zia u)))]) 0 0 := by
  refine wr_starti (by decide) rfl (Nat.le_of_ble_eq_true rfl) ?_
  intro pg ev sx mm args below meth cd ls A M hP hD hS hA hK hl
  obtain ⟨hx, hb, hr, hml, hown, hts, hlk, hN0⟩ := id M
  have hl : lv_has ls 2 [(0, .ref o0)] := hl
  refine W.widen (k := 0) (n := 0) (Nat.zero_le _) (Nat.zero_le _) ?_
  obtain ⟨hPm, hB1, hra, hsu, hvw, hno, hdn6, hha7, hso, hbm⟩ := id hp2
  obtain ⟨hhm, hdy, hac, hlk, hmn, hcl⟩ := id hn6
  refine lv_aload_n hx hb dX5_night_0 rfl (lv_at hl 0 rfl) ?_
  refine va_get (D := D) (ci := 5) (C := RX5) (T := TX5) (N := 19) hx hb hts inc_X5_night_5 hown hK hP 0 rfl rfl 13 (by decide) (hts (.fieldLink RX5 26 "BedHouseModel" "now" "[I") (by decide +kernel)) (fun _ h9 => h9) rfl dX5_night_1 ?_
  refine lv_iconst (v := zI 1) hx hb dX5_night_4 rfl ?_
  refine z_iald hx hb hK hP 4 1 rfl rfl (Nat.le_of_ble_eq_true rfl) dX5_night_5 (by omega) ?_
  refine lv_sipush (v := zI 999) hx hb dX5_night_6 (by decide) ?_
  refine z_icmp_ne (tgt := 15) hx hb dX5_night_9 (by decide) (by omega) (fun c_9 => ?_) (fun c_9 => ?_)
  · skip
    refine lv_aload_n hx hb dX5_night_15 rfl (lv_at hl 0 rfl) ?_
    refine lv_aload_n hx hb dX5_night_16 rfl (lv_at hl 0 rfl) ?_
    refine va_get (D := D) (ci := 5) (C := RX5) (T := TX5) (N := 19) hx hb hts inc_X5_night_5 hown hK hP 0 rfl rfl 13 (by decide) (hts (.fieldLink RX5 26 "BedHouseModel" "now" "[I") (by decide +kernel)) (fun _ h9 => h9) rfl dX5_night_17 ?_
    refine lv_iconst (v := zI 0) hx hb dX5_night_20 rfl ?_
    refine z_iald hx hb hK hP 4 1 rfl rfl (Nat.le_of_ble_eq_true rfl) dX5_night_21 (by omega) ?_
    refine pc_V (As := [.int (zI (f6 0))]) (rest := []) M (c_X5_leaksIn l D cB cI cZ cM _ o0 o1 o2 o3 o4 o5 o6 o7 o8 o9 oz tr td g1 g2 g3 g4 g5 g6 g7 f2 f3 (f6 0) (by first | assumption | omega) (by first | assumption | omega) (by first | assumption | omega) (by first | assumption | omega)) gX5_night_X5_leaksIn rfl ⟨rfl, hd_X5_leaksIn⟩ ⟨Nat.le_of_ble_eq_true rfl, Nat.le_of_ble_eq_true rfl⟩ hK hP [0, 1, 2] rfl 0 5 rfl rfl rfl hl.1 rfl rfl (Nat.le_of_ble_eq_true rfl) dX5_night_22 ⟨Nat.le_of_ble_eq_true rfl, Nat.le_of_ble_eq_true rfl⟩ (fun r_22 h_22 => ?_)
    subst h_22
    refine lv_istore_n (lv' := [(1, .int (zI (lkM (slI (f2 0) (f6 0)) f3 (f2 0) (f2 2) 8 0))), (0, .ref o0)]) hx hb dX5_night_25 rfl hl (by decide) rfl (fun ls hl => ?_)
    refine lv_aload_n hx hb dX5_night_26 rfl (lv_at hl 1 rfl) ?_
    refine va_get (D := D) (ci := 5) (C := RX5) (T := TX5) (N := 19) hx hb hts inc_X5_night_5 hown hK hP 0 rfl rfl 13 (by decide) (hts (.fieldLink RX5 26 "BedHouseModel" "now" "[I") (by decide +kernel)) (fun _ h9 => h9) rfl dX5_night_27 ?_
    refine lv_iconst (v := zI 3) hx hb dX5_night_30 rfl ?_
    refine lv_dup2_11 hx hb dX5_night_31 rfl rfl ?_
    refine z_iald hx hb hK hP 4 1 rfl rfl (Nat.le_of_ble_eq_true rfl) dX5_night_32 (by omega) ?_
    refine lv_iload_n hx hb dX5_night_33 rfl (lv_at hl 0 rfl) ?_
    refine z_iadd hx hb dX5_night_34 ?_
    refine z_iast (ws' := [(o0, .inr (5, [.long tr, .ref o1, .int (zI td), .ref o2, .ref o3, .ref o4, .ref o5, .int (zI g1), .int (zI g2), .int (zI g3), .int (zI g4), .int (zI g5), .int (zI g6), .ref o6, .ref o7, .ref o8, .ref o9, .int (zI g7), .ref oz])), (o2, .inl (cI, 16, .inl (zia f2))), (o3, .inl (cI, 8, .inl (zia f3))), (o5, .inl (cI, 4, .inl (zia f5))), (o6, .inl (cI, 63, .inl (zia (zup f6 3 ((f6 3) + (lkM (slI (f2 0) (f6 0)) f3 (f2 0) (f2 2) 8 0))))))]) hx hb hK hP hD hS 4 1 rfl rfl (Nat.le_of_ble_eq_true rfl) dX5_night_35 rfl (by omega) (fun H locs hP hD hS => ?_)
    refine lv_aload_n hx hb dX5_night_36 rfl (lv_at hl 1 rfl) ?_
    refine va_get (D := D) (ci := 5) (C := RX5) (T := TX5) (N := 19) hx hb hts inc_X5_night_5 hown hK hP 0 rfl rfl 13 (by decide) (hts (.fieldLink RX5 26 "BedHouseModel" "now" "[I") (by decide +kernel)) (fun _ h9 => h9) rfl dX5_night_37 ?_
    refine lv_iconst (v := zI 1) hx hb dX5_night_40 rfl ?_
    refine lv_dup2_11 hx hb dX5_night_41 rfl rfl ?_
    refine z_iald hx hb hK hP 4 1 rfl rfl (Nat.le_of_ble_eq_true rfl) dX5_night_42 (by omega) ?_
    refine lv_iconst (v := zI 1) hx hb dX5_night_43 rfl ?_
    refine z_iadd hx hb dX5_night_44 ?_
    refine z_iast (ws' := [(o0, .inr (5, [.long tr, .ref o1, .int (zI td), .ref o2, .ref o3, .ref o4, .ref o5, .int (zI g1), .int (zI g2), .int (zI g3), .int (zI g4), .int (zI g5), .int (zI g6), .ref o6, .ref o7, .ref o8, .ref o9, .int (zI g7), .ref oz])), (o2, .inl (cI, 16, .inl (zia f2))), (o3, .inl (cI, 8, .inl (zia f3))), (o5, .inl (cI, 4, .inl (zia f5))), (o6, .inl (cI, 63, .inl (zia (zup (zup f6 3 ((f6 3) + (lkM (slI (f2 0) (f6 0)) f3 (f2 0) (f2 2) 8 0))) 1 (((zup f6 3 ((f6 3) + (lkM (slI (f2 0) (f6 0)) f3 (f2 0) (f2 2) 8 0))) 1) + 1)))))]) hx hb hK hP hD hS 4 1 rfl rfl (Nat.le_of_ble_eq_true rfl) dX5_night_45 rfl (by omega) (fun H locs hP hD hS => ?_)
    refine lv_aload_n hx hb dX5_night_46 rfl (lv_at hl 1 rfl) ?_
    refine va_get (D := D) (ci := 5) (C := RX5) (T := TX5) (N := 19) hx hb hts inc_X5_night_5 hown hK hP 0 rfl rfl 13 (by decide) (hts (.fieldLink RX5 26 "BedHouseModel" "now" "[I") (by decide +kernel)) (fun _ h9 => h9) rfl dX5_night_47 ?_
    refine lv_iconst (v := zI 2) hx hb dX5_night_50 rfl ?_
    refine lv_iconst (v := zI 0) hx hb dX5_night_51 rfl ?_
    refine z_iast (ws' := [(o0, .inr (5, [.long tr, .ref o1, .int (zI td), .ref o2, .ref o3, .ref o4, .ref o5, .int (zI g1), .int (zI g2), .int (zI g3), .int (zI g4), .int (zI g5), .int (zI g6), .ref o6, .ref o7, .ref o8, .ref o9, .int (zI g7), .ref oz])), (o2, .inl (cI, 16, .inl (zia f2))), (o3, .inl (cI, 8, .inl (zia f3))), (o5, .inl (cI, 4, .inl (zia f5))), (o6, .inl (cI, 63, .inl (zia (zup (zup (zup f6 3 ((f6 3) + (lkM (slI (f2 0) (f6 0)) f3 (f2 0) (f2 2) 8 0))) 1 (((zup f6 3 ((f6 3) + (lkM (slI (f2 0) (f6 0)) f3 (f2 0) (f2 2) 8 0))) 1) + 1)) 2 0))))]) hx hb hK hP hD hS 4 1 rfl rfl (Nat.le_of_ble_eq_true rfl) dX5_night_52 rfl (by omega) (fun H locs hP hD hS => ?_)
    refine lv_iload_n hx hb dX5_night_53 rfl (lv_at hl 0 rfl) ?_
    have hit : niM f2 f3 f6 = ((lkM (slI (f2 0) (f6 0)) f3 (f2 0) (f2 2) 8 0), niU f6 (lkM (slI (f2 0) (f6 0)) f3 (f2 0) (f2 2) 8 0)) := by unfold niM; rw [if_neg c_9]
    exact wr_reti M dX5_night_54 (u := niU f6 (lkM (slI (f2 0) (f6 0)) f3 (f2 0) (f2 2) 8 0)) ⟨(congrArg zI (by rw [hit])), by rw [hit]⟩ hP hD hS
  refine lv_bipush (v := zI (-2)) hx hb dX5_night_12 (by decide) ?_
  have hit : niM f2 f3 f6 = (-2, f6) := by unfold niM; rw [if_pos c_9]
  exact wr_reti M dX5_night_14 (u := f6) ⟨(congrArg zI (by rw [hit])), by rw [hit]⟩ hP hD hS
set_option maxHeartbeats 4000000 in
set_option maxRecDepth 100000 in
theorem c_X5_now (l : Launch) (D : va_G) (cB cI cZ cM : ClassId) (Hp : Heap) (o0 : Nat) (o1 : Nat) (o2 : Nat) (o3 : Nat) (o4 : Nat) (o5 : Nat) (o6 : Nat) (o7 : Nat) (o8 : Nat) (o9 : Nat) (oz : Nat) (tr : Int64) (td : Int) (g1 : Int) (g2 : Int) (g3 : Int) (g4 : Int) (g5 : Int) (g6 : Int) (g7 : Int) (f2 : Int → Int) (f3 : Int → Int) (f5 : Int → Int) (f6 : Int → Int) (wh : Int) (hp2 : okR f2 f3 f5) (hn6 : okN f2 f6) (hwh0 : -2147483648 ≤ wh ∧ wh < 2147483648) : cP l yX5_now wsX5_now 7 158 D (TYS cB cI cZ cM) [.ref o0, .int (zI wh)] [(o0, .inr (5, [.long tr, .ref o1, .int (zI td), .ref o2, .ref o3, .ref o4, .ref o5, .int (zI g1), .int (zI g2), .int (zI g3), .int (zI g4), .int (zI g5), .int (zI g6), .ref o6, .ref o7, .ref o8, .ref o9, .int (zI g7), .ref oz])), (o2, .inl (cI, 16, .inl (zia f2))), (o3, .inl (cI, 8, .inl (zia f3))), (o5, .inl (cI, 4, .inl (zia f5))), (o6, .inl (cI, 63, .inl (zia f6)))] Hp (fun r => r = zI (if wh = 0 then f6 1 else if wh = 1 then f6 2 else if wh = 2 then f6 3 else if wh = 3 then woM (slI (f2 0) (f6 0)) f3 (f2 0) (f2 2) (f2 3) (f2 4) (f2 5) else if wh = 4 then zb (mlw (slI (f2 0) (f6 0)) f3 f5 (f2 0) (f2 1) (f2 6) = true) else if wh = 5 then (lkM (slI (f2 0) (f6 0)) f3 (f2 0) (f2 2) 8 0) else -1000000)) := by
  refine pu_start (by decide) rfl (Nat.le_of_ble_eq_true rfl) ?_
  intro pg ev sx mm args below meth cd ls M hP hK hl
  obtain ⟨hx, hb, hr, hml, hown, hts, hlk, hN0⟩ := id M
  have hl : lv_has ls 2 [(0, .ref o0), (1, .int (zI wh))] := hl
  obtain ⟨hPm, hB1, hra, hsu, hvw, hno, hdn6, hha7, hso, hbm⟩ := id hp2
  obtain ⟨hhm, hdy, hac, hlk, hmn, hcl⟩ := id hn6
  refine lv_iload_n hx hb dX5_now_0 rfl (lv_at hl 1 rfl) ?_
  by_cases c_1_0 : wh = 0
  · skip
    refine lv_tableIn (tgt := 40) hx hb dX5_now_1 (by rw [zI_toInt (by omega)]; omega) (by rw [zI_toInt (by omega)]; omega) (by rw [zI_toInt (by omega), c_1_0]; rfl) (by decide) ?_
    refine lv_aload_n hx hb dX5_now_40 rfl (lv_at hl 0 rfl) ?_
    refine va_get (D := D) (ci := 5) (C := RX5) (T := TX5) (N := 19) hx hb hts inc_X5_now_5 hown hK hP 0 rfl rfl 13 (by decide) (hts (.fieldLink RX5 26 "BedHouseModel" "now" "[I") (by decide +kernel)) (fun _ h9 => h9) rfl dX5_now_41 ?_
    refine lv_iconst (v := zI 1) hx hb dX5_now_44 rfl ?_
    refine z_iald hx hb hK hP 4 1 rfl rfl (Nat.le_of_ble_eq_true rfl) dX5_now_45 (by omega) ?_
    exact pu_ret M dX5_now_46 (congrArg zI (by rw [if_pos c_1_0]))
  by_cases c_1_1 : wh = 1
  · skip
    refine lv_tableIn (tgt := 47) hx hb dX5_now_1 (by rw [zI_toInt (by omega)]; omega) (by rw [zI_toInt (by omega)]; omega) (by rw [zI_toInt (by omega), c_1_1]; rfl) (by decide) ?_
    refine lv_aload_n hx hb dX5_now_47 rfl (lv_at hl 0 rfl) ?_
    refine va_get (D := D) (ci := 5) (C := RX5) (T := TX5) (N := 19) hx hb hts inc_X5_now_5 hown hK hP 0 rfl rfl 13 (by decide) (hts (.fieldLink RX5 26 "BedHouseModel" "now" "[I") (by decide +kernel)) (fun _ h9 => h9) rfl dX5_now_48 ?_
    refine lv_iconst (v := zI 2) hx hb dX5_now_51 rfl ?_
    refine z_iald hx hb hK hP 4 1 rfl rfl (Nat.le_of_ble_eq_true rfl) dX5_now_52 (by omega) ?_
    exact pu_ret M dX5_now_53 (congrArg zI (by rw [if_neg c_1_0, if_pos c_1_1]))
  by_cases c_1_2 : wh = 2
  · skip
    refine lv_tableIn (tgt := 54) hx hb dX5_now_1 (by rw [zI_toInt (by omega)]; omega) (by rw [zI_toInt (by omega)]; omega) (by rw [zI_toInt (by omega), c_1_2]; rfl) (by decide) ?_
    refine lv_aload_n hx hb dX5_now_54 rfl (lv_at hl 0 rfl) ?_
    refine va_get (D := D) (ci := 5) (C := RX5) (T := TX5) (N := 19) hx hb hts inc_X5_now_5 hown hK hP 0 rfl rfl 13 (by decide) (hts (.fieldLink RX5 26 "BedHouseModel" "now" "[I") (by decide +kernel)) (fun _ h9 => h9) rfl dX5_now_55 ?_
    refine lv_iconst (v := zI 3) hx hb dX5_now_58 rfl ?_
    refine z_iald hx hb hK hP 4 1 rfl rfl (Nat.le_of_ble_eq_true rfl) dX5_now_59 (by omega) ?_
    exact pu_ret M dX5_now_60 (congrArg zI (by rw [if_neg c_1_0, if_neg c_1_1, if_pos c_1_2]))
  by_cases c_1_3 : wh = 3
  · skip
    refine lv_tableIn (tgt := 61) hx hb dX5_now_1 (by rw [zI_toInt (by omega)]; omega) (by rw [zI_toInt (by omega)]; omega) (by rw [zI_toInt (by omega), c_1_3]; rfl) (by decide) ?_
    refine lv_aload_n hx hb dX5_now_61 rfl (lv_at hl 0 rfl) ?_
    refine lv_aload_n hx hb dX5_now_62 rfl (lv_at hl 0 rfl) ?_
    refine va_get (D := D) (ci := 5) (C := RX5) (T := TX5) (N := 19) hx hb hts inc_X5_now_5 hown hK hP 0 rfl rfl 13 (by decide) (hts (.fieldLink RX5 26 "BedHouseModel" "now" "[I") (by decide +kernel)) (fun _ h9 => h9) rfl dX5_now_63 ?_
    refine lv_iconst (v := zI 0) hx hb dX5_now_66 rfl ?_
    refine z_iald hx hb hK hP 4 1 rfl rfl (Nat.le_of_ble_eq_true rfl) dX5_now_67 (by omega) ?_
    refine pc_V (As := [.int (zI (f6 0))]) (rest := []) M (c_X5_worthOf l D cB cI cZ cM _ o0 o1 o2 o3 o4 o5 o6 o7 o8 o9 oz tr td g1 g2 g3 g4 g5 g6 g7 f2 f3 (f6 0) (by first | assumption | omega) (by first | assumption | omega) (by first | assumption | omega) (by first | assumption | omega) (by first | assumption | omega) (by first | assumption | omega) (by first | assumption | omega)) gX5_now_X5_worthOf rfl ⟨rfl, hd_X5_worthOf⟩ ⟨Nat.le_of_ble_eq_true rfl, Nat.le_of_ble_eq_true rfl⟩ hK hP [0, 1, 2] rfl 0 5 rfl rfl rfl hl.1 rfl rfl (Nat.le_of_ble_eq_true rfl) dX5_now_68 ⟨Nat.le_of_ble_eq_true rfl, Nat.le_of_ble_eq_true rfl⟩ (fun r_68 h_68 => ?_)
    subst h_68
    exact pu_ret M dX5_now_71 (congrArg zI (by rw [if_neg c_1_0, if_neg c_1_1, if_neg c_1_2, if_pos c_1_3]))
  by_cases c_1_4 : wh = 4
  · skip
    refine lv_tableIn (tgt := 72) hx hb dX5_now_1 (by rw [zI_toInt (by omega)]; omega) (by rw [zI_toInt (by omega)]; omega) (by rw [zI_toInt (by omega), c_1_4]; rfl) (by decide) ?_
    refine lv_aload_n hx hb dX5_now_72 rfl (lv_at hl 0 rfl) ?_
    refine lv_aload_n hx hb dX5_now_73 rfl (lv_at hl 0 rfl) ?_
    refine va_get (D := D) (ci := 5) (C := RX5) (T := TX5) (N := 19) hx hb hts inc_X5_now_5 hown hK hP 0 rfl rfl 13 (by decide) (hts (.fieldLink RX5 26 "BedHouseModel" "now" "[I") (by decide +kernel)) (fun _ h9 => h9) rfl dX5_now_74 ?_
    refine lv_iconst (v := zI 0) hx hb dX5_now_77 rfl ?_
    refine z_iald hx hb hK hP 4 1 rfl rfl (Nat.le_of_ble_eq_true rfl) dX5_now_78 (by omega) ?_
    refine pc_V (As := [.int (zI (f6 0))]) (rest := []) M (c_X5_isLawful l D cB cI cZ cM _ o0 o1 o2 o3 o4 o5 o6 o7 o8 o9 oz tr td g1 g2 g3 g4 g5 g6 g7 f2 f3 f5 (f6 0) (by first | assumption | omega) (by first | assumption | omega) (by first | assumption | omega) (by first | assumption | omega) (by first | assumption | omega) (by first | assumption | omega)) gX5_now_X5_isLawful rfl ⟨rfl, hd_X5_isLawful⟩ ⟨Nat.le_of_ble_eq_true rfl, Nat.le_of_ble_eq_true rfl⟩ hK hP [0, 1, 2, 3] rfl 0 5 rfl rfl rfl hl.1 rfl rfl (Nat.le_of_ble_eq_true rfl) dX5_now_79 ⟨Nat.le_of_ble_eq_true rfl, Nat.le_of_ble_eq_true rfl⟩ (fun r_79 h_79 => ?_)
    subst h_79
    refine z_if_eq (tgt := 89) hx hb dX5_now_82 (by decide) (zb_bd _) (fun c_82 => ?_) (fun c_82 => ?_)
    · skip
      have c_82 := zb_f c_82
      refine lv_iconst (v := zI 0) hx hb dX5_now_89 rfl ?_
      exact pu_ret M dX5_now_90 (congrArg zI (by rw [if_neg c_1_0, if_neg c_1_1, if_neg c_1_2, if_neg c_1_3, if_pos c_1_4]; exact (zb_0 c_82).symm))
    have c_82 := zb_t c_82
    refine lv_iconst (v := zI 1) hx hb dX5_now_85 rfl ?_
    refine lv_goto (tgt := 90) hx hb dX5_now_86 (by decide) ?_
    exact pu_ret M dX5_now_90 (congrArg zI (by rw [if_neg c_1_0, if_neg c_1_1, if_neg c_1_2, if_neg c_1_3, if_pos c_1_4]; exact (zb_1 c_82).symm))
  by_cases c_1_5 : wh = 5
  · skip
    refine lv_tableIn (tgt := 91) hx hb dX5_now_1 (by rw [zI_toInt (by omega)]; omega) (by rw [zI_toInt (by omega)]; omega) (by rw [zI_toInt (by omega), c_1_5]; rfl) (by decide) ?_
    refine lv_aload_n hx hb dX5_now_91 rfl (lv_at hl 0 rfl) ?_
    refine lv_aload_n hx hb dX5_now_92 rfl (lv_at hl 0 rfl) ?_
    refine va_get (D := D) (ci := 5) (C := RX5) (T := TX5) (N := 19) hx hb hts inc_X5_now_5 hown hK hP 0 rfl rfl 13 (by decide) (hts (.fieldLink RX5 26 "BedHouseModel" "now" "[I") (by decide +kernel)) (fun _ h9 => h9) rfl dX5_now_93 ?_
    refine lv_iconst (v := zI 0) hx hb dX5_now_96 rfl ?_
    refine z_iald hx hb hK hP 4 1 rfl rfl (Nat.le_of_ble_eq_true rfl) dX5_now_97 (by omega) ?_
    refine pc_V (As := [.int (zI (f6 0))]) (rest := []) M (c_X5_leaksIn l D cB cI cZ cM _ o0 o1 o2 o3 o4 o5 o6 o7 o8 o9 oz tr td g1 g2 g3 g4 g5 g6 g7 f2 f3 (f6 0) (by first | assumption | omega) (by first | assumption | omega) (by first | assumption | omega) (by first | assumption | omega)) gX5_now_X5_leaksIn rfl ⟨rfl, hd_X5_leaksIn⟩ ⟨Nat.le_of_ble_eq_true rfl, Nat.le_of_ble_eq_true rfl⟩ hK hP [0, 1, 2] rfl 0 5 rfl rfl rfl hl.1 rfl rfl (Nat.le_of_ble_eq_true rfl) dX5_now_98 ⟨Nat.le_of_ble_eq_true rfl, Nat.le_of_ble_eq_true rfl⟩ (fun r_98 h_98 => ?_)
    subst h_98
    exact pu_ret M dX5_now_101 (congrArg zI (by rw [if_neg c_1_0, if_neg c_1_1, if_neg c_1_2, if_neg c_1_3, if_neg c_1_4, if_pos c_1_5]))
  refine lv_tableOut (tgt := 102) hx hb dX5_now_1 (by rw [zI_toInt (by omega)]; omega) (by decide) ?_
  refine lv_ldc hx hb hown (hts (.constant RX5 151 (-1000000)) (by decide +kernel)) dX5_now_102 ?_
  refine z_top (y := zI (-1000000)) (by decide) ?_
  exact pu_ret M dX5_now_104 (congrArg zI (by rw [if_neg c_1_0, if_neg c_1_1, if_neg c_1_2, if_neg c_1_3, if_neg c_1_4, if_neg c_1_5]))
set_option maxHeartbeats 4000000 in
set_option maxRecDepth 100000 in
theorem c_X5_lit (l : Launch) (D : va_G) (cB cI cZ cM : ClassId) (Hp : Heap) (o0 : Nat) (o1 : Nat) (o2 : Nat) (o3 : Nat) (o4 : Nat) (o5 : Nat) (o6 : Nat) (o7 : Nat) (o8 : Nat) (o9 : Nat) (oz : Nat) (tr : Int64) (td : Int) (g1 : Int) (g2 : Int) (g3 : Int) (g4 : Int) (g5 : Int) (g6 : Int) (g7 : Int) (f2 : Int → Int) (f3 : Int → Int) (f5 : Int → Int) (f6 : Int → Int) (k : Int) (hp2 : okR f2 f3 f5) (hn6 : okN f2 f6) (hk0 : -2147483648 ≤ k ∧ k < 2147483648) : cP l yX5_lit wsX5_lit 6 135 D (TYS cB cI cZ cM) [.ref o0, .int (zI k)] [(o0, .inr (5, [.long tr, .ref o1, .int (zI td), .ref o2, .ref o3, .ref o4, .ref o5, .int (zI g1), .int (zI g2), .int (zI g3), .int (zI g4), .int (zI g5), .int (zI g6), .ref o6, .ref o7, .ref o8, .ref o9, .int (zI g7), .ref oz])), (o2, .inl (cI, 16, .inl (zia f2))), (o3, .inl (cI, 8, .inl (zia f3))), (o5, .inl (cI, 4, .inl (zia f5))), (o6, .inl (cI, 63, .inl (zia f6)))] Hp (fun r => r = zI (if 0 ≤ k ∧ k ≤ 7 then zb (liM (slI (f2 0) (f6 0)) f3 (f2 0) (f2 3) k) else -1)) := by
  refine pu_start (by decide) rfl (Nat.le_of_ble_eq_true rfl) ?_
  intro pg ev sx mm args below meth cd ls M hP hK hl
  obtain ⟨hx, hb, hr, hml, hown, hts, hlk, hN0⟩ := id M
  have hl : lv_has ls 2 [(0, .ref o0), (1, .int (zI k))] := hl
  obtain ⟨hPm, hB1, hra, hsu, hvw, hno, hdn6, hha7, hso, hbm⟩ := id hp2
  obtain ⟨hhm, hdy, hac, hlk, hmn, hcl⟩ := id hn6
  refine lv_iload_n hx hb dX5_lit_0 rfl (lv_at hl 1 rfl) ?_
  refine lv_iconst (v := zI 0) hx hb dX5_lit_1 rfl ?_
  refine lv_bipush (v := zI 7) hx hb dX5_lit_2 (by decide) ?_
  refine pc_J (As := [.int (zI k), .int (zI 0), .int (zI 7)]) (rest := []) M (c_X5_in l D cB cI cZ cM _ k 0 7 (by first | assumption | omega) (by first | assumption | omega) (by first | assumption | omega)) gX5_lit_X5_in rfl hd_X5_in ⟨Nat.le_of_ble_eq_true rfl, Nat.le_of_ble_eq_true rfl⟩ hK hP [] rfl hl.1 rfl rfl (Nat.le_of_ble_eq_true rfl) dX5_lit_4 ⟨Nat.le_of_ble_eq_true rfl, Nat.le_of_ble_eq_true rfl⟩ (fun r_4 h_4 => ?_)
  subst h_4
  refine z_if_eq (tgt := 32) hx hb dX5_lit_7 (by decide) (zb_bd _) (fun c_7 => ?_) (fun c_7 => ?_)
  · skip
    have c_7 := zb_f c_7
    refine lv_iconst (v := zI (-1)) hx hb dX5_lit_32 rfl ?_
    exact pu_ret M dX5_lit_33 (congrArg zI (by rw [if_neg c_7]))
  have c_7 := zb_t c_7
  refine lv_aload_n hx hb dX5_lit_10 rfl (lv_at hl 0 rfl) ?_
  refine lv_aload_n hx hb dX5_lit_11 rfl (lv_at hl 0 rfl) ?_
  refine va_get (D := D) (ci := 5) (C := RX5) (T := TX5) (N := 19) hx hb hts inc_X5_lit_5 hown hK hP 0 rfl rfl 13 (by decide) (hts (.fieldLink RX5 26 "BedHouseModel" "now" "[I") (by decide +kernel)) (fun _ h9 => h9) rfl dX5_lit_12 ?_
  refine lv_iconst (v := zI 0) hx hb dX5_lit_15 rfl ?_
  refine z_iald hx hb hK hP 4 1 rfl rfl (Nat.le_of_ble_eq_true rfl) dX5_lit_16 (by omega) ?_
  refine lv_iload_n hx hb dX5_lit_17 rfl (lv_at hl 1 rfl) ?_
  refine pc_V (As := [.int (zI (f6 0)), .int (zI k)]) (rest := []) M (c_X5_isLit l D cB cI cZ cM _ o0 o1 o2 o3 o4 o5 o6 o7 o8 o9 oz tr td g1 g2 g3 g4 g5 g6 g7 f2 f3 (f6 0) k (by first | assumption | omega) (by first | assumption | omega) (by first | assumption | omega) (by first | assumption | omega) (by omega)) gX5_lit_X5_isLit rfl ⟨rfl, hd_X5_isLit⟩ ⟨Nat.le_of_ble_eq_true rfl, Nat.le_of_ble_eq_true rfl⟩ hK hP [0, 1, 2] rfl 0 5 rfl rfl rfl hl.1 rfl rfl (Nat.le_of_ble_eq_true rfl) dX5_lit_18 ⟨Nat.le_of_ble_eq_true rfl, Nat.le_of_ble_eq_true rfl⟩ (fun r_18 h_18 => ?_)
  subst h_18
  refine z_if_eq (tgt := 28) hx hb dX5_lit_21 (by decide) (zb_bd _) (fun c_21 => ?_) (fun c_21 => ?_)
  · skip
    have c_21 := zb_f c_21
    refine lv_iconst (v := zI 0) hx hb dX5_lit_28 rfl ?_
    refine lv_goto (tgt := 33) hx hb dX5_lit_29 (by decide) ?_
    exact pu_ret M dX5_lit_33 (congrArg zI (by rw [if_pos c_7]; exact (zb_0 c_21).symm))
  have c_21 := zb_t c_21
  refine lv_iconst (v := zI 1) hx hb dX5_lit_24 rfl ?_
  refine lv_goto (tgt := 33) hx hb dX5_lit_25 (by decide) ?_
  exact pu_ret M dX5_lit_33 (congrArg zI (by rw [if_pos c_7]; exact (zb_1 c_21).symm))
set_option maxHeartbeats 4000000 in
set_option maxRecDepth 100000 in
theorem c_X5_clue (l : Launch) (D : va_G) (cB cI cZ cM : ClassId) (Hp : Heap) (o0 : Nat) (o1 : Nat) (o2 : Nat) (o3 : Nat) (o4 : Nat) (o5 : Nat) (o6 : Nat) (o7 : Nat) (o8 : Nat) (o9 : Nat) (oz : Nat) (tr : Int64) (td : Int) (g1 : Int) (g2 : Int) (g3 : Int) (g4 : Int) (g5 : Int) (g6 : Int) (g7 : Int) (f2 : Int → Int) (f3 : Int → Int) (f5 : Int → Int) (f6 : Int → Int) (h : Int) (b : Int) (hn6 : okN f2 f6) (hh0 : -2147483648 ≤ h ∧ h < 2147483648) (hb0 : -2147483648 ≤ b ∧ b < 2147483648) : cWi l yX5_clue wsX5_clue (rmW 1 0 0 22) D (TYS cB cI cZ cM) [.ref o0, .int (zI h), .int (zI b)] [(o0, .inr (5, [.long tr, .ref o1, .int (zI td), .ref o2, .ref o3, .ref o4, .ref o5, .int (zI g1), .int (zI g2), .int (zI g3), .int (zI g4), .int (zI g5), .int (zI g6), .ref o6, .ref o7, .ref o8, .ref o9, .int (zI g7), .ref oz])), (o2, .inl (cI, 16, .inl (zia f2))), (o3, .inl (cI, 8, .inl (zia f3))), (o5, .inl (cI, 4, .inl (zia f5))), (o6, .inl (cI, 63, .inl (zia f6)))] Hp (fun (r : Int32) (u : Int → Int) => r = zI ((clM f6 h b).1) ∧ (u = (clM f6 h b).2)) (fun (u : Int → Int) => [(o0, .inr (5, [.long tr, .ref o1, .int (zI td), .ref o2, .ref o3, .ref o4, .ref o5, .int (zI g1), .int (zI g2), .int (zI g3), .int (zI g4), .int (zI g5), .int (zI g6), .ref o6, .ref o7, .ref o8, .ref o9, .int (zI g7), .ref oz])), (o2, .inl (cI, 16, .inl (zia f2))), (o3, .inl (cI, 8, .inl (zia f3))), (o5, .inl (cI, 4, .inl (zia f5))), (o6, .inl (cI, 63, .inl (zia u)))]) 0 0 := by
  refine wr_starti (by decide) rfl (Nat.le_of_ble_eq_true rfl) ?_
  intro pg ev sx mm args below meth cd ls A M hP hD hS hA hK hl
  obtain ⟨hx, hb, hr, hml, hown, hts, hlk, hN0⟩ := id M
  have hl : lv_has ls 3 [(0, .ref o0), (1, .int (zI h)), (2, .int (zI b))] := hl
  refine W.widen (k := 0) (n := 0) (Nat.zero_le _) (Nat.zero_le _) ?_
  obtain ⟨hhm, hdy, hac, hlk, hmn, hcl⟩ := id hn6
  refine lv_iload_n hx hb dX5_clue_0 rfl (lv_at hl 1 rfl) ?_
  refine lv_iconst (v := zI 0) hx hb dX5_clue_1 rfl ?_
  refine lv_bipush (v := zI 7) hx hb dX5_clue_2 (by decide) ?_
  refine pc_J (As := [.int (zI h), .int (zI 0), .int (zI 7)]) (rest := []) M (c_X5_in l D cB cI cZ cM _ h 0 7 (by first | assumption | omega) (by first | assumption | omega) (by first | assumption | omega)) gX5_clue_X5_in rfl hd_X5_in ⟨Nat.le_of_ble_eq_true rfl, Nat.le_of_ble_eq_true rfl⟩ hK hP [] rfl hl.1 rfl rfl (Nat.le_of_ble_eq_true rfl) dX5_clue_4 ⟨Nat.le_of_ble_eq_true rfl, Nat.le_of_ble_eq_true rfl⟩ (fun r_4 h_4 => ?_)
  subst h_4
  refine z_if_eq (tgt := 19) hx hb dX5_clue_7 (by decide) (zb_bd _) (fun c_7 => ?_) (fun c_7 => ?_)
  · skip
    have c_7 := zb_f c_7
    refine lv_iconst (v := zI (-1)) hx hb dX5_clue_19 rfl ?_
    have hit : clM f6 h b = (-1, f6) := by unfold clM; rw [if_neg (fun q => c_7 q.1)]
    exact wr_reti M dX5_clue_20 (u := f6) ⟨(congrArg zI (by rw [hit])), by rw [hit]⟩ hP hD hS
  have c_7 := zb_t c_7
  refine lv_iload_n hx hb dX5_clue_10 rfl (lv_at hl 2 rfl) ?_
  refine lv_iconst (v := zI 0) hx hb dX5_clue_11 rfl ?_
  refine lv_iconst (v := zI 1) hx hb dX5_clue_12 rfl ?_
  refine pc_J (As := [.int (zI b), .int (zI 0), .int (zI 1)]) (rest := []) M (c_X5_in l D cB cI cZ cM _ b 0 1 (by first | assumption | omega) (by first | assumption | omega) (by first | assumption | omega)) gX5_clue_X5_in rfl hd_X5_in ⟨Nat.le_of_ble_eq_true rfl, Nat.le_of_ble_eq_true rfl⟩ hK hP [] rfl hl.1 rfl rfl (Nat.le_of_ble_eq_true rfl) dX5_clue_13 ⟨Nat.le_of_ble_eq_true rfl, Nat.le_of_ble_eq_true rfl⟩ (fun r_13 h_13 => ?_)
  subst h_13
  refine z_if_ne (tgt := 21) hx hb dX5_clue_16 (by decide) (zb_bd _) (fun c_16 => ?_) (fun c_16 => ?_)
  · skip
    have c_16 := zb_t c_16
    refine lv_aload_n hx hb dX5_clue_21 rfl (lv_at hl 0 rfl) ?_
    refine va_get (D := D) (ci := 5) (C := RX5) (T := TX5) (N := 19) hx hb hts inc_X5_clue_5 hown hK hP 0 rfl rfl 13 (by decide) (hts (.fieldLink RX5 26 "BedHouseModel" "now" "[I") (by decide +kernel)) (fun _ h9 => h9) rfl dX5_clue_22 ?_
    refine lv_iconst (v := zI 4) hx hb dX5_clue_25 rfl ?_
    refine z_iald hx hb hK hP 4 1 rfl rfl (Nat.le_of_ble_eq_true rfl) dX5_clue_26 (by omega) ?_
    refine lv_bipush (v := zI 8) hx hb dX5_clue_27 (by decide) ?_
    refine z_icmp_ne (tgt := 35) hx hb dX5_clue_29 (by decide) (by omega) (fun c_29 => ?_) (fun c_29 => ?_)
    · skip
      refine lv_aload_n hx hb dX5_clue_35 rfl (lv_at hl 0 rfl) ?_
      refine va_get (D := D) (ci := 5) (C := RX5) (T := TX5) (N := 19) hx hb hts inc_X5_clue_5 hown hK hP 0 rfl rfl 13 (by decide) (hts (.fieldLink RX5 26 "BedHouseModel" "now" "[I") (by decide +kernel)) (fun _ h9 => h9) rfl dX5_clue_36 ?_
      refine lv_iconst (v := zI 5) hx hb dX5_clue_39 rfl ?_
      refine lv_iconst (v := zI 2) hx hb dX5_clue_40 rfl ?_
      refine lv_aload_n hx hb dX5_clue_41 rfl (lv_at hl 0 rfl) ?_
      refine va_get (D := D) (ci := 5) (C := RX5) (T := TX5) (N := 19) hx hb hts inc_X5_clue_5 hown hK hP 0 rfl rfl 13 (by decide) (hts (.fieldLink RX5 26 "BedHouseModel" "now" "[I") (by decide +kernel)) (fun _ h9 => h9) rfl dX5_clue_42 ?_
      refine lv_iconst (v := zI 4) hx hb dX5_clue_45 rfl ?_
      refine z_iald hx hb hK hP 4 1 rfl rfl (Nat.le_of_ble_eq_true rfl) dX5_clue_46 (by omega) ?_
      refine z_imul hx hb dX5_clue_47 ?_
      refine z_iadd hx hb dX5_clue_48 ?_
      refine lv_iload_n hx hb dX5_clue_49 rfl (lv_at hl 1 rfl) ?_
      refine z_iast (ws' := [(o0, .inr (5, [.long tr, .ref o1, .int (zI td), .ref o2, .ref o3, .ref o4, .ref o5, .int (zI g1), .int (zI g2), .int (zI g3), .int (zI g4), .int (zI g5), .int (zI g6), .ref o6, .ref o7, .ref o8, .ref o9, .int (zI g7), .ref oz])), (o2, .inl (cI, 16, .inl (zia f2))), (o3, .inl (cI, 8, .inl (zia f3))), (o5, .inl (cI, 4, .inl (zia f5))), (o6, .inl (cI, 63, .inl (zia (zup f6 (5 + (2 * (f6 4))) h))))]) hx hb hK hP hD hS 4 1 rfl rfl (Nat.le_of_ble_eq_true rfl) dX5_clue_50 rfl (by omega) (fun H locs hP hD hS => ?_)
      refine lv_aload_n hx hb dX5_clue_51 rfl (lv_at hl 0 rfl) ?_
      refine va_get (D := D) (ci := 5) (C := RX5) (T := TX5) (N := 19) hx hb hts inc_X5_clue_5 hown hK hP 0 rfl rfl 13 (by decide) (hts (.fieldLink RX5 26 "BedHouseModel" "now" "[I") (by decide +kernel)) (fun _ h9 => h9) rfl dX5_clue_52 ?_
      refine lv_iconst (v := zI 5) hx hb dX5_clue_55 rfl ?_
      refine lv_iconst (v := zI 2) hx hb dX5_clue_56 rfl ?_
      refine lv_aload_n hx hb dX5_clue_57 rfl (lv_at hl 0 rfl) ?_
      refine va_get (D := D) (ci := 5) (C := RX5) (T := TX5) (N := 19) hx hb hts inc_X5_clue_5 hown hK hP 0 rfl rfl 13 (by decide) (hts (.fieldLink RX5 26 "BedHouseModel" "now" "[I") (by decide +kernel)) (fun _ h9 => h9) rfl dX5_clue_58 ?_
      refine lv_iconst (v := zI 4) hx hb dX5_clue_61 rfl ?_
      have hzu : zup f6 (5 + 2 * f6 4) h 4 = f6 4 := zup_n f6 (by omega)
      refine z_iald hx hb hK hP 4 1 rfl rfl (Nat.le_of_ble_eq_true rfl) dX5_clue_62 (by omega) ?_
      refine z_imul hx hb dX5_clue_63 ?_
      refine z_iadd hx hb dX5_clue_64 ?_
      refine lv_iconst (v := zI 1) hx hb dX5_clue_65 rfl ?_
      refine z_iadd hx hb dX5_clue_66 ?_
      refine lv_iload_n hx hb dX5_clue_67 rfl (lv_at hl 2 rfl) ?_
      refine z_iast (ws' := [(o0, .inr (5, [.long tr, .ref o1, .int (zI td), .ref o2, .ref o3, .ref o4, .ref o5, .int (zI g1), .int (zI g2), .int (zI g3), .int (zI g4), .int (zI g5), .int (zI g6), .ref o6, .ref o7, .ref o8, .ref o9, .int (zI g7), .ref oz])), (o2, .inl (cI, 16, .inl (zia f2))), (o3, .inl (cI, 8, .inl (zia f3))), (o5, .inl (cI, 4, .inl (zia f5))), (o6, .inl (cI, 63, .inl (zia (zup (zup f6 (5 + (2 * (f6 4))) h) ((5 + (2 * ((zup f6 (5 + (2 * (f6 4))) h) 4))) + 1) b))))]) hx hb hK hP hD hS 4 1 rfl rfl (Nat.le_of_ble_eq_true rfl) dX5_clue_68 rfl (by omega) (fun H locs hP hD hS => ?_)
      refine lv_aload_n hx hb dX5_clue_69 rfl (lv_at hl 0 rfl) ?_
      refine va_get (D := D) (ci := 5) (C := RX5) (T := TX5) (N := 19) hx hb hts inc_X5_clue_5 hown hK hP 0 rfl rfl 13 (by decide) (hts (.fieldLink RX5 26 "BedHouseModel" "now" "[I") (by decide +kernel)) (fun _ h9 => h9) rfl dX5_clue_70 ?_
      refine lv_iconst (v := zI 4) hx hb dX5_clue_73 rfl ?_
      refine lv_dup2_11 hx hb dX5_clue_74 rfl rfl ?_
      refine z_iald hx hb hK hP 4 1 rfl rfl (Nat.le_of_ble_eq_true rfl) dX5_clue_75 (by omega) ?_
      refine lv_iconst (v := zI 1) hx hb dX5_clue_76 rfl ?_
      refine z_iadd hx hb dX5_clue_77 ?_
      refine z_iast (ws' := [(o0, .inr (5, [.long tr, .ref o1, .int (zI td), .ref o2, .ref o3, .ref o4, .ref o5, .int (zI g1), .int (zI g2), .int (zI g3), .int (zI g4), .int (zI g5), .int (zI g6), .ref o6, .ref o7, .ref o8, .ref o9, .int (zI g7), .ref oz])), (o2, .inl (cI, 16, .inl (zia f2))), (o3, .inl (cI, 8, .inl (zia f3))), (o5, .inl (cI, 4, .inl (zia f5))), (o6, .inl (cI, 63, .inl (zia (zup (zup (zup f6 (5 + (2 * (f6 4))) h) ((5 + (2 * ((zup f6 (5 + (2 * (f6 4))) h) 4))) + 1) b) 4 (((zup (zup f6 (5 + (2 * (f6 4))) h) ((5 + (2 * ((zup f6 (5 + (2 * (f6 4))) h) 4))) + 1) b) 4) + 1)))))]) hx hb hK hP hD hS 4 1 rfl rfl (Nat.le_of_ble_eq_true rfl) dX5_clue_78 rfl (by omega) (fun H locs hP hD hS => ?_)
      refine lv_aload_n hx hb dX5_clue_79 rfl (lv_at hl 0 rfl) ?_
      refine va_get (D := D) (ci := 5) (C := RX5) (T := TX5) (N := 19) hx hb hts inc_X5_clue_5 hown hK hP 0 rfl rfl 13 (by decide) (hts (.fieldLink RX5 26 "BedHouseModel" "now" "[I") (by decide +kernel)) (fun _ h9 => h9) rfl dX5_clue_80 ?_
      refine lv_iconst (v := zI 4) hx hb dX5_clue_83 rfl ?_
      refine z_iald hx hb hK hP 4 1 rfl rfl (Nat.le_of_ble_eq_true rfl) dX5_clue_84 (by omega) ?_
      have hit : clM f6 h b = (zup (clU f6 h b) 4 (clU f6 h b 4 + 1) 4, zup (clU f6 h b) 4 (clU f6 h b 4 + 1)) := by unfold clM; rw [if_pos (And.intro c_7 c_16), if_neg c_29]
      exact wr_reti M dX5_clue_85 (u := zup (clU f6 h b) 4 (clU f6 h b 4 + 1)) ⟨(congrArg zI (by rw [hit]; rfl)), by rw [hit]⟩ hP hD hS
    refine lv_bipush (v := zI (-3)) hx hb dX5_clue_32 (by decide) ?_
    have hit : clM f6 h b = (-3, f6) := by unfold clM; rw [if_pos (And.intro c_7 c_16), if_pos c_29]
    exact wr_reti M dX5_clue_34 (u := f6) ⟨(congrArg zI (by rw [hit])), by rw [hit]⟩ hP hD hS
  have c_16 := zb_f c_16
  refine lv_iconst (v := zI (-1)) hx hb dX5_clue_19 rfl ?_
  have hit : clM f6 h b = (-1, f6) := by unfold clM; rw [if_neg (fun q => c_16 q.2)]
  exact wr_reti M dX5_clue_20 (u := f6) ⟨(congrArg zI (by rw [hit])), by rw [hit]⟩ hP hD hS
set_option maxHeartbeats 4000000 in
set_option maxRecDepth 100000 in
theorem c_X5_forget (l : Launch) (D : va_G) (cB cI cZ cM : ClassId) (Hp : Heap) (o0 : Nat) (o1 : Nat) (o2 : Nat) (o3 : Nat) (o4 : Nat) (o5 : Nat) (o6 : Nat) (o7 : Nat) (o8 : Nat) (o9 : Nat) (oz : Nat) (tr : Int64) (td : Int) (g1 : Int) (g2 : Int) (g3 : Int) (g4 : Int) (g5 : Int) (g6 : Int) (g7 : Int) (f2 : Int → Int) (f3 : Int → Int) (f5 : Int → Int) (f6 : Int → Int)  : cWi l yX5_forget wsX5_forget (rmW 0 0 0 0) D (TYS cB cI cZ cM) [.ref o0] [(o0, .inr (5, [.long tr, .ref o1, .int (zI td), .ref o2, .ref o3, .ref o4, .ref o5, .int (zI g1), .int (zI g2), .int (zI g3), .int (zI g4), .int (zI g5), .int (zI g6), .ref o6, .ref o7, .ref o8, .ref o9, .int (zI g7), .ref oz])), (o2, .inl (cI, 16, .inl (zia f2))), (o3, .inl (cI, 8, .inl (zia f3))), (o5, .inl (cI, 4, .inl (zia f5))), (o6, .inl (cI, 63, .inl (zia f6)))] Hp (fun (r : Int32) (u : Int → Int) => r = zI (f6 4) ∧ (u = zup f6 4 0)) (fun (u : Int → Int) => [(o0, .inr (5, [.long tr, .ref o1, .int (zI td), .ref o2, .ref o3, .ref o4, .ref o5, .int (zI g1), .int (zI g2), .int (zI g3), .int (zI g4), .int (zI g5), .int (zI g6), .ref o6, .ref o7, .ref o8, .ref o9, .int (zI g7), .ref oz])), (o2, .inl (cI, 16, .inl (zia f2))), (o3, .inl (cI, 8, .inl (zia f3))), (o5, .inl (cI, 4, .inl (zia f5))), (o6, .inl (cI, 63, .inl (zia u)))]) 0 0 := by
  refine wr_starti (by decide) rfl (Nat.le_of_ble_eq_true rfl) ?_
  intro pg ev sx mm args below meth cd ls A M hP hD hS hA hK hl
  obtain ⟨hx, hb, hr, hml, hown, hts, hlk, hN0⟩ := id M
  have hl : lv_has ls 2 [(0, .ref o0)] := hl
  refine W.widen (k := 0) (n := 0) (Nat.zero_le _) (Nat.zero_le _) ?_
  refine lv_aload_n hx hb dX5_forget_0 rfl (lv_at hl 0 rfl) ?_
  refine va_get (D := D) (ci := 5) (C := RX5) (T := TX5) (N := 19) hx hb hts inc_X5_forget_5 hown hK hP 0 rfl rfl 13 (by decide) (hts (.fieldLink RX5 26 "BedHouseModel" "now" "[I") (by decide +kernel)) (fun _ h9 => h9) rfl dX5_forget_1 ?_
  refine lv_iconst (v := zI 4) hx hb dX5_forget_4 rfl ?_
  refine z_iald hx hb hK hP 4 1 rfl rfl (Nat.le_of_ble_eq_true rfl) dX5_forget_5 (by omega) ?_
  refine lv_istore_n (lv' := [(1, .int (zI (f6 4))), (0, .ref o0)]) hx hb dX5_forget_6 rfl hl (by decide) rfl (fun ls hl => ?_)
  refine lv_aload_n hx hb dX5_forget_7 rfl (lv_at hl 1 rfl) ?_
  refine va_get (D := D) (ci := 5) (C := RX5) (T := TX5) (N := 19) hx hb hts inc_X5_forget_5 hown hK hP 0 rfl rfl 13 (by decide) (hts (.fieldLink RX5 26 "BedHouseModel" "now" "[I") (by decide +kernel)) (fun _ h9 => h9) rfl dX5_forget_8 ?_
  refine lv_iconst (v := zI 4) hx hb dX5_forget_11 rfl ?_
  refine lv_iconst (v := zI 0) hx hb dX5_forget_12 rfl ?_
  refine z_iast (ws' := [(o0, .inr (5, [.long tr, .ref o1, .int (zI td), .ref o2, .ref o3, .ref o4, .ref o5, .int (zI g1), .int (zI g2), .int (zI g3), .int (zI g4), .int (zI g5), .int (zI g6), .ref o6, .ref o7, .ref o8, .ref o9, .int (zI g7), .ref oz])), (o2, .inl (cI, 16, .inl (zia f2))), (o3, .inl (cI, 8, .inl (zia f3))), (o5, .inl (cI, 4, .inl (zia f5))), (o6, .inl (cI, 63, .inl (zia (zup f6 4 0))))]) hx hb hK hP hD hS 4 1 rfl rfl (Nat.le_of_ble_eq_true rfl) dX5_forget_13 rfl (by omega) (fun H locs hP hD hS => ?_)
  refine lv_iload_n hx hb dX5_forget_14 rfl (lv_at hl 0 rfl) ?_
  exact wr_reti M dX5_forget_15 (u := zup f6 4 0) ⟨(congrArg zI (by rfl)), (by rfl)⟩ hP hD hS
set_option maxHeartbeats 4000000 in
set_option maxRecDepth 100000 in
theorem c_X5_count (l : Launch) (D : va_G) (cB cI cZ cM : ClassId) (Hp : Heap) (o0 : Nat) (o1 : Nat) (o2 : Nat) (o3 : Nat) (o4 : Nat) (o5 : Nat) (o6 : Nat) (o7 : Nat) (o8 : Nat) (o9 : Nat) (oz : Nat) (tr : Int64) (td : Int) (g1 : Int) (g2 : Int) (g3 : Int) (g4 : Int) (g5 : Int) (g6 : Int) (g7 : Int) (f2 : Int → Int) (f3 : Int → Int) (f5 : Int → Int) (f6 : Int → Int) (wh : Int) (hp2 : okR f2 f3 f5) (hn6 : okN f2 f6) (hwh0 : -2147483648 ≤ wh ∧ wh < 2147483648) : cP l yX5_count wsX5_count 3 67 D (TYS cB cI cZ cM) [.ref o0, .int (zI wh)] [(o0, .inr (5, [.long tr, .ref o1, .int (zI td), .ref o2, .ref o3, .ref o4, .ref o5, .int (zI g1), .int (zI g2), .int (zI g3), .int (zI g4), .int (zI g5), .int (zI g6), .ref o6, .ref o7, .ref o8, .ref o9, .int (zI g7), .ref oz])), (o2, .inl (cI, 16, .inl (zia f2))), (o3, .inl (cI, 8, .inl (zia f3))), (o5, .inl (cI, 4, .inl (zia f5))), (o6, .inl (cI, 63, .inl (zia f6)))] Hp (fun r => r = zI (if wh = 0 then f2 0 else if wh = 1 then f2 1 else if wh = 2 then lyC (slI (f2 0) (f6 0)) (f2 0).toNat 0 else if wh = 3 then f6 4 else if wh = 4 then td else -1)) := by
  refine pu_start (by decide) rfl (Nat.le_of_ble_eq_true rfl) ?_
  intro pg ev sx mm args below meth cd ls M hP hK hl
  obtain ⟨hx, hb, hr, hml, hown, hts, hlk, hN0⟩ := id M
  have hl : lv_has ls 2 [(0, .ref o0), (1, .int (zI wh))] := hl
  obtain ⟨hPm, hB1, hra, hsu, hvw, hno, hdn6, hha7, hso, hbm⟩ := id hp2
  obtain ⟨hhm, hdy, hac, hlk, hmn, hcl⟩ := id hn6
  refine lv_iload_n hx hb dX5_count_0 rfl (lv_at hl 1 rfl) ?_
  refine z_if_ne (tgt := 13) hx hb dX5_count_1 (by decide) (by omega) (fun c_1 => ?_) (fun c_1 => ?_)
  · skip
    refine lv_iload_n hx hb dX5_count_13 rfl (lv_at hl 1 rfl) ?_
    refine lv_iconst (v := zI 1) hx hb dX5_count_14 rfl ?_
    refine z_icmp_ne (tgt := 27) hx hb dX5_count_15 (by decide) (by omega) (fun c_15 => ?_) (fun c_15 => ?_)
    · skip
      refine lv_iload_n hx hb dX5_count_27 rfl (lv_at hl 1 rfl) ?_
      refine lv_iconst (v := zI 2) hx hb dX5_count_28 rfl ?_
      refine z_icmp_ne (tgt := 45) hx hb dX5_count_29 (by decide) (by omega) (fun c_29 => ?_) (fun c_29 => ?_)
      · skip
        refine lv_iload_n hx hb dX5_count_45 rfl (lv_at hl 1 rfl) ?_
        refine lv_iconst (v := zI 3) hx hb dX5_count_46 rfl ?_
        refine z_icmp_ne (tgt := 59) hx hb dX5_count_47 (by decide) (by omega) (fun c_47 => ?_) (fun c_47 => ?_)
        · skip
          refine lv_iload_n hx hb dX5_count_59 rfl (lv_at hl 1 rfl) ?_
          refine lv_iconst (v := zI 4) hx hb dX5_count_60 rfl ?_
          refine z_icmp_ne (tgt := 71) hx hb dX5_count_61 (by decide) (by omega) (fun c_61 => ?_) (fun c_61 => ?_)
          · skip
            refine lv_iconst (v := zI (-1)) hx hb dX5_count_71 rfl ?_
            exact pu_ret M dX5_count_72 (congrArg zI (by rw [if_neg (by omega), if_neg c_15, if_neg c_29, if_neg c_47, if_neg c_61]))
          refine lv_aload_n hx hb dX5_count_64 rfl (lv_at hl 0 rfl) ?_
          refine va_get (D := D) (ci := 5) (C := RX5) (T := TX5) (N := 19) hx hb hts inc_X5_count_5 hown hK hP 0 rfl rfl 2 (by decide) (hts (.fieldLink RX5 50 "BedHouseModel" "typed" "I") (by decide +kernel)) (fun _ h9 => h9) rfl dX5_count_65 ?_
          refine lv_goto (tgt := 72) hx hb dX5_count_68 (by decide) ?_
          exact pu_ret M dX5_count_72 (congrArg zI (by rw [if_neg (by omega), if_neg c_15, if_neg c_29, if_neg c_47, if_pos c_61]))
        refine lv_aload_n hx hb dX5_count_50 rfl (lv_at hl 0 rfl) ?_
        refine va_get (D := D) (ci := 5) (C := RX5) (T := TX5) (N := 19) hx hb hts inc_X5_count_5 hown hK hP 0 rfl rfl 13 (by decide) (hts (.fieldLink RX5 26 "BedHouseModel" "now" "[I") (by decide +kernel)) (fun _ h9 => h9) rfl dX5_count_51 ?_
        refine lv_iconst (v := zI 4) hx hb dX5_count_54 rfl ?_
        refine z_iald hx hb hK hP 4 1 rfl rfl (Nat.le_of_ble_eq_true rfl) dX5_count_55 (by omega) ?_
        refine lv_goto (tgt := 72) hx hb dX5_count_56 (by decide) ?_
        exact pu_ret M dX5_count_72 (congrArg zI (by rw [if_neg (by omega), if_neg c_15, if_neg c_29, if_pos c_47]))
      refine lv_aload_n hx hb dX5_count_32 rfl (lv_at hl 0 rfl) ?_
      refine lv_aload_n hx hb dX5_count_33 rfl (lv_at hl 0 rfl) ?_
      refine va_get (D := D) (ci := 5) (C := RX5) (T := TX5) (N := 19) hx hb hts inc_X5_count_5 hown hK hP 0 rfl rfl 13 (by decide) (hts (.fieldLink RX5 26 "BedHouseModel" "now" "[I") (by decide +kernel)) (fun _ h9 => h9) rfl dX5_count_34 ?_
      refine lv_iconst (v := zI 0) hx hb dX5_count_37 rfl ?_
      refine z_iald hx hb hK hP 4 1 rfl rfl (Nat.le_of_ble_eq_true rfl) dX5_count_38 (by omega) ?_
      refine pc_V (As := [.int (zI (f6 0))]) (rest := []) M (c_X5_lying l D cB cI cZ cM _ o0 o1 o2 o3 o4 o5 o6 o7 o8 o9 oz tr td g1 g2 g3 g4 g5 g6 g7 f2 (f6 0) (by first | assumption | omega) (by first | assumption | omega)) gX5_count_X5_lying rfl ⟨rfl, hd_X5_lying⟩ ⟨Nat.le_of_ble_eq_true rfl, Nat.le_of_ble_eq_true rfl⟩ hK hP [0, 1] rfl 0 5 rfl rfl rfl hl.1 rfl rfl (Nat.le_of_ble_eq_true rfl) dX5_count_39 ⟨Nat.le_of_ble_eq_true rfl, Nat.le_of_ble_eq_true rfl⟩ (fun r_39 h_39 => ?_)
      subst h_39
      refine lv_goto (tgt := 72) hx hb dX5_count_42 (by decide) ?_
      exact pu_ret M dX5_count_72 (congrArg zI (by rw [if_neg (by omega), if_neg c_15, if_pos c_29]))
    refine lv_aload_n hx hb dX5_count_18 rfl (lv_at hl 0 rfl) ?_
    refine va_get (D := D) (ci := 5) (C := RX5) (T := TX5) (N := 19) hx hb hts inc_X5_count_5 hown hK hP 0 rfl rfl 3 (by decide) (hts (.fieldLink RX5 13 "BedHouseModel" "plan" "[I") (by decide +kernel)) (fun _ h9 => h9) rfl dX5_count_19 ?_
    refine lv_iconst (v := zI 1) hx hb dX5_count_22 rfl ?_
    refine z_iald hx hb hK hP 1 1 rfl rfl (Nat.le_of_ble_eq_true rfl) dX5_count_23 (by omega) ?_
    refine lv_goto (tgt := 72) hx hb dX5_count_24 (by decide) ?_
    exact pu_ret M dX5_count_72 (congrArg zI (by rw [if_neg (by omega), if_pos c_15]))
  refine lv_aload_n hx hb dX5_count_4 rfl (lv_at hl 0 rfl) ?_
  refine va_get (D := D) (ci := 5) (C := RX5) (T := TX5) (N := 19) hx hb hts inc_X5_count_5 hown hK hP 0 rfl rfl 3 (by decide) (hts (.fieldLink RX5 13 "BedHouseModel" "plan" "[I") (by decide +kernel)) (fun _ h9 => h9) rfl dX5_count_5 ?_
  refine lv_iconst (v := zI 0) hx hb dX5_count_8 rfl ?_
  refine z_iald hx hb hK hP 1 1 rfl rfl (Nat.le_of_ble_eq_true rfl) dX5_count_9 (by omega) ?_
  refine lv_goto (tgt := 72) hx hb dX5_count_10 (by decide) ?_
  exact pu_ret M dX5_count_72 (congrArg zI (by rw [if_pos (by omega)]))
set_option maxHeartbeats 4000000 in
set_option maxRecDepth 100000 in
theorem c_X5_trace (l : Launch) (D : va_G) (cB cI cZ cM : ClassId) (Hp : Heap) (o0 : Nat) (o1 : Nat) (o2 : Nat) (o3 : Nat) (o4 : Nat) (o5 : Nat) (o6 : Nat) (o7 : Nat) (o8 : Nat) (o9 : Nat) (oz : Nat) (tr : Int64) (td : Int) (g1 : Int) (g2 : Int) (g3 : Int) (g4 : Int) (g5 : Int) (g6 : Int) (g7 : Int)  : cPl l yX5_trace wsX5_trace 0 0 D (TYS cB cI cZ cM) [.ref o0] [(o0, .inr (5, [.long tr, .ref o1, .int (zI td), .ref o2, .ref o3, .ref o4, .ref o5, .int (zI g1), .int (zI g2), .int (zI g3), .int (zI g4), .int (zI g5), .int (zI g6), .ref o6, .ref o7, .ref o8, .ref o9, .int (zI g7), .ref oz]))] Hp (fun r => r = tr) := by
  refine pul_start (by decide) rfl (Nat.le_of_ble_eq_true rfl) ?_
  intro pg ev sx mm args below meth cd ls M hP hK hl
  obtain ⟨hx, hb, hr, hml, hown, hts, hlk, hN0⟩ := id M
  have hl : lv_has ls 1 [(0, .ref o0)] := hl
  refine lv_aload_n hx hb dX5_trace_0 rfl (lv_at hl 0 rfl) ?_
  refine va_get (D := D) (ci := 5) (C := RX5) (T := TX5) (N := 19) hx hb hts inc_X5_trace_5 hown hK hP 0 rfl rfl 0 (by decide) (hts (.fieldLink RX5 180 "BedHouseModel" "trace" "J") (by decide +kernel)) (fun _ h9 => h9) rfl dX5_trace_1 ?_
  exact pu_lret M dX5_trace_4 rfl
set_option maxHeartbeats 4000000 in
set_option maxRecDepth 100000 in
theorem c_X5_clear (l : Launch) (D : va_G) (cB cI cZ cM : ClassId) (Hp : Heap) (o0 : Nat) (o1 : Nat) (o2 : Nat) (o3 : Nat) (o4 : Nat) (o5 : Nat) (o6 : Nat) (o7 : Nat) (o8 : Nat) (o9 : Nat) (oz : Nat) (tr : Int64) (td : Int) (g1 : Int) (g2 : Int) (g3 : Int) (g4 : Int) (g5 : Int) (g6 : Int) (g7 : Int)  : cWi l yX5_clear wsX5_clear (rmW 0 0 0 0) D (TYS cB cI cZ cM) [.ref o0] [(o0, .inr (5, [.long tr, .ref o1, .int (zI td), .ref o2, .ref o3, .ref o4, .ref o5, .int (zI g1), .int (zI g2), .int (zI g3), .int (zI g4), .int (zI g5), .int (zI g6), .ref o6, .ref o7, .ref o8, .ref o9, .int (zI g7), .ref oz]))] Hp (fun (r : Int32) (_u : Unit) => r = zI td) (fun (_u : Unit) => [(o0, .inr (5, [.long tr, .ref o1, .int (zI 0), .ref o2, .ref o3, .ref o4, .ref o5, .int (zI g1), .int (zI g2), .int (zI g3), .int (zI g4), .int (zI g5), .int (zI g6), .ref o6, .ref o7, .ref o8, .ref o9, .int (zI g7), .ref oz]))]) 0 0 := by
  refine wr_starti (by decide) rfl (Nat.le_of_ble_eq_true rfl) ?_
  intro pg ev sx mm args below meth cd ls A M hP hD hS hA hK hl
  obtain ⟨hx, hb, hr, hml, hown, hts, hlk, hN0⟩ := id M
  have hl : lv_has ls 2 [(0, .ref o0)] := hl
  refine W.widen (k := 0) (n := 0) (Nat.zero_le _) (Nat.zero_le _) ?_
  refine lv_aload_n hx hb dX5_clear_0 rfl (lv_at hl 0 rfl) ?_
  refine va_get (D := D) (ci := 5) (C := RX5) (T := TX5) (N := 19) hx hb hts inc_X5_clear_5 hown hK hP 0 rfl rfl 2 (by decide) (hts (.fieldLink RX5 50 "BedHouseModel" "typed" "I") (by decide +kernel)) (fun _ h9 => h9) rfl dX5_clear_1 ?_
  refine lv_istore_n (lv' := [(1, .int (zI td)), (0, .ref o0)]) hx hb dX5_clear_4 rfl hl (by decide) rfl (fun ls hl => ?_)
  refine lv_aload_n hx hb dX5_clear_5 rfl (lv_at hl 1 rfl) ?_
  refine lv_iconst (v := zI 0) hx hb dX5_clear_6 rfl ?_
  refine va_put (D := D) (ci := 5) (v := .int (zI 0)) (ty := .int) (C := RX5) (T := TX5) (N := 19) hx hb hts inc_X5_clear_5 tyX5 tyX5_ok nmX5 hown hK hP hD hS 0 rfl rfl 2 (by decide) (hts (.fieldLink RX5 50 "BedHouseModel" "typed" "I") (by decide +kernel)) (fun _ h9 => h9) rfl (by decide +kernel) rfl rfl (Nat.le_of_ble_eq_true rfl) dX5_clear_7 (fun H locs hP hD hS => ?_)
  have hP : va_P D vwCl [(o0, .inr (5, [.long tr, .ref o1, .int (zI 0), .ref o2, .ref o3, .ref o4, .ref o5, .int (zI g1), .int (zI g2), .int (zI g3), .int (zI g4), .int (zI g5), .int (zI g6), .ref o6, .ref o7, .ref o8, .ref o9, .int (zI g7), .ref oz]))] H := hP
  have hD : va_D A [(o0, .inr (5, [.long tr, .ref o1, .int (zI 0), .ref o2, .ref o3, .ref o4, .ref o5, .int (zI g1), .int (zI g2), .int (zI g3), .int (zI g4), .int (zI g5), .int (zI g6), .ref o6, .ref o7, .ref o8, .ref o9, .int (zI g7), .ref oz]))] := hD
  refine lv_iload_n hx hb dX5_clear_10 rfl (lv_at hl 0 rfl) ?_
  exact wr_reti M dX5_clear_11 (u := ()) (congrArg zI (by rfl)) hP hD hS
set_option maxHeartbeats 4000000 in
set_option maxRecDepth 100000 in
theorem lp_X5_copy_2 (l : Launch) (D : va_G) (cB cI cZ cM : ClassId) (o0 : Nat) (o1 : Nat) (o2 : Nat) (o3 : Nat) (o4 : Nat) (o5 : Nat) (o6 : Nat) (o7 : Nat) (o8 : Nat) (o9 : Nat) (oz : Nat) (tr : Int64) (td : Int) (g1 : Int) (g2 : Int) (g3 : Int) (g4 : Int) (g5 : Int) (g6 : Int) (g7 : Int) (f6 : Int → Int) (a : Int) (b : Int) (hfa : 0 ≤ a ∧ a ≤ 42) (hfb : 0 ≤ b ∧ b ≤ 42) {pg : Program} {ev : Env} {sx : State} {mm : MethodId} {args : Array Value} {below : List Frame} {meth : Method} {cd : Code} (M : MX pg sx mm args meth cd cX5_copy 4 none RX5 wsX5_copy) (hK : va_K D vwCl (TYS cB cI cZ cM) sx) {A : Nat → Prop} (hA : ∀ q : Nat, sx.heap.size ≤ q → A q) : ∀ (N : Nat) (n : Nat) (k : Int) (F : Int → Int), (n < N) → (0 ≤ k ∧ k + n = 21) → (cpF a b n k F = cpF a b 21 0 f6) → ∀ (H : Heap) (locs : List Loc), va_P D vwCl [(o0, .inr (5, [.long tr, .ref o1, .int (zI td), .ref o2, .ref o3, .ref o4, .ref o5, .int (zI g1), .int (zI g2), .int (zI g3), .int (zI g4), .int (zI g5), .int (zI g6), .ref o6, .ref o7, .ref o8, .ref o9, .int (zI g7), .ref oz])), (o6, .inl (cI, 63, .inl (zia F)))] H → va_D A [(o0, .inr (5, [.long tr, .ref o1, .int (zI td), .ref o2, .ref o3, .ref o4, .ref o5, .int (zI g1), .int (zI g2), .int (zI g3), .int (zI g4), .int (zI g5), .int (zI g6), .ref o6, .ref o7, .ref o8, .ref o9, .int (zI g7), .ref oz])), (o6, .inl (cI, 63, .inl (zia F)))] → va_S A sx.heap H locs → ∀ ls : Array Slot, lv_has ls 4 [(0, .ref o0), (1, .int (zI a)), (2, .int (zI b)), (3, .int (zI k))] → W pg l ev (rmW 0 0 0 0) sx mm args below meth cd H locs 0 0 (QWv below args sx A D (fun (u : Int → Int) => u = cpF a b 21 0 f6) (fun (u : Int → Int) => [(o0, .inr (5, [.long tr, .ref o1, .int (zI td), .ref o2, .ref o3, .ref o4, .ref o5, .int (zI g1), .int (zI g2), .int (zI g3), .int (zI g4), .int (zI g5), .int (zI g6), .ref o6, .ref o7, .ref o8, .ref o9, .int (zI g7), .ref oz])), (o6, .inl (cI, 63, .inl (zia u)))]) 0 0) (F0 mm 2 ls []) := by
  intro N
  induction N with
  | zero => intro n k F hN; exact absurd hN (Nat.not_lt_zero _)
  | succ N ih =>
    intro n k F hN hi hv H locs hP hD hS ls hl
    obtain ⟨hx, hb, hr, hml, hown, hts, hlk, hN0⟩ := id M
    refine lv_iload_n hx hb dX5_copy_2 rfl (lv_at hl 3 rfl) ?_
    refine lv_bipush (v := zI 21) hx hb dX5_copy_3 (by decide) ?_
    refine z_icmp_ge (tgt := 30) hx hb dX5_copy_5 (by decide) (by omega) (fun c_5 => ?_) (fun c_5 => ?_)
    · skip
      obtain rfl : n = 0 := by omega
      exact wr_retv M dX5_copy_30 (u := F) (by rw [← hv, cpF]) hP hD hS
    obtain ⟨n, rfl⟩ : ∃ j : Nat, n = j + 1 := ⟨n - 1, by omega⟩
    refine lv_aload_n hx hb dX5_copy_8 rfl (lv_at hl 0 rfl) ?_
    refine va_get (D := D) (ci := 5) (C := RX5) (T := TX5) (N := 19) hx hb hts inc_X5_copy_5 hown hK hP 0 rfl rfl 13 (by decide) (hts (.fieldLink RX5 26 "BedHouseModel" "now" "[I") (by decide +kernel)) (fun _ h9 => h9) rfl dX5_copy_9 ?_
    refine lv_iload_n hx hb dX5_copy_12 rfl (lv_at hl 2 rfl) ?_
    refine lv_iload_n hx hb dX5_copy_13 rfl (lv_at hl 3 rfl) ?_
    refine z_iadd hx hb dX5_copy_14 ?_
    refine lv_aload_n hx hb dX5_copy_15 rfl (lv_at hl 0 rfl) ?_
    refine va_get (D := D) (ci := 5) (C := RX5) (T := TX5) (N := 19) hx hb hts inc_X5_copy_5 hown hK hP 0 rfl rfl 13 (by decide) (hts (.fieldLink RX5 26 "BedHouseModel" "now" "[I") (by decide +kernel)) (fun _ h9 => h9) rfl dX5_copy_16 ?_
    refine lv_iload_n hx hb dX5_copy_19 rfl (lv_at hl 1 rfl) ?_
    refine lv_iload_n hx hb dX5_copy_20 rfl (lv_at hl 3 rfl) ?_
    refine z_iadd hx hb dX5_copy_21 ?_
    refine z_iald hx hb hK hP 1 1 rfl rfl (Nat.le_of_ble_eq_true rfl) dX5_copy_22 (by omega) ?_
    refine z_iast (ws' := [(o0, .inr (5, [.long tr, .ref o1, .int (zI td), .ref o2, .ref o3, .ref o4, .ref o5, .int (zI g1), .int (zI g2), .int (zI g3), .int (zI g4), .int (zI g5), .int (zI g6), .ref o6, .ref o7, .ref o8, .ref o9, .int (zI g7), .ref oz])), (o6, .inl (cI, 63, .inl (zia (zup F (b + k) (F (a + k))))))]) hx hb hK hP hD hS 1 1 rfl rfl (Nat.le_of_ble_eq_true rfl) dX5_copy_23 rfl (by omega) (fun H locs hP hD hS => ?_)
    refine z_iinc (a := k) (k := 3) (lv' := [(3, .int (zI (k + 1))), (0, .ref o0), (1, .int (zI a)), (2, .int (zI b))]) hx hb dX5_copy_24 hl rfl (by decide) rfl (fun ls hl => ?_)
    refine lv_goto (tgt := 2) hx hb dX5_copy_27 (by decide) ?_
    exact ih n (k + 1) (zup F (b + k) (F (a + k))) (by omega) (by omega) (by rw [← hv, cpF]) _ _ hP hD hS _ (lv_sub hl [1, 2, 3, 0] rfl)
set_option maxHeartbeats 4000000 in
set_option maxRecDepth 100000 in
theorem c_X5_copy (l : Launch) (D : va_G) (cB cI cZ cM : ClassId) (Hp : Heap) (o0 : Nat) (o1 : Nat) (o2 : Nat) (o3 : Nat) (o4 : Nat) (o5 : Nat) (o6 : Nat) (o7 : Nat) (o8 : Nat) (o9 : Nat) (oz : Nat) (tr : Int64) (td : Int) (g1 : Int) (g2 : Int) (g3 : Int) (g4 : Int) (g5 : Int) (g6 : Int) (g7 : Int) (f6 : Int → Int) (a : Int) (b : Int) (hfa : 0 ≤ a ∧ a ≤ 42) (hfb : 0 ≤ b ∧ b ≤ 42) : cWv l yX5_copy wsX5_copy (rmW 0 0 0 0) D (TYS cB cI cZ cM) [.ref o0, .int (zI a), .int (zI b)] [(o0, .inr (5, [.long tr, .ref o1, .int (zI td), .ref o2, .ref o3, .ref o4, .ref o5, .int (zI g1), .int (zI g2), .int (zI g3), .int (zI g4), .int (zI g5), .int (zI g6), .ref o6, .ref o7, .ref o8, .ref o9, .int (zI g7), .ref oz])), (o6, .inl (cI, 63, .inl (zia f6)))] Hp (fun (u : Int → Int) => u = cpF a b 21 0 f6) (fun (u : Int → Int) => [(o0, .inr (5, [.long tr, .ref o1, .int (zI td), .ref o2, .ref o3, .ref o4, .ref o5, .int (zI g1), .int (zI g2), .int (zI g3), .int (zI g4), .int (zI g5), .int (zI g6), .ref o6, .ref o7, .ref o8, .ref o9, .int (zI g7), .ref oz])), (o6, .inl (cI, 63, .inl (zia u)))]) 0 0 := by
  refine wr_startv (by decide) rfl (Nat.le_of_ble_eq_true rfl) ?_
  intro pg ev sx mm args below meth cd ls A M hP hD hS hA hK hl
  obtain ⟨hx, hb, hr, hml, hown, hts, hlk, hN0⟩ := id M
  have hl : lv_has ls 4 [(0, .ref o0), (1, .int (zI a)), (2, .int (zI b))] := hl
  refine W.widen (k := 0) (n := 0) (Nat.zero_le _) (Nat.zero_le _) ?_
  refine lv_iconst (v := zI 0) hx hb dX5_copy_0 rfl ?_
  refine lv_istore_n (lv' := [(3, .int (zI 0)), (0, .ref o0), (1, .int (zI a)), (2, .int (zI b))]) hx hb dX5_copy_1 rfl hl (by decide) rfl (fun ls hl => ?_)
  exact lp_X5_copy_2 l D cB cI cZ cM o0 o1 o2 o3 o4 o5 o6 o7 o8 o9 oz tr td g1 g2 g3 g4 g5 g6 g7 f6 a b hfa hfb M hK hA (21 + 1) 21 0 f6 (Nat.lt_succ_self _) (by omega) (by rfl) _ _ hP hD hS _ (lv_sub hl [1, 2, 3, 0] rfl)
set_option maxHeartbeats 4000000 in
set_option maxRecDepth 100000 in
theorem c_X5_refuses (l : Launch) (D : va_G) (cB cI cZ cM : ClassId) (Hp : Heap) (o0 : Nat) (o1 : Nat) (o2 : Nat) (o3 : Nat) (o4 : Nat) (o5 : Nat) (o6 : Nat) (o7 : Nat) (o8 : Nat) (o9 : Nat) (oz : Nat) (tr : Int64) (td : Int) (g1 : Int) (g2 : Int) (g3 : Int) (g4 : Int) (g5 : Int) (g6 : Int) (g7 : Int) (f7 : Int → Int) (g : Int) (h71 : ∀ i : Int, 0 ≤ i → i < 2 → f7 i = 0 ∨ f7 i = 1) (hg0 : -2147483648 ≤ g ∧ g < 2147483648) : cP l yX5_refuses wsX5_refuses 1 22 D (TYS cB cI cZ cM) [.ref o0, .int (zI g)] [(o0, .inr (5, [.long tr, .ref o1, .int (zI td), .ref o2, .ref o3, .ref o4, .ref o5, .int (zI g1), .int (zI g2), .int (zI g3), .int (zI g4), .int (zI g5), .int (zI g6), .ref o6, .ref o7, .ref o8, .ref o9, .int (zI g7), .ref oz])), (o7, .inl (cZ, 2, .inl (zia f7)))] Hp (fun r => r = zI (reM f7 g)) := by
  refine pu_start (by decide) rfl (Nat.le_of_ble_eq_true rfl) ?_
  intro pg ev sx mm args below meth cd ls M hP hK hl
  obtain ⟨hx, hb, hr, hml, hown, hts, hlk, hN0⟩ := id M
  have hl : lv_has ls 2 [(0, .ref o0), (1, .int (zI g))] := hl
  refine lv_iload_n hx hb dX5_refuses_0 rfl (lv_at hl 1 rfl) ?_
  refine lv_iconst (v := zI 0) hx hb dX5_refuses_1 rfl ?_
  refine lv_iconst (v := zI 1) hx hb dX5_refuses_2 rfl ?_
  refine pc_J (As := [.int (zI g), .int (zI 0), .int (zI 1)]) (rest := []) M (c_X5_in l D cB cI cZ cM _ g 0 1 (by first | assumption | omega) (by first | assumption | omega) (by first | assumption | omega)) gX5_refuses_X5_in rfl hd_X5_in ⟨Nat.le_of_ble_eq_true rfl, Nat.le_of_ble_eq_true rfl⟩ hK hP [] rfl hl.1 rfl rfl (Nat.le_of_ble_eq_true rfl) dX5_refuses_3 ⟨Nat.le_of_ble_eq_true rfl, Nat.le_of_ble_eq_true rfl⟩ (fun r_3 h_3 => ?_)
  subst h_3
  refine z_if_ne (tgt := 13) hx hb dX5_refuses_6 (by decide) (zb_bd _) (fun c_6 => ?_) (fun c_6 => ?_)
  · skip
    have c_6 := zb_t c_6
    refine lv_aload_n hx hb dX5_refuses_13 rfl (lv_at hl 0 rfl) ?_
    refine va_get (D := D) (ci := 5) (C := RX5) (T := TX5) (N := 19) hx hb hts inc_X5_refuses_5 hown hK hP 0 rfl rfl 14 (by decide) (hts (.fieldLink RX5 29 "BedHouseModel" "isKept" "[Z") (by decide +kernel)) (fun _ h9 => h9) rfl dX5_refuses_14 ?_
    refine lv_iload_n hx hb dX5_refuses_17 rfl (lv_at hl 1 rfl) ?_
    refine z_zald hx hb hK hP 1 2 rfl rfl (Nat.le_of_ble_eq_true rfl) dX5_refuses_18 (by omega) ?_
    have h7g := h71 g (by omega) (by omega)
    refine z_if_eq (tgt := 26) hx hb dX5_refuses_19 (by decide) (by omega) (fun c_19 => ?_) (fun c_19 => ?_)
    · skip
      refine lv_bipush (v := zI (-2)) hx hb dX5_refuses_26 (by decide) ?_
      exact pu_ret M dX5_refuses_28 (congrArg zI (by unfold reM; rw [if_neg (fun q => q c_6), if_pos c_19]))
    refine lv_iconst (v := zI 0) hx hb dX5_refuses_22 rfl ?_
    refine lv_goto (tgt := 28) hx hb dX5_refuses_23 (by decide) ?_
    exact pu_ret M dX5_refuses_28 (congrArg zI (by unfold reM; rw [if_neg (fun q => q c_6), if_neg c_19]))
  have c_6 := zb_f c_6
  refine lv_iconst (v := zI (-1)) hx hb dX5_refuses_9 rfl ?_
  refine lv_goto (tgt := 28) hx hb dX5_refuses_10 (by decide) ?_
  exact pu_ret M dX5_refuses_28 (congrArg zI (by unfold reM; rw [if_pos c_6]))
set_option maxHeartbeats 4000000 in
set_option maxRecDepth 100000 in
theorem c_X5_houseOf (l : Launch) (D : va_G) (cB cI cZ cM : ClassId) (Hp : Heap) (o0 : Nat) (o1 : Nat) (o2 : Nat) (o3 : Nat) (o4 : Nat) (o5 : Nat) (o6 : Nat) (o7 : Nat) (o8 : Nat) (o9 : Nat) (oz : Nat) (tr : Int64) (td : Int) (g1 : Int) (g2 : Int) (g3 : Int) (g4 : Int) (g5 : Int) (g6 : Int) (g7 : Int) (f6 : Int → Int) (g : Int) (hg : 0 ≤ g ∧ g ≤ 1) : cP l yX5_houseOf wsX5_houseOf 0 0 D (TYS cB cI cZ cM) [.ref o0, .int (zI g)] [(o0, .inr (5, [.long tr, .ref o1, .int (zI td), .ref o2, .ref o3, .ref o4, .ref o5, .int (zI g1), .int (zI g2), .int (zI g3), .int (zI g4), .int (zI g5), .int (zI g6), .ref o6, .ref o7, .ref o8, .ref o9, .int (zI g7), .ref oz])), (o6, .inl (cI, 63, .inl (zia f6)))] Hp (fun r => r = zI (f6 (21 * (1 + g) + 0))) := by
  refine pu_start (by decide) rfl (Nat.le_of_ble_eq_true rfl) ?_
  intro pg ev sx mm args below meth cd ls M hP hK hl
  obtain ⟨hx, hb, hr, hml, hown, hts, hlk, hN0⟩ := id M
  have hl : lv_has ls 2 [(0, .ref o0), (1, .int (zI g))] := hl
  refine lv_aload_n hx hb dX5_houseOf_0 rfl (lv_at hl 0 rfl) ?_
  refine va_get (D := D) (ci := 5) (C := RX5) (T := TX5) (N := 19) hx hb hts inc_X5_houseOf_5 hown hK hP 0 rfl rfl 13 (by decide) (hts (.fieldLink RX5 26 "BedHouseModel" "now" "[I") (by decide +kernel)) (fun _ h9 => h9) rfl dX5_houseOf_1 ?_
  refine lv_bipush (v := zI 21) hx hb dX5_houseOf_4 (by decide) ?_
  refine lv_iconst (v := zI 1) hx hb dX5_houseOf_6 rfl ?_
  refine lv_iload_n hx hb dX5_houseOf_7 rfl (lv_at hl 1 rfl) ?_
  refine z_iadd hx hb dX5_houseOf_8 ?_
  refine z_imul hx hb dX5_houseOf_9 ?_
  refine lv_iconst (v := zI 0) hx hb dX5_houseOf_10 rfl ?_
  refine z_iadd hx hb dX5_houseOf_11 ?_
  refine z_iald hx hb hK hP 1 1 rfl rfl (Nat.le_of_ble_eq_true rfl) dX5_houseOf_12 (by omega) ?_
  exact pu_ret M dX5_houseOf_13 (congrArg zI (by rfl))
set_option maxHeartbeats 4000000 in
set_option maxRecDepth 100000 in
theorem c_X5_keep (l : Launch) (D : va_G) (cB cI cZ cM : ClassId) (Hp : Heap) (o0 : Nat) (o1 : Nat) (o2 : Nat) (o3 : Nat) (o4 : Nat) (o5 : Nat) (o6 : Nat) (o7 : Nat) (o8 : Nat) (o9 : Nat) (oz : Nat) (tr : Int64) (td : Int) (g1 : Int) (g2 : Int) (g3 : Int) (g4 : Int) (g5 : Int) (g6 : Int) (g7 : Int) (f6 : Int → Int) (f7 : Int → Int) (g : Int) (hg0 : -2147483648 ≤ g ∧ g < 2147483648) : cWi l yX5_keep wsX5_keep (rmW 1 0 0 23) D (TYS cB cI cZ cM) [.ref o0, .int (zI g)] [(o0, .inr (5, [.long tr, .ref o1, .int (zI td), .ref o2, .ref o3, .ref o4, .ref o5, .int (zI g1), .int (zI g2), .int (zI g3), .int (zI g4), .int (zI g5), .int (zI g6), .ref o6, .ref o7, .ref o8, .ref o9, .int (zI g7), .ref oz])), (o6, .inl (cI, 63, .inl (zia f6))), (o7, .inl (cZ, 2, .inl (zia f7)))] Hp (fun (r : Int32) (u : (Int → Int) × (Int → Int)) => r = zI (if 0 ≤ g ∧ g ≤ 1 then (if 0 ≤ g ∧ g ≤ 1 then (cpF 0 (21 * (1 + g)) 21 0 f6, zup f7 g 1) else (f6, f7)).1 1 else -1) ∧ (u = (if 0 ≤ g ∧ g ≤ 1 then (cpF 0 (21 * (1 + g)) 21 0 f6, zup f7 g 1) else (f6, f7)))) (fun (u : (Int → Int) × (Int → Int)) => [(o0, .inr (5, [.long tr, .ref o1, .int (zI td), .ref o2, .ref o3, .ref o4, .ref o5, .int (zI g1), .int (zI g2), .int (zI g3), .int (zI g4), .int (zI g5), .int (zI g6), .ref o6, .ref o7, .ref o8, .ref o9, .int (zI g7), .ref oz])), (o6, .inl (cI, 63, .inl (zia u.1))), (o7, .inl (cZ, 2, .inl (zia u.2)))]) 0 0 := by
  refine wr_starti (by decide) rfl (Nat.le_of_ble_eq_true rfl) ?_
  intro pg ev sx mm args below meth cd ls A M hP hD hS hA hK hl
  obtain ⟨hx, hb, hr, hml, hown, hts, hlk, hN0⟩ := id M
  have hl : lv_has ls 2 [(0, .ref o0), (1, .int (zI g))] := hl
  refine W.widen (k := 0) (n := 0) (Nat.zero_le _) (Nat.zero_le _) ?_
  refine lv_iload_n hx hb dX5_keep_0 rfl (lv_at hl 1 rfl) ?_
  refine lv_iconst (v := zI 0) hx hb dX5_keep_1 rfl ?_
  refine lv_iconst (v := zI 1) hx hb dX5_keep_2 rfl ?_
  refine pc_J (As := [.int (zI g), .int (zI 0), .int (zI 1)]) (rest := []) M (c_X5_in l D cB cI cZ cM _ g 0 1 (by first | assumption | omega) (by first | assumption | omega) (by first | assumption | omega)) gX5_keep_X5_in rfl hd_X5_in ⟨Nat.le_of_ble_eq_true rfl, Nat.le_of_ble_eq_true rfl⟩ hK hP [] rfl hl.1 rfl rfl (Nat.le_of_ble_eq_true rfl) dX5_keep_3 ⟨Nat.le_of_ble_eq_true rfl, Nat.le_of_ble_eq_true rfl⟩ (fun r_3 h_3 => ?_)
  subst h_3
  refine z_if_ne (tgt := 11) hx hb dX5_keep_6 (by decide) (zb_bd _) (fun c_6 => ?_) (fun c_6 => ?_)
  · skip
    have c_6 := zb_t c_6
    refine lv_aload_n hx hb dX5_keep_11 rfl (lv_at hl 0 rfl) ?_
    refine lv_iconst (v := zI 0) hx hb dX5_keep_12 rfl ?_
    refine lv_bipush (v := zI 21) hx hb dX5_keep_13 (by decide) ?_
    refine lv_iconst (v := zI 1) hx hb dX5_keep_15 rfl ?_
    refine lv_iload_n hx hb dX5_keep_16 rfl (lv_at hl 1 rfl) ?_
    refine z_iadd hx hb dX5_keep_17 ?_
    refine z_imul hx hb dX5_keep_18 ?_
    refine wc_Vv (As := [.int (zI 0), .int (zI (21 * (1 + g)))]) (rest := []) (wr := [(o7, .inl (cZ, 2, .inl (zia f7)))]) (ws' := (fun u_19 : Int → Int => [(o0, .inr (5, [.long tr, .ref o1, .int (zI td), .ref o2, .ref o3, .ref o4, .ref o5, .int (zI g1), .int (zI g2), .int (zI g3), .int (zI g4), .int (zI g5), .int (zI g6), .ref o6, .ref o7, .ref o8, .ref o9, .int (zI g7), .ref oz])), (o6, .inl (cI, 63, .inl (zia u_19))), (o7, .inl (cZ, 2, .inl (zia f7)))])) M (c_X5_copy l D cB cI cZ cM _ o0 o1 o2 o3 o4 o5 o6 o7 o8 o9 oz tr td g1 g2 g3 g4 g5 g6 g7 f6 0 (21 * (1 + g)) (by omega) (by omega)) gX5_keep_X5_copy rfl ⟨rfl, hd_X5_copy⟩ ⟨Nat.le_of_ble_eq_true rfl, Nat.le_of_ble_eq_true rfl⟩ hK hP hD hS hA [0, 1] [2] [1, 2, 0] rfl rfl (by decide) (by decide) (by decide) (fun _ => rfl) 0 5 rfl rfl rfl hl.1 rfl rfl (Nat.le_of_ble_eq_true rfl) dX5_keep_19 ⟨Nat.le_of_ble_eq_true rfl, Nat.le_of_ble_eq_true rfl⟩ (by decide) (fun u_19 H locs h_19 hP hD hS => ?_)
    refine lv_aload_n hx hb dX5_keep_22 rfl (lv_at hl 0 rfl) ?_
    refine va_get (D := D) (ci := 5) (C := RX5) (T := TX5) (N := 19) hx hb hts inc_X5_keep_5 hown hK hP 0 rfl rfl 14 (by decide) (hts (.fieldLink RX5 29 "BedHouseModel" "isKept" "[Z") (by decide +kernel)) (fun _ h9 => h9) rfl dX5_keep_23 ?_
    refine lv_iload_n hx hb dX5_keep_26 rfl (lv_at hl 1 rfl) ?_
    refine lv_iconst (v := zI 1) hx hb dX5_keep_27 rfl ?_
    refine z_zast (ws' := [(o0, .inr (5, [.long tr, .ref o1, .int (zI td), .ref o2, .ref o3, .ref o4, .ref o5, .int (zI g1), .int (zI g2), .int (zI g3), .int (zI g4), .int (zI g5), .int (zI g6), .ref o6, .ref o7, .ref o8, .ref o9, .int (zI g7), .ref oz])), (o6, .inl (cI, 63, .inl (zia u_19))), (o7, .inl (cZ, 2, .inl (zia (zup f7 g 1))))]) hx hb hK hP hD hS 2 2 rfl rfl (Nat.le_of_ble_eq_true rfl) dX5_keep_28 rfl (by omega) (rfl) (fun H locs hP hD hS => ?_)
    refine lv_aload_n hx hb dX5_keep_29 rfl (lv_at hl 0 rfl) ?_
    refine va_get (D := D) (ci := 5) (C := RX5) (T := TX5) (N := 19) hx hb hts inc_X5_keep_5 hown hK hP 0 rfl rfl 13 (by decide) (hts (.fieldLink RX5 26 "BedHouseModel" "now" "[I") (by decide +kernel)) (fun _ h9 => h9) rfl dX5_keep_30 ?_
    refine lv_iconst (v := zI 1) hx hb dX5_keep_33 rfl ?_
    refine z_iald hx hb hK hP 1 1 rfl rfl (Nat.le_of_ble_eq_true rfl) dX5_keep_34 (by omega) ?_
    exact wr_reti M dX5_keep_35 (u := (u_19, zup f7 g 1)) ⟨(congrArg zI (by rw [if_pos c_6, if_pos c_6, h_19])), (by rw [if_pos c_6, h_19])⟩ hP hD hS
  have c_6 := zb_f c_6
  refine lv_iconst (v := zI (-1)) hx hb dX5_keep_9 rfl ?_
  exact wr_reti M dX5_keep_10 (u := (f6, f7)) ⟨(congrArg zI (by rw [if_neg c_6])), (by rw [if_neg c_6])⟩ hP hD hS
set_option maxHeartbeats 4000000 in
set_option maxRecDepth 100000 in
theorem c_X5_back (l : Launch) (D : va_G) (cB cI cZ cM : ClassId) (Hp : Heap) (o0 : Nat) (o1 : Nat) (o2 : Nat) (o3 : Nat) (o4 : Nat) (o5 : Nat) (o6 : Nat) (o7 : Nat) (o8 : Nat) (o9 : Nat) (oz : Nat) (tr : Int64) (td : Int) (g1 : Int) (g2 : Int) (g3 : Int) (g4 : Int) (g5 : Int) (g6 : Int) (g7 : Int) (f6 : Int → Int) (f7 : Int → Int) (g : Int) (h71 : ∀ i : Int, 0 ≤ i → i < 2 → f7 i = 0 ∨ f7 i = 1) (hg0 : -2147483648 ≤ g ∧ g < 2147483648) : cWi l yX5_back wsX5_back (rmW 2 0 0 43) D (TYS cB cI cZ cM) [.ref o0, .int (zI g)] [(o0, .inr (5, [.long tr, .ref o1, .int (zI td), .ref o2, .ref o3, .ref o4, .ref o5, .int (zI g1), .int (zI g2), .int (zI g3), .int (zI g4), .int (zI g5), .int (zI g6), .ref o6, .ref o7, .ref o8, .ref o9, .int (zI g7), .ref oz])), (o6, .inl (cI, 63, .inl (zia f6))), (o7, .inl (cZ, 2, .inl (zia f7)))] Hp (fun (r : Int32) (u : Int → Int) => r = zI (if reM f7 g = 0 then (if reM f7 g = 0 then cpF (21 * (1 + g)) 0 21 0 f6 else f6) 1 else reM f7 g) ∧ (u = (if reM f7 g = 0 then cpF (21 * (1 + g)) 0 21 0 f6 else f6))) (fun (u : Int → Int) => [(o0, .inr (5, [.long tr, .ref o1, .int (zI td), .ref o2, .ref o3, .ref o4, .ref o5, .int (zI g1), .int (zI g2), .int (zI g3), .int (zI g4), .int (zI g5), .int (zI g6), .ref o6, .ref o7, .ref o8, .ref o9, .int (zI g7), .ref oz])), (o6, .inl (cI, 63, .inl (zia u))), (o7, .inl (cZ, 2, .inl (zia f7)))]) 0 0 := by
  refine wr_starti (by decide) rfl (Nat.le_of_ble_eq_true rfl) ?_
  intro pg ev sx mm args below meth cd ls A M hP hD hS hA hK hl
  obtain ⟨hx, hb, hr, hml, hown, hts, hlk, hN0⟩ := id M
  have hl : lv_has ls 2 [(0, .ref o0), (1, .int (zI g))] := hl
  refine W.widen (k := 0) (n := 0) (Nat.zero_le _) (Nat.zero_le _) ?_
  refine lv_aload_n hx hb dX5_back_0 rfl (lv_at hl 0 rfl) ?_
  refine lv_iload_n hx hb dX5_back_1 rfl (lv_at hl 1 rfl) ?_
  refine pc_V (As := [.int (zI g)]) (rest := []) M (c_X5_refuses l D cB cI cZ cM _ o0 o1 o2 o3 o4 o5 o6 o7 o8 o9 oz tr td g1 g2 g3 g4 g5 g6 g7 f7 g (by first | assumption | omega) (by first | assumption | omega)) gX5_back_X5_refuses rfl ⟨rfl, hd_X5_refuses⟩ ⟨Nat.le_of_ble_eq_true rfl, Nat.le_of_ble_eq_true rfl⟩ hK hP [0, 2] rfl 0 5 rfl rfl rfl hl.1 rfl rfl (Nat.le_of_ble_eq_true rfl) dX5_back_2 ⟨Nat.le_of_ble_eq_true rfl, Nat.le_of_ble_eq_true rfl⟩ (fun r_2 h_2 => ?_)
  subst h_2
  have hre := reM_rng f7 g
  refine z_if_eq (tgt := 14) hx hb dX5_back_5 (by decide) (by omega) (fun c_5 => ?_) (fun c_5 => ?_)
  · skip
    have hg1 := reM_0 c_5
    refine lv_aload_n hx hb dX5_back_14 rfl (lv_at hl 0 rfl) ?_
    refine lv_bipush (v := zI 21) hx hb dX5_back_15 (by decide) ?_
    refine lv_iconst (v := zI 1) hx hb dX5_back_17 rfl ?_
    refine lv_iload_n hx hb dX5_back_18 rfl (lv_at hl 1 rfl) ?_
    refine z_iadd hx hb dX5_back_19 ?_
    refine z_imul hx hb dX5_back_20 ?_
    refine lv_iconst (v := zI 0) hx hb dX5_back_21 rfl ?_
    refine wc_Vv (As := [.int (zI (21 * (1 + g))), .int (zI 0)]) (rest := []) (wr := [(o7, .inl (cZ, 2, .inl (zia f7)))]) (ws' := (fun u_22 : Int → Int => [(o0, .inr (5, [.long tr, .ref o1, .int (zI td), .ref o2, .ref o3, .ref o4, .ref o5, .int (zI g1), .int (zI g2), .int (zI g3), .int (zI g4), .int (zI g5), .int (zI g6), .ref o6, .ref o7, .ref o8, .ref o9, .int (zI g7), .ref oz])), (o6, .inl (cI, 63, .inl (zia u_22))), (o7, .inl (cZ, 2, .inl (zia f7)))])) M (c_X5_copy l D cB cI cZ cM _ o0 o1 o2 o3 o4 o5 o6 o7 o8 o9 oz tr td g1 g2 g3 g4 g5 g6 g7 f6 (21 * (1 + g)) 0 (by omega) (by omega)) gX5_back_X5_copy rfl ⟨rfl, hd_X5_copy⟩ ⟨Nat.le_of_ble_eq_true rfl, Nat.le_of_ble_eq_true rfl⟩ hK hP hD hS hA [0, 1] [2] [1, 2, 0] rfl rfl (by decide) (by decide) (by decide) (fun _ => rfl) 0 5 rfl rfl rfl hl.1 rfl rfl (Nat.le_of_ble_eq_true rfl) dX5_back_22 ⟨Nat.le_of_ble_eq_true rfl, Nat.le_of_ble_eq_true rfl⟩ (by decide) (fun u_22 H locs h_22 hP hD hS => ?_)
    refine lv_aload_n hx hb dX5_back_25 rfl (lv_at hl 0 rfl) ?_
    refine va_get (D := D) (ci := 5) (C := RX5) (T := TX5) (N := 19) hx hb hts inc_X5_back_5 hown hK hP 0 rfl rfl 13 (by decide) (hts (.fieldLink RX5 26 "BedHouseModel" "now" "[I") (by decide +kernel)) (fun _ h9 => h9) rfl dX5_back_26 ?_
    refine lv_iconst (v := zI 1) hx hb dX5_back_29 rfl ?_
    refine z_iald hx hb hK hP 1 1 rfl rfl (Nat.le_of_ble_eq_true rfl) dX5_back_30 (by omega) ?_
    exact wr_reti M dX5_back_31 (u := u_22) ⟨(congrArg zI (by rw [if_pos c_5, if_pos c_5, h_22])), (by rw [if_pos c_5, h_22])⟩ hP hD hS
  refine lv_aload_n hx hb dX5_back_8 rfl (lv_at hl 0 rfl) ?_
  refine lv_iload_n hx hb dX5_back_9 rfl (lv_at hl 1 rfl) ?_
  refine pc_V (As := [.int (zI g)]) (rest := []) M (c_X5_refuses l D cB cI cZ cM _ o0 o1 o2 o3 o4 o5 o6 o7 o8 o9 oz tr td g1 g2 g3 g4 g5 g6 g7 f7 g (by first | assumption | omega) (by first | assumption | omega)) gX5_back_X5_refuses rfl ⟨rfl, hd_X5_refuses⟩ ⟨Nat.le_of_ble_eq_true rfl, Nat.le_of_ble_eq_true rfl⟩ hK hP [0, 2] rfl 0 5 rfl rfl rfl hl.1 rfl rfl (Nat.le_of_ble_eq_true rfl) dX5_back_10 ⟨Nat.le_of_ble_eq_true rfl, Nat.le_of_ble_eq_true rfl⟩ (fun r_10 h_10 => ?_)
  subst h_10
  exact wr_reti M dX5_back_13 (u := f6) ⟨(congrArg zI (by rw [if_neg c_5])), (by rw [if_neg c_5])⟩ hP hD hS
set_option maxHeartbeats 4000000 in
set_option maxRecDepth 100000 in
theorem c_X5_mark (l : Launch) (D : va_G) (cB cI cZ cM : ClassId) (Hp : Heap) (o0 : Nat) (o1 : Nat) (o2 : Nat) (o3 : Nat) (o4 : Nat) (o5 : Nat) (o6 : Nat) (o7 : Nat) (o8 : Nat) (o9 : Nat) (oz : Nat) (tr : Int64) (td : Int) (g1 : Int) (g2 : Int) (g3 : Int) (g4 : Int) (g5 : Int) (g6 : Int) (g7 : Int) (f2 : Int → Int) (f3 : Int → Int) (f5 : Int → Int) (f6 : Int → Int) (kd : Int) (p : Int) (hp2 : okR f2 f3 f5) (hn6 : okN f2 f6) (hkd0 : -2147483648 ≤ kd ∧ kd < 2147483648) (hp0 : -2147483648 ≤ p ∧ p < 2147483648) : cWi l yX5_mark wsX5_mark (rmW 3 0 0 67) D (TYS cB cI cZ cM) [.ref o0, .int (zI kd), .int (zI p)] [(o0, .inr (5, [.long tr, .ref o1, .int (zI td), .ref o2, .ref o3, .ref o4, .ref o5, .int (zI g1), .int (zI g2), .int (zI g3), .int (zI g4), .int (zI g5), .int (zI g6), .ref o6, .ref o7, .ref o8, .ref o9, .int (zI g7), .ref oz])), (o2, .inl (cI, 16, .inl (zia f2))), (o3, .inl (cI, 8, .inl (zia f3))), (o5, .inl (cI, 4, .inl (zia f5))), (o6, .inl (cI, 63, .inl (zia f6)))] Hp (fun (r : Int32) (u : Int64) => r = zI ((mkM f2 f3 f6 kd p tr).1) ∧ (u = (mkM f2 f3 f6 kd p tr).2)) (fun (u : Int64) => [(o0, .inr (5, [.long u, .ref o1, .int (zI td), .ref o2, .ref o3, .ref o4, .ref o5, .int (zI g1), .int (zI g2), .int (zI g3), .int (zI g4), .int (zI g5), .int (zI g6), .ref o6, .ref o7, .ref o8, .ref o9, .int (zI g7), .ref oz])), (o2, .inl (cI, 16, .inl (zia f2))), (o3, .inl (cI, 8, .inl (zia f3))), (o5, .inl (cI, 4, .inl (zia f5))), (o6, .inl (cI, 63, .inl (zia f6)))]) 0 0 := by
  refine wr_starti (by decide) rfl (Nat.le_of_ble_eq_true rfl) ?_
  intro pg ev sx mm args below meth cd ls A M hP hD hS hA hK hl
  obtain ⟨hx, hb, hr, hml, hown, hts, hlk, hN0⟩ := id M
  have hl : lv_has ls 4 [(0, .ref o0), (1, .int (zI kd)), (2, .int (zI p))] := hl
  refine W.widen (k := 0) (n := 0) (Nat.zero_le _) (Nat.zero_le _) ?_
  obtain ⟨hPm, hB1, hra, hsu, hvw, hno, hdn6, hha7, hso, hbm⟩ := id hp2
  obtain ⟨hhm, hdy, hac, hlk, hmn, hcl⟩ := id hn6
  have h9r := pw9_rng (n := f2 0) (by omega)
  refine lv_iload_n hx hb dX5_mark_0 rfl (lv_at hl 1 rfl) ?_
  refine lv_iconst (v := zI 0) hx hb dX5_mark_1 rfl ?_
  refine lv_iconst (v := zI 5) hx hb dX5_mark_2 rfl ?_
  refine pc_J (As := [.int (zI kd), .int (zI 0), .int (zI 5)]) (rest := []) M (c_X5_in l D cB cI cZ cM _ kd 0 5 (by first | assumption | omega) (by first | assumption | omega) (by first | assumption | omega)) gX5_mark_X5_in rfl hd_X5_in ⟨Nat.le_of_ble_eq_true rfl, Nat.le_of_ble_eq_true rfl⟩ hK hP [] rfl hl.1 rfl rfl (Nat.le_of_ble_eq_true rfl) dX5_mark_3 ⟨Nat.le_of_ble_eq_true rfl, Nat.le_of_ble_eq_true rfl⟩ (fun r_3 h_3 => ?_)
  subst h_3
  refine z_if_eq (tgt := 17) hx hb dX5_mark_6 (by decide) (zb_bd _) (fun c_6 => ?_) (fun c_6 => ?_)
  · skip
    have c_6 := zb_f c_6
    refine lv_ldc hx hb hown (hts (.constant RX5 151 (-1000000)) (by decide +kernel)) dX5_mark_17 ?_
    refine z_top (y := zI (-1000000)) (by decide) ?_
    have hit : mkM f2 f3 f6 kd p tr = (-1000000, tr) := by unfold mkM; rw [if_neg (fun q => c_6 q.1)]
    exact wr_reti M dX5_mark_19 (u := tr) ⟨(congrArg zI (by rw [hit])), (by rw [hit])⟩ hP hD hS
  have c_6 := zb_t c_6
  refine lv_aload_n hx hb dX5_mark_9 rfl (lv_at hl 0 rfl) ?_
  refine lv_iload_n hx hb dX5_mark_10 rfl (lv_at hl 2 rfl) ?_
  refine pc_V (As := [.int (zI p)]) (rest := []) M (c_X5_isPanel l D cB cI cZ cM _ o0 o1 o2 o3 o4 o5 o6 o7 o8 o9 oz tr td g1 g2 g3 g4 g5 g6 g7 f2 p (by first | assumption | omega) (by first | assumption | omega)) gX5_mark_X5_isPanel rfl ⟨rfl, hd_X5_isPanel⟩ ⟨Nat.le_of_ble_eq_true rfl, Nat.le_of_ble_eq_true rfl⟩ hK hP [0, 1] rfl 0 5 rfl rfl rfl hl.1 rfl rfl (Nat.le_of_ble_eq_true rfl) dX5_mark_11 ⟨Nat.le_of_ble_eq_true rfl, Nat.le_of_ble_eq_true rfl⟩ (fun r_11 h_11 => ?_)
  subst h_11
  refine z_if_ne (tgt := 20) hx hb dX5_mark_14 (by decide) (zb_bd _) (fun c_14 => ?_) (fun c_14 => ?_)
  · skip
    have c_14 := zb_t c_14
    refine lv_aload_n hx hb dX5_mark_20 rfl (lv_at hl 0 rfl) ?_
    refine lv_aload_n hx hb dX5_mark_21 rfl (lv_at hl 0 rfl) ?_
    refine va_get (D := D) (ci := 5) (C := RX5) (T := TX5) (N := 19) hx hb hts inc_X5_mark_5 hown hK hP 0 rfl rfl 13 (by decide) (hts (.fieldLink RX5 26 "BedHouseModel" "now" "[I") (by decide +kernel)) (fun _ h9 => h9) rfl dX5_mark_22 ?_
    refine lv_iconst (v := zI 0) hx hb dX5_mark_25 rfl ?_
    refine z_iald hx hb hK hP 4 1 rfl rfl (Nat.le_of_ble_eq_true rfl) dX5_mark_26 (by omega) ?_
    refine lv_iload_n hx hb dX5_mark_27 rfl (lv_at hl 2 rfl) ?_
    refine pc_V (As := [.int (zI (f6 0)), .int (zI p)]) (rest := []) M (c_X5_slotIn l D cB cI cZ cM _ o0 o1 o2 o3 o4 o5 o6 o7 o8 o9 oz tr td g1 g2 g3 g4 g5 g6 g7 f2 (f6 0) p (by first | assumption | omega) (by first | assumption | omega) (by first | assumption | omega)) gX5_mark_X5_slotIn rfl ⟨rfl, hd_X5_slotIn⟩ ⟨Nat.le_of_ble_eq_true rfl, Nat.le_of_ble_eq_true rfl⟩ hK hP [0, 1] rfl 0 5 rfl rfl rfl hl.1 rfl rfl (Nat.le_of_ble_eq_true rfl) dX5_mark_28 ⟨Nat.le_of_ble_eq_true rfl, Nat.le_of_ble_eq_true rfl⟩ (fun r_28 h_28 => ?_)
    subst h_28
    refine lv_istore_n (lv' := [(3, .int (zI (slI (f2 0) (f6 0) p))), (0, .ref o0), (1, .int (zI kd)), (2, .int (zI p))]) hx hb dX5_mark_31 rfl hl (by decide) rfl (fun ls hl => ?_)
    refine lv_iload_n hx hb dX5_mark_32 rfl (lv_at hl 2 rfl) ?_
    by_cases c_33_0 : kd = 0
    · skip
      refine lv_tableIn (tgt := 68) hx hb dX5_mark_33 (by rw [zI_toInt (by omega)]; omega) (by rw [zI_toInt (by omega)]; omega) (by rw [zI_toInt (by omega), c_33_0]; rfl) (by decide) ?_
      refine lv_aload_n hx hb dX5_mark_68 rfl (lv_at hl 1 rfl) ?_
      refine lv_dup hx hb dX5_mark_69 rfl ?_
      refine va_get (D := D) (ci := 5) (C := RX5) (T := TX5) (N := 19) hx hb hts inc_X5_mark_5 hown hK hP 0 rfl rfl 0 (by decide) (hts (.fieldLink RX5 180 "BedHouseModel" "trace" "J") (by decide +kernel)) (fun _ h9 => h9) rfl dX5_mark_70 ?_
      refine lv_lconst (v := 1) hx hb dX5_mark_73 rfl ?_
      refine lv_ladd hx hb dX5_mark_74 ?_
      refine va_put (D := D) (ci := 5) (v := .long (tr + 1)) (ty := .long) (C := RX5) (T := TX5) (N := 19) hx hb hts inc_X5_mark_5 tyX5 tyX5_ok nmX5 hown hK hP hD hS 0 rfl rfl 0 (by decide) (hts (.fieldLink RX5 180 "BedHouseModel" "trace" "J") (by decide +kernel)) (fun _ h9 => h9) rfl (by decide +kernel) rfl rfl (Nat.le_of_ble_eq_true rfl) dX5_mark_75 (fun H locs hP hD hS => ?_)
      have hP : va_P D vwCl [(o0, .inr (5, [.long (tr + 1), .ref o1, .int (zI td), .ref o2, .ref o3, .ref o4, .ref o5, .int (zI g1), .int (zI g2), .int (zI g3), .int (zI g4), .int (zI g5), .int (zI g6), .ref o6, .ref o7, .ref o8, .ref o9, .int (zI g7), .ref oz])), (o2, .inl (cI, 16, .inl (zia f2))), (o3, .inl (cI, 8, .inl (zia f3))), (o5, .inl (cI, 4, .inl (zia f5))), (o6, .inl (cI, 63, .inl (zia f6)))] H := hP
      have hD : va_D A [(o0, .inr (5, [.long (tr + 1), .ref o1, .int (zI td), .ref o2, .ref o3, .ref o4, .ref o5, .int (zI g1), .int (zI g2), .int (zI g3), .int (zI g4), .int (zI g5), .int (zI g6), .ref o6, .ref o7, .ref o8, .ref o9, .int (zI g7), .ref oz])), (o2, .inl (cI, 16, .inl (zia f2))), (o3, .inl (cI, 8, .inl (zia f3))), (o5, .inl (cI, 4, .inl (zia f5))), (o6, .inl (cI, 63, .inl (zia f6)))] := hD
      refine lv_iload_n hx hb dX5_mark_78 rfl (lv_at hl 0 rfl) ?_
      have hit : mkM f2 f3 f6 kd p tr = (slI (f2 0) (f6 0) p, tr + 1) := by unfold mkM; rw [if_pos (And.intro c_6 c_14), if_pos c_33_0]
      exact wr_reti M dX5_mark_79 (u := tr + 1) ⟨(congrArg zI (by rw [hit])), (by rw [hit])⟩ hP hD hS
    by_cases c_33_1 : kd = 1
    · skip
      refine lv_tableIn (tgt := 80) hx hb dX5_mark_33 (by rw [zI_toInt (by omega)]; omega) (by rw [zI_toInt (by omega)]; omega) (by rw [zI_toInt (by omega), c_33_1]; rfl) (by decide) ?_
      refine lv_aload_n hx hb dX5_mark_80 rfl (lv_at hl 1 rfl) ?_
      refine lv_dup hx hb dX5_mark_81 rfl ?_
      refine va_get (D := D) (ci := 5) (C := RX5) (T := TX5) (N := 19) hx hb hts inc_X5_mark_5 hown hK hP 0 rfl rfl 0 (by decide) (hts (.fieldLink RX5 180 "BedHouseModel" "trace" "J") (by decide +kernel)) (fun _ h9 => h9) rfl dX5_mark_82 ?_
      refine lv_ldc2 hx hb hown (hts (.constantLong RX5 184 (11)) (by decide +kernel)) dX5_mark_85 ?_
      refine lv_ladd hx hb dX5_mark_88 ?_
      refine va_put (D := D) (ci := 5) (v := .long (tr + 11)) (ty := .long) (C := RX5) (T := TX5) (N := 19) hx hb hts inc_X5_mark_5 tyX5 tyX5_ok nmX5 hown hK hP hD hS 0 rfl rfl 0 (by decide) (hts (.fieldLink RX5 180 "BedHouseModel" "trace" "J") (by decide +kernel)) (fun _ h9 => h9) rfl (by decide +kernel) rfl rfl (Nat.le_of_ble_eq_true rfl) dX5_mark_89 (fun H locs hP hD hS => ?_)
      have hP : va_P D vwCl [(o0, .inr (5, [.long (tr + 11), .ref o1, .int (zI td), .ref o2, .ref o3, .ref o4, .ref o5, .int (zI g1), .int (zI g2), .int (zI g3), .int (zI g4), .int (zI g5), .int (zI g6), .ref o6, .ref o7, .ref o8, .ref o9, .int (zI g7), .ref oz])), (o2, .inl (cI, 16, .inl (zia f2))), (o3, .inl (cI, 8, .inl (zia f3))), (o5, .inl (cI, 4, .inl (zia f5))), (o6, .inl (cI, 63, .inl (zia f6)))] H := hP
      have hD : va_D A [(o0, .inr (5, [.long (tr + 11), .ref o1, .int (zI td), .ref o2, .ref o3, .ref o4, .ref o5, .int (zI g1), .int (zI g2), .int (zI g3), .int (zI g4), .int (zI g5), .int (zI g6), .ref o6, .ref o7, .ref o8, .ref o9, .int (zI g7), .ref oz])), (o2, .inl (cI, 16, .inl (zia f2))), (o3, .inl (cI, 8, .inl (zia f3))), (o5, .inl (cI, 4, .inl (zia f5))), (o6, .inl (cI, 63, .inl (zia f6)))] := hD
      refine lv_iconst (v := zI 2) hx hb dX5_mark_92 rfl ?_
      refine lv_iload_n hx hb dX5_mark_93 rfl (lv_at hl 0 rfl) ?_
      refine z_imul hx hb dX5_mark_94 ?_
      have hit : mkM f2 f3 f6 kd p tr = (2 * slI (f2 0) (f6 0) p, tr + 11) := by unfold mkM; rw [if_pos (And.intro c_6 c_14), if_neg c_33_0, if_pos c_33_1]
      exact wr_reti M dX5_mark_95 (u := tr + 11) ⟨(congrArg zI (by rw [hit])), (by rw [hit])⟩ hP hD hS
    by_cases c_33_2 : kd = 2
    · skip
      refine lv_tableIn (tgt := 96) hx hb dX5_mark_33 (by rw [zI_toInt (by omega)]; omega) (by rw [zI_toInt (by omega)]; omega) (by rw [zI_toInt (by omega), c_33_2]; rfl) (by decide) ?_
      refine lv_aload_n hx hb dX5_mark_96 rfl (lv_at hl 1 rfl) ?_
      refine lv_dup hx hb dX5_mark_97 rfl ?_
      refine va_get (D := D) (ci := 5) (C := RX5) (T := TX5) (N := 19) hx hb hts inc_X5_mark_5 hown hK hP 0 rfl rfl 0 (by decide) (hts (.fieldLink RX5 180 "BedHouseModel" "trace" "J") (by decide +kernel)) (fun _ h9 => h9) rfl dX5_mark_98 ?_
      refine lv_ldc2 hx hb hown (hts (.constantLong RX5 186 (101)) (by decide +kernel)) dX5_mark_101 ?_
      refine lv_ladd hx hb dX5_mark_104 ?_
      refine va_put (D := D) (ci := 5) (v := .long (tr + 101)) (ty := .long) (C := RX5) (T := TX5) (N := 19) hx hb hts inc_X5_mark_5 tyX5 tyX5_ok nmX5 hown hK hP hD hS 0 rfl rfl 0 (by decide) (hts (.fieldLink RX5 180 "BedHouseModel" "trace" "J") (by decide +kernel)) (fun _ h9 => h9) rfl (by decide +kernel) rfl rfl (Nat.le_of_ble_eq_true rfl) dX5_mark_105 (fun H locs hP hD hS => ?_)
      have hP : va_P D vwCl [(o0, .inr (5, [.long (tr + 101), .ref o1, .int (zI td), .ref o2, .ref o3, .ref o4, .ref o5, .int (zI g1), .int (zI g2), .int (zI g3), .int (zI g4), .int (zI g5), .int (zI g6), .ref o6, .ref o7, .ref o8, .ref o9, .int (zI g7), .ref oz])), (o2, .inl (cI, 16, .inl (zia f2))), (o3, .inl (cI, 8, .inl (zia f3))), (o5, .inl (cI, 4, .inl (zia f5))), (o6, .inl (cI, 63, .inl (zia f6)))] H := hP
      have hD : va_D A [(o0, .inr (5, [.long (tr + 101), .ref o1, .int (zI td), .ref o2, .ref o3, .ref o4, .ref o5, .int (zI g1), .int (zI g2), .int (zI g3), .int (zI g4), .int (zI g5), .int (zI g6), .ref o6, .ref o7, .ref o8, .ref o9, .int (zI g7), .ref oz])), (o2, .inl (cI, 16, .inl (zia f2))), (o3, .inl (cI, 8, .inl (zia f3))), (o5, .inl (cI, 4, .inl (zia f5))), (o6, .inl (cI, 63, .inl (zia f6)))] := hD
      refine lv_iload_n hx hb dX5_mark_108 rfl (lv_at hl 0 rfl) ?_
      refine lv_aload_n hx hb dX5_mark_109 rfl (lv_at hl 1 rfl) ?_
      refine va_get (D := D) (ci := 5) (C := RX5) (T := TX5) (N := 19) hx hb hts inc_X5_mark_5 hown hK hP 0 rfl rfl 4 (by decide) (hts (.fieldLink RX5 17 "BedHouseModel" "sorts" "[I") (by decide +kernel)) (fun _ h9 => h9) rfl dX5_mark_110 ?_
      refine lv_iload_n hx hb dX5_mark_113 rfl (lv_at hl 3 rfl) ?_
      refine z_iald hx hb hK hP 2 1 rfl rfl (Nat.le_of_ble_eq_true rfl) dX5_mark_114 (by omega) ?_
      refine z_iadd hx hb dX5_mark_115 ?_
      have hit : mkM f2 f3 f6 kd p tr = (slI (f2 0) (f6 0) p + f3 p, tr + 101) := by unfold mkM; rw [if_pos (And.intro c_6 c_14), if_neg c_33_0, if_neg c_33_1, if_pos c_33_2]
      exact wr_reti M dX5_mark_116 (u := tr + 101) ⟨(congrArg zI (by rw [hit])), (by rw [hit])⟩ hP hD hS
    by_cases c_33_3 : kd = 3
    · skip
      refine lv_tableIn (tgt := 117) hx hb dX5_mark_33 (by rw [zI_toInt (by omega)]; omega) (by rw [zI_toInt (by omega)]; omega) (by rw [zI_toInt (by omega), c_33_3]; rfl) (by decide) ?_
      refine lv_aload_n hx hb dX5_mark_117 rfl (lv_at hl 1 rfl) ?_
      refine lv_dup hx hb dX5_mark_118 rfl ?_
      refine va_get (D := D) (ci := 5) (C := RX5) (T := TX5) (N := 19) hx hb hts inc_X5_mark_5 hown hK hP 0 rfl rfl 0 (by decide) (hts (.fieldLink RX5 180 "BedHouseModel" "trace" "J") (by decide +kernel)) (fun _ h9 => h9) rfl dX5_mark_119 ?_
      refine lv_ldc2 hx hb hown (hts (.constantLong RX5 188 (1011)) (by decide +kernel)) dX5_mark_122 ?_
      refine lv_ladd hx hb dX5_mark_125 ?_
      refine va_put (D := D) (ci := 5) (v := .long (tr + 1011)) (ty := .long) (C := RX5) (T := TX5) (N := 19) hx hb hts inc_X5_mark_5 tyX5 tyX5_ok nmX5 hown hK hP hD hS 0 rfl rfl 0 (by decide) (hts (.fieldLink RX5 180 "BedHouseModel" "trace" "J") (by decide +kernel)) (fun _ h9 => h9) rfl (by decide +kernel) rfl rfl (Nat.le_of_ble_eq_true rfl) dX5_mark_126 (fun H locs hP hD hS => ?_)
      have hP : va_P D vwCl [(o0, .inr (5, [.long (tr + 1011), .ref o1, .int (zI td), .ref o2, .ref o3, .ref o4, .ref o5, .int (zI g1), .int (zI g2), .int (zI g3), .int (zI g4), .int (zI g5), .int (zI g6), .ref o6, .ref o7, .ref o8, .ref o9, .int (zI g7), .ref oz])), (o2, .inl (cI, 16, .inl (zia f2))), (o3, .inl (cI, 8, .inl (zia f3))), (o5, .inl (cI, 4, .inl (zia f5))), (o6, .inl (cI, 63, .inl (zia f6)))] H := hP
      have hD : va_D A [(o0, .inr (5, [.long (tr + 1011), .ref o1, .int (zI td), .ref o2, .ref o3, .ref o4, .ref o5, .int (zI g1), .int (zI g2), .int (zI g3), .int (zI g4), .int (zI g5), .int (zI g6), .ref o6, .ref o7, .ref o8, .ref o9, .int (zI g7), .ref oz])), (o2, .inl (cI, 16, .inl (zia f2))), (o3, .inl (cI, 8, .inl (zia f3))), (o5, .inl (cI, 4, .inl (zia f5))), (o6, .inl (cI, 63, .inl (zia f6)))] := hD
      refine lv_iconst (v := zI 2) hx hb dX5_mark_129 rfl ?_
      refine lv_iload_n hx hb dX5_mark_130 rfl (lv_at hl 0 rfl) ?_
      refine z_imul hx hb dX5_mark_131 ?_
      refine lv_aload_n hx hb dX5_mark_132 rfl (lv_at hl 1 rfl) ?_
      refine va_get (D := D) (ci := 5) (C := RX5) (T := TX5) (N := 19) hx hb hts inc_X5_mark_5 hown hK hP 0 rfl rfl 13 (by decide) (hts (.fieldLink RX5 26 "BedHouseModel" "now" "[I") (by decide +kernel)) (fun _ h9 => h9) rfl dX5_mark_133 ?_
      refine lv_iconst (v := zI 1) hx hb dX5_mark_136 rfl ?_
      refine z_iald hx hb hK hP 4 1 rfl rfl (Nat.le_of_ble_eq_true rfl) dX5_mark_137 (by omega) ?_
      refine z_iadd hx hb dX5_mark_138 ?_
      have hit : mkM f2 f3 f6 kd p tr = (2 * slI (f2 0) (f6 0) p + f6 1, tr + 1011) := by unfold mkM; rw [if_pos (And.intro c_6 c_14), if_neg c_33_0, if_neg c_33_1, if_neg c_33_2, if_pos c_33_3]
      exact wr_reti M dX5_mark_139 (u := tr + 1011) ⟨(congrArg zI (by rw [hit])), (by rw [hit])⟩ hP hD hS
    by_cases c_33_4 : kd = 4
    · skip
      refine lv_tableIn (tgt := 140) hx hb dX5_mark_33 (by rw [zI_toInt (by omega)]; omega) (by rw [zI_toInt (by omega)]; omega) (by rw [zI_toInt (by omega), c_33_4]; rfl) (by decide) ?_
      refine lv_aload_n hx hb dX5_mark_140 rfl (lv_at hl 1 rfl) ?_
      refine lv_dup hx hb dX5_mark_141 rfl ?_
      refine va_get (D := D) (ci := 5) (C := RX5) (T := TX5) (N := 19) hx hb hts inc_X5_mark_5 hown hK hP 0 rfl rfl 0 (by decide) (hts (.fieldLink RX5 180 "BedHouseModel" "trace" "J") (by decide +kernel)) (fun _ h9 => h9) rfl dX5_mark_142 ?_
      refine lv_ldc2 hx hb hown (hts (.constantLong RX5 190 (10101)) (by decide +kernel)) dX5_mark_145 ?_
      refine lv_ladd hx hb dX5_mark_148 ?_
      refine va_put (D := D) (ci := 5) (v := .long (tr + 10101)) (ty := .long) (C := RX5) (T := TX5) (N := 19) hx hb hts inc_X5_mark_5 tyX5 tyX5_ok nmX5 hown hK hP hD hS 0 rfl rfl 0 (by decide) (hts (.fieldLink RX5 180 "BedHouseModel" "trace" "J") (by decide +kernel)) (fun _ h9 => h9) rfl (by decide +kernel) rfl rfl (Nat.le_of_ble_eq_true rfl) dX5_mark_149 (fun H locs hP hD hS => ?_)
      have hP : va_P D vwCl [(o0, .inr (5, [.long (tr + 10101), .ref o1, .int (zI td), .ref o2, .ref o3, .ref o4, .ref o5, .int (zI g1), .int (zI g2), .int (zI g3), .int (zI g4), .int (zI g5), .int (zI g6), .ref o6, .ref o7, .ref o8, .ref o9, .int (zI g7), .ref oz])), (o2, .inl (cI, 16, .inl (zia f2))), (o3, .inl (cI, 8, .inl (zia f3))), (o5, .inl (cI, 4, .inl (zia f5))), (o6, .inl (cI, 63, .inl (zia f6)))] H := hP
      have hD : va_D A [(o0, .inr (5, [.long (tr + 10101), .ref o1, .int (zI td), .ref o2, .ref o3, .ref o4, .ref o5, .int (zI g1), .int (zI g2), .int (zI g3), .int (zI g4), .int (zI g5), .int (zI g6), .ref o6, .ref o7, .ref o8, .ref o9, .int (zI g7), .ref oz])), (o2, .inl (cI, 16, .inl (zia f2))), (o3, .inl (cI, 8, .inl (zia f3))), (o5, .inl (cI, 4, .inl (zia f5))), (o6, .inl (cI, 63, .inl (zia f6)))] := hD
      refine lv_iload_n hx hb dX5_mark_152 rfl (lv_at hl 0 rfl) ?_
      refine lv_aload_n hx hb dX5_mark_153 rfl (lv_at hl 1 rfl) ?_
      refine va_get (D := D) (ci := 5) (C := RX5) (T := TX5) (N := 19) hx hb hts inc_X5_mark_5 hown hK hP 0 rfl rfl 4 (by decide) (hts (.fieldLink RX5 17 "BedHouseModel" "sorts" "[I") (by decide +kernel)) (fun _ h9 => h9) rfl dX5_mark_154 ?_
      refine lv_iload_n hx hb dX5_mark_157 rfl (lv_at hl 3 rfl) ?_
      refine z_iald hx hb hK hP 2 1 rfl rfl (Nat.le_of_ble_eq_true rfl) dX5_mark_158 (by omega) ?_
      refine z_iadd hx hb dX5_mark_159 ?_
      refine lv_aload_n hx hb dX5_mark_160 rfl (lv_at hl 1 rfl) ?_
      refine lv_aload_n hx hb dX5_mark_161 rfl (lv_at hl 1 rfl) ?_
      refine va_get (D := D) (ci := 5) (C := RX5) (T := TX5) (N := 19) hx hb hts inc_X5_mark_5 hown hK hP 0 rfl rfl 13 (by decide) (hts (.fieldLink RX5 26 "BedHouseModel" "now" "[I") (by decide +kernel)) (fun _ h9 => h9) rfl dX5_mark_162 ?_
      refine lv_iconst (v := zI 0) hx hb dX5_mark_165 rfl ?_
      refine z_iald hx hb hK hP 4 1 rfl rfl (Nat.le_of_ble_eq_true rfl) dX5_mark_166 (by omega) ?_
      refine pc_V (As := [.int (zI (f6 0))]) (rest := [.int (zI ((slI (f2 0) (f6 0) p) + (f3 p)))]) M (c_X5_lying l D cB cI cZ cM _ o0 o1 o2 o3 o4 o5 o6 o7 o8 o9 oz (tr + 10101) td g1 g2 g3 g4 g5 g6 g7 f2 (f6 0) (by first | assumption | omega) (by first | assumption | omega)) gX5_mark_X5_lying rfl ⟨rfl, hd_X5_lying⟩ ⟨Nat.le_of_ble_eq_true rfl, Nat.le_of_ble_eq_true rfl⟩ hK hP [0, 1] rfl 0 5 rfl rfl rfl hl.1 rfl rfl (Nat.le_of_ble_eq_true rfl) dX5_mark_167 ⟨Nat.le_of_ble_eq_true rfl, Nat.le_of_ble_eq_true rfl⟩ (fun r_167 h_167 => ?_)
      subst h_167
      refine z_iadd hx hb dX5_mark_170 ?_
      have hit : mkM f2 f3 f6 kd p tr = (slI (f2 0) (f6 0) p + f3 p + lyC (slI (f2 0) (f6 0)) (f2 0).toNat 0, tr + 10101) := by unfold mkM; rw [if_pos (And.intro c_6 c_14), if_neg c_33_0, if_neg c_33_1, if_neg c_33_2, if_neg c_33_3, if_pos c_33_4]
      exact wr_reti M dX5_mark_171 (u := tr + 10101) ⟨(congrArg zI (by rw [hit])), (by rw [hit])⟩ hP hD hS
    refine lv_tableOut (tgt := 172) hx hb dX5_mark_33 (by rw [zI_toInt (by omega)]; omega) (by decide) ?_
    refine lv_aload_n hx hb dX5_mark_172 rfl (lv_at hl 1 rfl) ?_
    refine lv_dup hx hb dX5_mark_173 rfl ?_
    refine va_get (D := D) (ci := 5) (C := RX5) (T := TX5) (N := 19) hx hb hts inc_X5_mark_5 hown hK hP 0 rfl rfl 0 (by decide) (hts (.fieldLink RX5 180 "BedHouseModel" "trace" "J") (by decide +kernel)) (fun _ h9 => h9) rfl dX5_mark_174 ?_
    refine lv_ldc2 hx hb hown (hts (.constantLong RX5 192 (100001)) (by decide +kernel)) dX5_mark_177 ?_
    refine lv_ladd hx hb dX5_mark_180 ?_
    refine va_put (D := D) (ci := 5) (v := .long (tr + 100001)) (ty := .long) (C := RX5) (T := TX5) (N := 19) hx hb hts inc_X5_mark_5 tyX5 tyX5_ok nmX5 hown hK hP hD hS 0 rfl rfl 0 (by decide) (hts (.fieldLink RX5 180 "BedHouseModel" "trace" "J") (by decide +kernel)) (fun _ h9 => h9) rfl (by decide +kernel) rfl rfl (Nat.le_of_ble_eq_true rfl) dX5_mark_181 (fun H locs hP hD hS => ?_)
    have hP : va_P D vwCl [(o0, .inr (5, [.long (tr + 100001), .ref o1, .int (zI td), .ref o2, .ref o3, .ref o4, .ref o5, .int (zI g1), .int (zI g2), .int (zI g3), .int (zI g4), .int (zI g5), .int (zI g6), .ref o6, .ref o7, .ref o8, .ref o9, .int (zI g7), .ref oz])), (o2, .inl (cI, 16, .inl (zia f2))), (o3, .inl (cI, 8, .inl (zia f3))), (o5, .inl (cI, 4, .inl (zia f5))), (o6, .inl (cI, 63, .inl (zia f6)))] H := hP
    have hD : va_D A [(o0, .inr (5, [.long (tr + 100001), .ref o1, .int (zI td), .ref o2, .ref o3, .ref o4, .ref o5, .int (zI g1), .int (zI g2), .int (zI g3), .int (zI g4), .int (zI g5), .int (zI g6), .ref o6, .ref o7, .ref o8, .ref o9, .int (zI g7), .ref oz])), (o2, .inl (cI, 16, .inl (zia f2))), (o3, .inl (cI, 8, .inl (zia f3))), (o5, .inl (cI, 4, .inl (zia f5))), (o6, .inl (cI, 63, .inl (zia f6)))] := hD
    refine lv_iload_n hx hb dX5_mark_184 rfl (lv_at hl 0 rfl) ?_
    refine lv_iload_n hx hb dX5_mark_185 rfl (lv_at hl 3 rfl) ?_
    refine z_isub hx hb dX5_mark_186 ?_
    have hit : mkM f2 f3 f6 kd p tr = (slI (f2 0) (f6 0) p - p, tr + 100001) := by unfold mkM; rw [if_pos (And.intro c_6 c_14), if_neg c_33_0, if_neg c_33_1, if_neg c_33_2, if_neg c_33_3, if_neg c_33_4]
    exact wr_reti M dX5_mark_187 (u := tr + 100001) ⟨(congrArg zI (by rw [hit])), (by rw [hit])⟩ hP hD hS
  have c_14 := zb_f c_14
  refine lv_ldc hx hb hown (hts (.constant RX5 151 (-1000000)) (by decide +kernel)) dX5_mark_17 ?_
  refine z_top (y := zI (-1000000)) (by decide) ?_
  have hit : mkM f2 f3 f6 kd p tr = (-1000000, tr) := by unfold mkM; rw [if_neg (fun q => c_14 q.2)]
  exact wr_reti M dX5_mark_19 (u := tr) ⟨(congrArg zI (by rw [hit])), (by rw [hit])⟩ hP hD hS
