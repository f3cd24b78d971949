theorem inc_X5_due_5 : ∀ w ∈ wsX50, w ∈ wsX5_due := by decide +kernel
theorem inc_X5_mayItem_5 : ∀ w ∈ wsX50, w ∈ wsX5_mayItem := by decide +kernel
theorem inc_X5_number_5 : ∀ w ∈ wsX50, w ∈ wsX5_number := by decide +kernel
theorem inc_X5_readItem_5 : ∀ w ∈ wsX50, w ∈ wsX5_readItem := by decide +kernel
theorem inc_X5_round_5 : ∀ w ∈ wsX50, w ∈ wsX5_round := by decide +kernel
theorem inc_X5_stands_5 : ∀ w ∈ wsX50, w ∈ wsX5_stands := by decide +kernel
theorem hd_X5_due : yX5_due.cls ≠ "java/lang/invoke/MethodHandle" ∧ yX5_due.cls ≠ "java/lang/invoke/VarHandle" ∧ (parseMethodDescriptor yX5_due.desc).map (fun d => d.parameters.length) = some 1 := by decide +kernel
theorem hd_X5_mayItem : yX5_mayItem.cls ≠ "java/lang/invoke/MethodHandle" ∧ yX5_mayItem.cls ≠ "java/lang/invoke/VarHandle" ∧ (parseMethodDescriptor yX5_mayItem.desc).map (fun d => d.parameters.length) = some 1 := by decide +kernel
theorem hd_X5_next : yX5_next.cls ≠ "java/lang/invoke/MethodHandle" ∧ yX5_next.cls ≠ "java/lang/invoke/VarHandle" ∧ (parseMethodDescriptor yX5_next.desc).map (fun d => d.parameters.length) = some 0 := by decide +kernel
theorem hd_X5_number : yX5_number.cls ≠ "java/lang/invoke/MethodHandle" ∧ yX5_number.cls ≠ "java/lang/invoke/VarHandle" ∧ (parseMethodDescriptor yX5_number.desc).map (fun d => d.parameters.length) = some 2 := by decide +kernel
theorem hd_X5_round : yX5_round.cls ≠ "java/lang/invoke/MethodHandle" ∧ yX5_round.cls ≠ "java/lang/invoke/VarHandle" ∧ (parseMethodDescriptor yX5_round.desc).map (fun d => d.parameters.length) = some 0 := by decide +kernel
theorem hd_X5_stands : yX5_stands.cls ≠ "java/lang/invoke/MethodHandle" ∧ yX5_stands.cls ≠ "java/lang/invoke/VarHandle" ∧ (parseMethodDescriptor yX5_stands.desc).map (fun d => d.parameters.length) = some 1 := by decide +kernel
set_option maxHeartbeats 4000000 in
set_option maxRecDepth 100000 in
theorem c_X5_due (l : Launch) (D : va_G) (cB cI cZ cM : ClassId) (Hp : Heap) (o0 : Nat) (o1 : Nat) (o2 : Nat) (o3 : Nat) (o4 : Nat) (o5 : Nat) (o6 : Nat) (o7 : Nat) (o8 : Nat) (o9 : Nat) (oz : Nat) (tr : Int64) (td : Int) (g1 : Int) (g2 : Int) (g3 : Int) (g4 : Int) (g5 : Int) (g6 : Int) (g7 : Int) (f1 : Int → Int) (y : Int) (htd : 0 ≤ td ∧ td ≤ 200) (hf1 : ∀ i : Int, 0 ≤ i → i < 200 → 0 ≤ f1 i ∧ f1 i ≤ 255) (hU : okU td (g1, g2, g3, g4, g5)) (hy : y = 0 ∨ y = 1) : cWi l yX5_due wsX5_due (rmW 2 0 0 46) D (TYS cB cI cZ cM) [.ref o0, .int (zI y)] [(o0, .inr (5, [.long tr, .ref o1, .int (zI td), .ref o2, .ref o3, .ref o4, .ref o5, .int (zI g1), .int (zI g2), .int (zI g3), .int (zI g4), .int (zI g5), .int (zI g6), .ref o6, .ref o7, .ref o8, .ref o9, .int (zI g7), .ref oz])), (o1, .inl (cB, 200, .inl (zia (sgF f1))))] Hp (fun (r : Int32) (u : DUS) => r = zI g4 ∧ (u = duM (btA f1 td) (y = 1) (g1, g2, g3, g4, g5))) (fun (u : DUS) => [(o0, .inr (5, [.long tr, .ref o1, .int (zI td), .ref o2, .ref o3, .ref o4, .ref o5, .int (zI u.1), .int (zI u.2.1), .int (zI u.2.2.1), .int (zI u.2.2.2.1), .int (zI u.2.2.2.2), .int (zI g6), .ref o6, .ref o7, .ref o8, .ref o9, .int (zI g7), .ref oz])), (o1, .inl (cB, 200, .inl (zia (sgF f1))))]) 0 0 := by
  refine wr_starti (by decide) rfl (Nat.le_of_ble_eq_true rfl) ?_
  intro pg ev sx mm args below meth cd ls A M hP hD hS hA hK hl
  obtain ⟨hx, hb, hr, hml, hown, hts, hlk, hN0⟩ := id M
  have hl : lv_has ls 3 [(0, .ref o0), (1, .int (zI y))] := hl
  refine W.widen (k := 0) (n := 0) (Nat.zero_le _) (Nat.zero_le _) ?_
  obtain ⟨hu1, hu2, hu3, hu4, hu5⟩ := id hU
  dsimp only at hu1 hu2 hu3 hu4 hu5
  refine lv_aload_n hx hb dX5_due_0 rfl (lv_at hl 0 rfl) ?_
  refine va_get (D := D) (ci := 5) (C := RX5) (T := TX5) (N := 19) hx hb hts inc_X5_due_5 hown hK hP 0 rfl rfl 10 (by decide) (hts (.fieldLink RX5 66 "BedHouseModel" "value" "I") (by decide +kernel)) (fun _ h9 => h9) rfl dX5_due_1 ?_
  refine lv_istore_n (lv' := [(2, .int (zI g4)), (0, .ref o0), (1, .int (zI y))]) hx hb dX5_due_4 rfl hl (by decide) rfl (fun ls hl => ?_)
  refine lv_aload_n hx hb dX5_due_5 rfl (lv_at hl 1 rfl) ?_
  refine va_get (D := D) (ci := 5) (C := RX5) (T := TX5) (N := 19) hx hb hts inc_X5_due_5 hown hK hP 0 rfl rfl 11 (by decide) (hts (.fieldLink RX5 77 "BedHouseModel" "fault" "I") (by decide +kernel)) (fun _ h9 => h9) rfl dX5_due_6 ?_
  refine lv_bipush (v := zI (-9)) hx hb dX5_due_9 (by decide) ?_
  refine z_icmp_ne (tgt := 33) hx hb dX5_due_11 (by decide) (by omega) (fun c_11 => ?_) (fun c_11 => ?_)
  · skip
    refine lv_iload_n hx hb dX5_due_33 rfl (lv_at hl 0 rfl) ?_
    exact wr_reti M dX5_due_34 (u := (g1, g2, g3, g4, g5)) ⟨(congrArg zI (by rfl)), (by exact (duM_n c_11).symm)⟩ hP hD hS
  refine lv_iload_n hx hb dX5_due_14 rfl (lv_at hl 2 rfl) ?_
  refine z_if_eq (tgt := 25) hx hb dX5_due_15 (by decide) (by omega) (fun c_15 => ?_) (fun c_15 => ?_)
  · skip
    refine lv_aload_n hx hb dX5_due_25 rfl (lv_at hl 1 rfl) ?_
    refine lv_aload_n hx hb dX5_due_26 rfl (lv_at hl 1 rfl) ?_
    refine va_get (D := D) (ci := 5) (C := RX5) (T := TX5) (N := 19) hx hb hts inc_X5_due_5 hown hK hP 0 rfl rfl 8 (by decide) (hts (.fieldLink RX5 63 "BedHouseModel" "start" "I") (by decide +kernel)) (fun _ h9 => h9) rfl dX5_due_27 ?_
    refine va_put (D := D) (ci := 5) (v := .int (zI g2)) (ty := .int) (C := RX5) (T := TX5) (N := 19) hx hb hts inc_X5_due_5 tyX5 tyX5_ok nmX5 hown hK hP hD hS 0 rfl rfl 11 (by decide) (hts (.fieldLink RX5 77 "BedHouseModel" "fault" "I") (by decide +kernel)) (fun _ h9 => h9) rfl (by decide +kernel) rfl rfl (Nat.le_of_ble_eq_true rfl) dX5_due_30 (fun H locs hP hD hS => ?_)
    have hP : va_P D vwCl [(o0, .inr (5, [.long tr, .ref o1, .int (zI td), .ref o2, .ref o3, .ref o4, .ref o5, .int (zI g1), .int (zI g2), .int (zI g3), .int (zI g4), .int (zI g2), .int (zI g6), .ref o6, .ref o7, .ref o8, .ref o9, .int (zI g7), .ref oz])), (o1, .inl (cB, 200, .inl (zia (sgF f1))))] H := hP
    have hD : va_D A [(o0, .inr (5, [.long tr, .ref o1, .int (zI td), .ref o2, .ref o3, .ref o4, .ref o5, .int (zI g1), .int (zI g2), .int (zI g3), .int (zI g4), .int (zI g2), .int (zI g6), .ref o6, .ref o7, .ref o8, .ref o9, .int (zI g7), .ref oz])), (o1, .inl (cB, 200, .inl (zia (sgF f1))))] := hD
    refine lv_iload_n hx hb dX5_due_33 rfl (lv_at hl 0 rfl) ?_
    exact wr_reti M dX5_due_34 (u := (g1, g2, g3, g4, g2)) ⟨(congrArg zI (by rfl)), (by exact (duM_f (b := (btA f1 td)) (p := (y = 1)) (s := (g1, g2, g3, g4, g5)) c_11 (by omega)).symm)⟩ hP hD hS
  refine lv_aload_n hx hb dX5_due_18 rfl (lv_at hl 1 rfl) ?_
  refine wc_Vv (As := []) (rest := []) (wr := []) (ws' := (fun u_19 : TKS => [(o0, .inr (5, [.long tr, .ref o1, .int (zI td), .ref o2, .ref o3, .ref o4, .ref o5, .int (zI u_19.1), .int (zI u_19.2.1), .int (zI u_19.2.2.1), .int (zI u_19.2.2.2), .int (zI g5), .int (zI g6), .ref o6, .ref o7, .ref o8, .ref o9, .int (zI g7), .ref oz])), (o1, .inl (cB, 200, .inl (zia (sgF f1))))])) M (c_X5_next l D cB cI cZ cM _ o0 o1 o2 o3 o4 o5 o6 o7 o8 o9 oz tr td g1 g2 g3 g4 g5 g6 g7 f1 (by first | assumption | omega) (by first | assumption | omega) (hu1)) gX5_due_X5_next rfl ⟨rfl, hd_X5_next⟩ ⟨Nat.le_of_ble_eq_true rfl, Nat.le_of_ble_eq_true rfl⟩ hK hP hD hS hA [0, 1] [] [0, 1] rfl rfl (by decide) (by decide) (by decide) (fun _ => rfl) 0 5 rfl rfl rfl hl.1 rfl rfl (Nat.le_of_ble_eq_true rfl) dX5_due_19 ⟨Nat.le_of_ble_eq_true rfl, Nat.le_of_ble_eq_true rfl⟩ (by decide) (fun u_19 H locs h_19 hP hD hS => ?_)
  refine lv_goto (tgt := 33) hx hb dX5_due_22 (by decide) ?_
  refine lv_iload_n hx hb dX5_due_33 rfl (lv_at hl 0 rfl) ?_
  exact wr_reti M dX5_due_34 (u := (u_19.1, u_19.2.1, u_19.2.2.1, u_19.2.2.2, g5)) ⟨(congrArg zI (by rfl)), (by rw [h_19]; exact (duM_y (b := (btA f1 td)) (p := (y = 1)) (s := (g1, g2, g3, g4, g5)) c_11 (by omega)).symm)⟩ hP hD hS
set_option maxHeartbeats 4000000 in
set_option maxRecDepth 100000 in
theorem c_X5_number (l : Launch) (D : va_G) (cB cI cZ cM : ClassId) (Hp : Heap) (o0 : Nat) (o1 : Nat) (o2 : Nat) (o3 : Nat) (o4 : Nat) (o5 : Nat) (o6 : Nat) (o7 : Nat) (o8 : Nat) (o9 : Nat) (oz : Nat) (tr : Int64) (td : Int) (g1 : Int) (g2 : Int) (g3 : Int) (g4 : Int) (g5 : Int) (g6 : Int) (g7 : Int) (f1 : Int → Int) (lo : Int) (hi : Int) (htd : 0 ≤ td ∧ td ≤ 200) (hf1 : ∀ i : Int, 0 ≤ i → i < 200 → 0 ≤ f1 i ∧ f1 i ≤ 255) (hU : okU td (g1, g2, g3, g4, g5)) (hlo0 : -2147483648 ≤ lo ∧ lo < 2147483648) (hhi0 : -2147483648 ≤ hi ∧ hi < 2147483648) : cWi l yX5_number wsX5_number (rmW 3 0 0 68) D (TYS cB cI cZ cM) [.ref o0, .int (zI lo), .int (zI hi)] [(o0, .inr (5, [.long tr, .ref o1, .int (zI td), .ref o2, .ref o3, .ref o4, .ref o5, .int (zI g1), .int (zI g2), .int (zI g3), .int (zI g4), .int (zI g5), .int (zI g6), .ref o6, .ref o7, .ref o8, .ref o9, .int (zI g7), .ref oz])), (o1, .inl (cB, 200, .inl (zia (sgF f1))))] Hp (fun (r : Int32) (u : DUS) => r = zI g4 ∧ (u = nbM (btA f1 td) lo hi (g1, g2, g3, g4, g5))) (fun (u : DUS) => [(o0, .inr (5, [.long tr, .ref o1, .int (zI td), .ref o2, .ref o3, .ref o4, .ref o5, .int (zI u.1), .int (zI u.2.1), .int (zI u.2.2.1), .int (zI u.2.2.2.1), .int (zI u.2.2.2.2), .int (zI g6), .ref o6, .ref o7, .ref o8, .ref o9, .int (zI g7), .ref oz])), (o1, .inl (cB, 200, .inl (zia (sgF f1))))]) 0 0 := by
  refine wr_starti (by decide) rfl (Nat.le_of_ble_eq_true rfl) ?_
  intro pg ev sx mm args below meth cd ls A M hP hD hS hA hK hl
  obtain ⟨hx, hb, hr, hml, hown, hts, hlk, hN0⟩ := id M
  have hl : lv_has ls 3 [(0, .ref o0), (1, .int (zI lo)), (2, .int (zI hi))] := hl
  refine W.widen (k := 0) (n := 0) (Nat.zero_le _) (Nat.zero_le _) ?_
  obtain ⟨hu1, hu2, hu3, hu4, hu5⟩ := id hU
  dsimp only at hu1 hu2 hu3 hu4 hu5
  refine lv_aload_n hx hb dX5_number_0 rfl (lv_at hl 0 rfl) ?_
  refine lv_aload_n hx hb dX5_number_1 rfl (lv_at hl 0 rfl) ?_
  refine va_get (D := D) (ci := 5) (C := RX5) (T := TX5) (N := 19) hx hb hts inc_X5_number_5 hown hK hP 0 rfl rfl 9 (by decide) (hts (.fieldLink RX5 69 "BedHouseModel" "sort" "I") (by decide +kernel)) (fun _ h9 => h9) rfl dX5_number_2 ?_
  refine lv_bipush (v := zI 12) hx hb dX5_number_5 (by decide) ?_
  refine z_icmp_ne (tgt := 26) hx hb dX5_number_7 (by decide) (by omega) (fun c_7 => ?_) (fun c_7 => ?_)
  · skip
    refine lv_iconst (v := zI 0) hx hb dX5_number_26 rfl ?_
    refine wc_Vi (As := [.int (zI 0)]) (rest := []) (wr := []) (ws' := (fun u_27 : DUS => [(o0, .inr (5, [.long tr, .ref o1, .int (zI td), .ref o2, .ref o3, .ref o4, .ref o5, .int (zI u_27.1), .int (zI u_27.2.1), .int (zI u_27.2.2.1), .int (zI u_27.2.2.2.1), .int (zI u_27.2.2.2.2), .int (zI g6), .ref o6, .ref o7, .ref o8, .ref o9, .int (zI g7), .ref oz])), (o1, .inl (cB, 200, .inl (zia (sgF f1))))])) M (c_X5_due l D cB cI cZ cM _ o0 o1 o2 o3 o4 o5 o6 o7 o8 o9 oz tr td g1 g2 g3 g4 g5 g6 g7 f1 0 (by first | assumption | omega) (by first | assumption | omega) (hU) (by omega)) gX5_number_X5_due rfl ⟨rfl, hd_X5_due⟩ ⟨Nat.le_of_ble_eq_true rfl, Nat.le_of_ble_eq_true rfl⟩ hK hP hD hS hA [0, 1] [] [0, 1] rfl rfl (by decide) (by decide) (by decide) (fun _ => rfl) 0 5 rfl rfl rfl hl.1 rfl rfl (Nat.le_of_ble_eq_true rfl) dX5_number_27 ⟨Nat.le_of_ble_eq_true rfl, Nat.le_of_ble_eq_true rfl⟩ (by decide) (fun r_27 u_27 H locs h_27 hP hD hS => ?_)
    obtain ⟨hz_27, h_27⟩ := h_27
    subst hz_27
    exact wr_reti M dX5_number_30 (u := u_27) ⟨(congrArg zI (by rfl)), (by exact h_27.trans (duM_c (Iff.intro (fun q => absurd q (by decide)) (fun q => absurd q.1 c_7))))⟩ hP hD hS
  refine lv_aload_n hx hb dX5_number_10 rfl (lv_at hl 0 rfl) ?_
  refine va_get (D := D) (ci := 5) (C := RX5) (T := TX5) (N := 19) hx hb hts inc_X5_number_5 hown hK hP 0 rfl rfl 10 (by decide) (hts (.fieldLink RX5 66 "BedHouseModel" "value" "I") (by decide +kernel)) (fun _ h9 => h9) rfl dX5_number_11 ?_
  refine lv_iload_n hx hb dX5_number_14 rfl (lv_at hl 1 rfl) ?_
  refine lv_iload_n hx hb dX5_number_15 rfl (lv_at hl 2 rfl) ?_
  refine pc_J (As := [.int (zI g4), .int (zI lo), .int (zI hi)]) (rest := [.ref o0]) M (c_X5_in l D cB cI cZ cM _ g4 lo hi (by first | assumption | omega) (by first | assumption | omega) (by first | assumption | omega)) gX5_number_X5_in rfl hd_X5_in ⟨Nat.le_of_ble_eq_true rfl, Nat.le_of_ble_eq_true rfl⟩ hK hP [] rfl hl.1 rfl rfl (Nat.le_of_ble_eq_true rfl) dX5_number_16 ⟨Nat.le_of_ble_eq_true rfl, Nat.le_of_ble_eq_true rfl⟩ (fun r_16 h_16 => ?_)
  subst h_16
  refine z_if_eq (tgt := 26) hx hb dX5_number_19 (by decide) (zb_bd _) (fun c_19 => ?_) (fun c_19 => ?_)
  · skip
    have c_19 := zb_f c_19
    refine lv_iconst (v := zI 0) hx hb dX5_number_26 rfl ?_
    refine wc_Vi (As := [.int (zI 0)]) (rest := []) (wr := []) (ws' := (fun u_27 : DUS => [(o0, .inr (5, [.long tr, .ref o1, .int (zI td), .ref o2, .ref o3, .ref o4, .ref o5, .int (zI u_27.1), .int (zI u_27.2.1), .int (zI u_27.2.2.1), .int (zI u_27.2.2.2.1), .int (zI u_27.2.2.2.2), .int (zI g6), .ref o6, .ref o7, .ref o8, .ref o9, .int (zI g7), .ref oz])), (o1, .inl (cB, 200, .inl (zia (sgF f1))))])) M (c_X5_due l D cB cI cZ cM _ o0 o1 o2 o3 o4 o5 o6 o7 o8 o9 oz tr td g1 g2 g3 g4 g5 g6 g7 f1 0 (by first | assumption | omega) (by first | assumption | omega) (hU) (by omega)) gX5_number_X5_due rfl ⟨rfl, hd_X5_due⟩ ⟨Nat.le_of_ble_eq_true rfl, Nat.le_of_ble_eq_true rfl⟩ hK hP hD hS hA [0, 1] [] [0, 1] rfl rfl (by decide) (by decide) (by decide) (fun _ => rfl) 0 5 rfl rfl rfl hl.1 rfl rfl (Nat.le_of_ble_eq_true rfl) dX5_number_27 ⟨Nat.le_of_ble_eq_true rfl, Nat.le_of_ble_eq_true rfl⟩ (by decide) (fun r_27 u_27 H locs h_27 hP hD hS => ?_)
    obtain ⟨hz_27, h_27⟩ := h_27
    subst hz_27
    exact wr_reti M dX5_number_30 (u := u_27) ⟨(congrArg zI (by rfl)), (by exact h_27.trans (duM_c (Iff.intro (fun q => absurd q (by decide)) (fun q => absurd q.2 c_19))))⟩ hP hD hS
  have c_19 := zb_t c_19
  refine lv_iconst (v := zI 1) hx hb dX5_number_22 rfl ?_
  refine lv_goto (tgt := 27) hx hb dX5_number_23 (by decide) ?_
  refine wc_Vi (As := [.int (zI 1)]) (rest := []) (wr := []) (ws' := (fun u_27 : DUS => [(o0, .inr (5, [.long tr, .ref o1, .int (zI td), .ref o2, .ref o3, .ref o4, .ref o5, .int (zI u_27.1), .int (zI u_27.2.1), .int (zI u_27.2.2.1), .int (zI u_27.2.2.2.1), .int (zI u_27.2.2.2.2), .int (zI g6), .ref o6, .ref o7, .ref o8, .ref o9, .int (zI g7), .ref oz])), (o1, .inl (cB, 200, .inl (zia (sgF f1))))])) M (c_X5_due l D cB cI cZ cM _ o0 o1 o2 o3 o4 o5 o6 o7 o8 o9 oz tr td g1 g2 g3 g4 g5 g6 g7 f1 1 (by first | assumption | omega) (by first | assumption | omega) (hU) (by omega)) gX5_number_X5_due rfl ⟨rfl, hd_X5_due⟩ ⟨Nat.le_of_ble_eq_true rfl, Nat.le_of_ble_eq_true rfl⟩ hK hP hD hS hA [0, 1] [] [0, 1] rfl rfl (by decide) (by decide) (by decide) (fun _ => rfl) 0 5 rfl rfl rfl hl.1 rfl rfl (Nat.le_of_ble_eq_true rfl) dX5_number_27 ⟨Nat.le_of_ble_eq_true rfl, Nat.le_of_ble_eq_true rfl⟩ (by decide) (fun r_27 u_27 H locs h_27 hP hD hS => ?_)
  obtain ⟨hz_27, h_27⟩ := h_27
  subst hz_27
  exact wr_reti M dX5_number_30 (u := u_27) ⟨(congrArg zI (by rfl)), (by exact h_27.trans (duM_c (Iff.intro (fun _ => And.intro c_7 c_19) (fun _ => rfl))))⟩ hP hD hS
set_option maxHeartbeats 4000000 in
set_option maxRecDepth 100000 in
theorem lp_X5_stands_4 (l : Launch) (D : va_G) (cB cI cZ cM : ClassId) (o0 : Nat) (o1 : Nat) (o2 : Nat) (o3 : Nat) (o4 : Nat) (o5 : Nat) (o6 : Nat) (o7 : Nat) (o8 : Nat) (o9 : Nat) (oz : Nat) (tr : Int64) (td : Int) (g1 : Int) (g2 : Int) (g3 : Int) (g4 : Int) (g5 : Int) (g6 : Int) (g7 : Int) (f2 : Int → Int) (f4 : Int → Int) (k : Int) (h48 : 0 ≤ f2 8 ∧ f2 8 ≤ 4) (hat : ∀ i : Int, 0 ≤ i → i < 8 → 0 ≤ f4 i ∧ f4 i ≤ 999) (hk0 : -2147483648 ≤ k ∧ k < 2147483648) {pg : Program} {ev : Env} {sx : State} {mm : MethodId} {args : Array Value} {below : List Frame} {meth : Method} {cd : Code} (M : MX pg sx mm args meth cd cX5_stands 4 (some .boolean) RX5 wsX5_stands) (hP : va_P D vwCl [(o0, .inr (5, [.long tr, .ref o1, .int (zI td), .ref o2, .ref o3, .ref o4, .ref o5, .int (zI g1), .int (zI g2), .int (zI g3), .int (zI g4), .int (zI g5), .int (zI g6), .ref o6, .ref o7, .ref o8, .ref o9, .int (zI g7), .ref oz])), (o2, .inl (cI, 16, .inl (zia f2))), (o4, .inl (cI, 8, .inl (zia f4)))] sx.heap) (hK : va_K D vwCl (TYS cB cI cZ cM) sx) : ∀ (N : Nat) (n : Nat) (i : Int) (a : Int), (n < N) → (0 ≤ i ∧ i + n = f2 8) → (a = 0 ∨ a = 1) → ((decide (a = 1) || sdF f4 k n i) = sdF f4 k (f2 8).toNat 0) → ∀ ls : Array Slot, lv_has ls 4 [(0, .ref o0), (1, .int (zI k)), (2, .int (zI a)), (3, .int (zI i))] → W pg l ev (rmP 0 0) sx mm args below meth cd sx.heap [] 0 0 (QP below args sx (fun r => r = zI (zb (sdF f4 k (f2 8).toNat 0 = true)))) (F0 mm 4 ls []) := by
  intro N
  induction N with
  | zero => intro n i a hN; exact absurd hN (Nat.not_lt_zero _)
  | succ N ih =>
    intro n i a hN hi ha hv ls hl
    obtain ⟨hx, hb, hr, hml, hown, hts, hlk, hN0⟩ := id M
    refine lv_iload_n hx hb dX5_stands_4 rfl (lv_at hl 3 rfl) ?_
    refine lv_aload_n hx hb dX5_stands_5 rfl (lv_at hl 0 rfl) ?_
    refine va_get (D := D) (ci := 5) (C := RX5) (T := TX5) (N := 19) hx hb hts inc_X5_stands_5 hown hK hP 0 rfl rfl 3 (by decide) (hts (.fieldLink RX5 13 "BedHouseModel" "plan" "[I") (by decide +kernel)) (fun _ h9 => h9) rfl dX5_stands_6 ?_
    refine lv_bipush (v := zI 8) hx hb dX5_stands_9 (by decide) ?_
    refine z_iald hx hb hK hP 1 1 rfl rfl (Nat.le_of_ble_eq_true rfl) dX5_stands_11 (by omega) ?_
    refine z_icmp_ge (tgt := 49) hx hb dX5_stands_12 (by decide) (by omega) (fun c_12 => ?_) (fun c_12 => ?_)
    · skip
      obtain rfl : n = 0 := by omega
      refine lv_iload_n hx hb dX5_stands_49 rfl (lv_at hl 2 rfl) ?_
      exact pu_retz M (zb_nar ha) dX5_stands_50 (congrArg zI (by rw [← hv, sdF, Bool.or_false]; exact zb_of ha))
    obtain ⟨n, rfl⟩ : ∃ j : Nat, n = j + 1 := ⟨n - 1, by omega⟩
    refine lv_iload_n hx hb dX5_stands_15 rfl (lv_at hl 2 rfl) ?_
    refine z_if_ne (tgt := 37) hx hb dX5_stands_16 (by decide) (by omega) (fun c_16 => ?_) (fun c_16 => ?_)
    · skip
      refine lv_iconst (v := zI 1) hx hb dX5_stands_37 rfl ?_
      refine lv_goto (tgt := 42) hx hb dX5_stands_38 (by decide) ?_
      refine lv_istore_n (lv' := [(2, .int (zI 1)), (0, .ref o0), (1, .int (zI k)), (3, .int (zI i))]) hx hb dX5_stands_42 rfl hl (by decide) rfl (fun ls hl => ?_)
      refine z_iinc (a := i) (k := 3) (lv' := [(3, .int (zI (i + 1))), (2, .int (zI 1)), (0, .ref o0), (1, .int (zI k))]) hx hb dX5_stands_43 hl rfl (by decide) rfl (fun ls hl => ?_)
      refine lv_goto (tgt := 4) hx hb dX5_stands_46 (by decide) ?_
      exact ih n (i + 1) 1 (by omega) (by omega) (by omega) (by rw [← hv, decide_eq_true (show a = 1 by omega)]; simp) _ (lv_sub hl [2, 3, 1, 0] rfl)
    refine lv_iload_n hx hb dX5_stands_19 rfl (lv_at hl 1 rfl) ?_
    refine lv_bipush (v := zI 8) hx hb dX5_stands_20 (by decide) ?_
    refine z_icmp_ge (tgt := 41) hx hb dX5_stands_22 (by decide) (by omega) (fun c_22 => ?_) (fun c_22 => ?_)
    · skip
      refine lv_iconst (v := zI 0) hx hb dX5_stands_41 rfl ?_
      refine lv_istore_n (lv' := [(2, .int (zI 0)), (0, .ref o0), (1, .int (zI k)), (3, .int (zI i))]) hx hb dX5_stands_42 rfl hl (by decide) rfl (fun ls hl => ?_)
      refine z_iinc (a := i) (k := 3) (lv' := [(3, .int (zI (i + 1))), (2, .int (zI 0)), (0, .ref o0), (1, .int (zI k))]) hx hb dX5_stands_43 hl rfl (by decide) rfl (fun ls hl => ?_)
      refine lv_goto (tgt := 4) hx hb dX5_stands_46 (by decide) ?_
      exact ih n (i + 1) 0 (by omega) (by omega) (by omega) (by rw [← hv, sdF, decide_eq_false (show ¬ a = 1 by omega), decide_eq_false (show ¬ (k < 8 ∧ f4 (4 + i) = k) from fun q => absurd q.1 (by omega))]; rfl) _ (lv_sub hl [2, 3, 1, 0] rfl)
    refine lv_aload_n hx hb dX5_stands_25 rfl (lv_at hl 0 rfl) ?_
    refine va_get (D := D) (ci := 5) (C := RX5) (T := TX5) (N := 19) hx hb hts inc_X5_stands_5 hown hK hP 0 rfl rfl 5 (by decide) (hts (.fieldLink RX5 20 "BedHouseModel" "at0" "[I") (by decide +kernel)) (fun _ h9 => h9) rfl dX5_stands_26 ?_
    refine lv_iconst (v := zI 4) hx hb dX5_stands_29 rfl ?_
    refine lv_iload_n hx hb dX5_stands_30 rfl (lv_at hl 3 rfl) ?_
    refine z_iadd hx hb dX5_stands_31 ?_
    refine z_iald hx hb hK hP 2 1 rfl rfl (Nat.le_of_ble_eq_true rfl) dX5_stands_32 (by omega) ?_
    refine lv_iload_n hx hb dX5_stands_33 rfl (lv_at hl 1 rfl) ?_
    have hat5 := hat (4 + i) (by omega) (by omega)
    refine z_icmp_ne (tgt := 41) hx hb dX5_stands_34 (by decide) (by omega) (fun c_34 => ?_) (fun c_34 => ?_)
    · skip
      refine lv_iconst (v := zI 0) hx hb dX5_stands_41 rfl ?_
      refine lv_istore_n (lv' := [(2, .int (zI 0)), (0, .ref o0), (1, .int (zI k)), (3, .int (zI i))]) hx hb dX5_stands_42 rfl hl (by decide) rfl (fun ls hl => ?_)
      refine z_iinc (a := i) (k := 3) (lv' := [(3, .int (zI (i + 1))), (2, .int (zI 0)), (0, .ref o0), (1, .int (zI k))]) hx hb dX5_stands_43 hl rfl (by decide) rfl (fun ls hl => ?_)
      refine lv_goto (tgt := 4) hx hb dX5_stands_46 (by decide) ?_
      exact ih n (i + 1) 0 (by omega) (by omega) (by omega) (by rw [← hv, sdF, decide_eq_false (show ¬ a = 1 by omega), decide_eq_false (show ¬ (k < 8 ∧ f4 (4 + i) = k) from fun q => c_34 q.2)]; rfl) _ (lv_sub hl [2, 3, 1, 0] rfl)
    refine lv_iconst (v := zI 1) hx hb dX5_stands_37 rfl ?_
    refine lv_goto (tgt := 42) hx hb dX5_stands_38 (by decide) ?_
    refine lv_istore_n (lv' := [(2, .int (zI 1)), (0, .ref o0), (1, .int (zI k)), (3, .int (zI i))]) hx hb dX5_stands_42 rfl hl (by decide) rfl (fun ls hl => ?_)
    refine z_iinc (a := i) (k := 3) (lv' := [(3, .int (zI (i + 1))), (2, .int (zI 1)), (0, .ref o0), (1, .int (zI k))]) hx hb dX5_stands_43 hl rfl (by decide) rfl (fun ls hl => ?_)
    refine lv_goto (tgt := 4) hx hb dX5_stands_46 (by decide) ?_
    exact ih n (i + 1) 1 (by omega) (by omega) (by omega) (by rw [← hv, sdF, decide_eq_false (show ¬ a = 1 by omega), decide_eq_true (show k < 8 ∧ f4 (4 + i) = k from And.intro (by omega) c_34)]; simp) _ (lv_sub hl [2, 3, 1, 0] rfl)
set_option maxHeartbeats 4000000 in
set_option maxRecDepth 100000 in
theorem c_X5_stands (l : Launch) (D : va_G) (cB cI cZ cM : ClassId) (Hp : Heap) (o0 : Nat) (o1 : Nat) (o2 : Nat) (o3 : Nat) (o4 : Nat) (o5 : Nat) (o6 : Nat) (o7 : Nat) (o8 : Nat) (o9 : Nat) (oz : Nat) (tr : Int64) (td : Int) (g1 : Int) (g2 : Int) (g3 : Int) (g4 : Int) (g5 : Int) (g6 : Int) (g7 : Int) (f2 : Int → Int) (f4 : Int → Int) (k : Int) (h48 : 0 ≤ f2 8 ∧ f2 8 ≤ 4) (hat : ∀ i : Int, 0 ≤ i → i < 8 → 0 ≤ f4 i ∧ f4 i ≤ 999) (hk0 : -2147483648 ≤ k ∧ k < 2147483648) : cP l yX5_stands wsX5_stands 0 0 D (TYS cB cI cZ cM) [.ref o0, .int (zI k)] [(o0, .inr (5, [.long tr, .ref o1, .int (zI td), .ref o2, .ref o3, .ref o4, .ref o5, .int (zI g1), .int (zI g2), .int (zI g3), .int (zI g4), .int (zI g5), .int (zI g6), .ref o6, .ref o7, .ref o8, .ref o9, .int (zI g7), .ref oz])), (o2, .inl (cI, 16, .inl (zia f2))), (o4, .inl (cI, 8, .inl (zia f4)))] Hp (fun r => r = zI (zb (sdF f4 k (f2 8).toNat 0 = true))) := by
  refine pu_start (by decide) rfl (Nat.le_of_ble_eq_true rfl) ?_
  intro pg ev sx mm args below meth cd ls M hP hK hl
  obtain ⟨hx, hb, hr, hml, hown, hts, hlk, hN0⟩ := id M
  have hl : lv_has ls 4 [(0, .ref o0), (1, .int (zI k))] := hl
  refine lv_iconst (v := zI 0) hx hb dX5_stands_0 rfl ?_
  refine lv_istore_n (lv' := [(2, .int (zI 0)), (0, .ref o0), (1, .int (zI k))]) hx hb dX5_stands_1 rfl hl (by decide) rfl (fun ls hl => ?_)
  refine lv_iconst (v := zI 0) hx hb dX5_stands_2 rfl ?_
  refine lv_istore_n (lv' := [(3, .int (zI 0)), (2, .int (zI 0)), (0, .ref o0), (1, .int (zI k))]) hx hb dX5_stands_3 rfl hl (by decide) rfl (fun ls hl => ?_)
  exact lp_X5_stands_4 l D cB cI cZ cM o0 o1 o2 o3 o4 o5 o6 o7 o8 o9 oz tr td g1 g2 g3 g4 g5 g6 g7 f2 f4 k h48 hat hk0 M hP hK (((f2 8).toNat) + 1) ((f2 8).toNat) 0 0 (Nat.lt_succ_self _) (by omega) (by omega) (by rfl) _ (lv_sub hl [2, 3, 1, 0] rfl)
set_option maxHeartbeats 4000000 in
set_option maxRecDepth 100000 in
theorem lp_X5_round_21 (l : Launch) (D : va_G) (cB cI cZ cM : ClassId) (o0 : Nat) (o1 : Nat) (o2 : Nat) (o3 : Nat) (o4 : Nat) (o5 : Nat) (o6 : Nat) (o7 : Nat) (o8 : Nat) (o9 : Nat) (oz : Nat) (tr : Int64) (td : Int) (g1 : Int) (g2 : Int) (g3 : Int) (g4 : Int) (g5 : Int) (g6 : Int) (g7 : Int) (f1 : Int → Int) (htd : 0 ≤ td ∧ td ≤ 200) (hf1 : ∀ i : Int, 0 ≤ i → i < 200 → 0 ≤ f1 i ∧ f1 i ≤ 255) (hU : okU td (g1, g2, g3, g4, g5)) {pg : Program} {ev : Env} {sx : State} {mm : MethodId} {args : Array Value} {below : List Frame} {meth : Method} {cd : Code} (M : MX pg sx mm args meth cd cX5_round 5 (some .int) RX5 wsX5_round) (hK : va_K D vwCl (TYS cB cI cZ cM) sx) {A : Nat → Prop} (hA : ∀ q : Nat, sx.heap.size ≤ q → A q) : ∀ (N : Nat) (j : Nat) (i : Int) (acc : Int) (s : DUS) (v : Int), (j < N) → (s = nbM (btA f1 td) 1 8 (nbM (btA f1 td) 0 7 (g1, g2, g3, g4, g5))) → (0 ≤ v ∧ v ≤ 999) → (okU td s) → ((0 ≤ i ∧ i ≤ 999) ∧ (s.2.2.2.2 = -9 → (i + j = v ∧ (0 ≤ g4 ∧ g4 ≤ 7)) ∧ (1 ≤ v ∧ v ≤ 8))) → (0 ≤ acc ∧ acc < 256) → ((if s.2.2.2.2 = -9 then sfF g4 j i acc else acc) = (roM (btA f1 td) (g1, g2, g3, g4, g5)).1) → ∀ (H : Heap) (locs : List Loc), va_P D vwCl [(o0, .inr (5, [.long tr, .ref o1, .int (zI td), .ref o2, .ref o3, .ref o4, .ref o5, .int (zI s.1), .int (zI s.2.1), .int (zI s.2.2.1), .int (zI s.2.2.2.1), .int (zI s.2.2.2.2), .int (zI g6), .ref o6, .ref o7, .ref o8, .ref o9, .int (zI g7), .ref oz])), (o1, .inl (cB, 200, .inl (zia (sgF f1))))] H → va_D A [(o0, .inr (5, [.long tr, .ref o1, .int (zI td), .ref o2, .ref o3, .ref o4, .ref o5, .int (zI s.1), .int (zI s.2.1), .int (zI s.2.2.1), .int (zI s.2.2.2.1), .int (zI s.2.2.2.2), .int (zI g6), .ref o6, .ref o7, .ref o8, .ref o9, .int (zI g7), .ref oz])), (o1, .inl (cB, 200, .inl (zia (sgF f1))))] → va_S A sx.heap H locs → ∀ ls : Array Slot, lv_has ls 5 [(0, .ref o0), (1, .int (zI g4)), (2, .int (zI v)), (3, .int (zI acc)), (4, .int (zI i))] → W pg l ev (rmW 4 0 0 90) sx mm args below meth cd H locs 0 0 (QWi below args sx A D (fun (r : Int32) (u : DUS) => r = zI ((roM (btA f1 td) (g1, g2, g3, g4, g5)).1) ∧ (u = (roM (btA f1 td) (g1, g2, g3, g4, g5)).2)) (fun (u : DUS) => [(o0, .inr (5, [.long tr, .ref o1, .int (zI td), .ref o2, .ref o3, .ref o4, .ref o5, .int (zI u.1), .int (zI u.2.1), .int (zI u.2.2.1), .int (zI u.2.2.2.1), .int (zI u.2.2.2.2), .int (zI g6), .ref o6, .ref o7, .ref o8, .ref o9, .int (zI g7), .ref oz])), (o1, .inl (cB, 200, .inl (zia (sgF f1))))]) 0 0) (F0 mm 21 ls []) := by
  intro N
  induction N with
  | zero => intro j i acc s v hN; exact absurd hN (Nat.not_lt_zero _)
  | succ N ih =>
    intro j i acc s v hN hs hvr hsr hi hac hv H locs hP hD hS ls hl
    obtain ⟨hx, hb, hr, hml, hown, hts, hlk, hN0⟩ := id M
    obtain ⟨hu1, hu2, hu3, hu4, hu5⟩ := id hU
    dsimp only at hu1 hu2 hu3 hu4 hu5
    refine lv_iload hx hb dX5_round_21 (lv_at hl 4 rfl) ?_
    refine lv_iload_n hx hb dX5_round_23 rfl (lv_at hl 2 rfl) ?_
    refine z_icmp_ge (tgt := 54) hx hb dX5_round_24 (by decide) (by omega) (fun c_24 => ?_) (fun c_24 => ?_)
    · skip
      refine lv_iload_n hx hb dX5_round_54 rfl (lv_at hl 3 rfl) ?_
      exact wr_reti M dX5_round_55 (u := s) ⟨(congrArg zI (by rw [← hv]; by_cases q9 : s.2.2.2.2 = -9; (have hi5 := hi.2 q9; obtain rfl : j = 0 := (by omega); rw [if_pos q9, sfF]); (rw [if_neg q9]))), (by exact hs)⟩ hP hD hS
    refine lv_aload_n hx hb dX5_round_27 rfl (lv_at hl 0 rfl) ?_
    refine va_get (D := D) (ci := 5) (C := RX5) (T := TX5) (N := 19) hx hb hts inc_X5_round_5 hown hK hP 0 rfl rfl 11 (by decide) (hts (.fieldLink RX5 77 "BedHouseModel" "fault" "I") (by decide +kernel)) (fun _ h9 => h9) rfl dX5_round_28 ?_
    refine lv_bipush (v := zI (-9)) hx hb dX5_round_31 (by decide) ?_
    refine z_icmp_ne (tgt := 54) hx hb dX5_round_33 (by decide) (by have := hsr.2.2.2.2; omega) (fun c_33 => ?_) (fun c_33 => ?_)
    · skip
      refine lv_iload_n hx hb dX5_round_54 rfl (lv_at hl 3 rfl) ?_
      exact wr_reti M dX5_round_55 (u := s) ⟨(congrArg zI (by rw [← hv, if_neg c_33])), (by exact hs)⟩ hP hD hS
    have hi5 := hi.2 c_33
    obtain ⟨j, rfl⟩ : ∃ x : Nat, j = x + 1 := ⟨j - 1, by omega⟩
    refine lv_iload_n hx hb dX5_round_36 rfl (lv_at hl 3 rfl) ?_
    refine lv_iconst (v := zI 1) hx hb dX5_round_37 rfl ?_
    refine lv_iload_n hx hb dX5_round_38 rfl (lv_at hl 1 rfl) ?_
    refine lv_iload hx hb dX5_round_39 (lv_at hl 4 rfl) ?_
    refine z_iadd hx hb dX5_round_41 ?_
    refine lv_bipush (v := zI 8) hx hb dX5_round_42 (by decide) ?_
    refine z_irem hx hb dX5_round_44 (by omega) ?_
    refine z_ishl1 hx hb dX5_round_45 (by omega) ?_
    refine z_ior hx hb dX5_round_46 (⟨hac.1, zpw_nn _⟩) ?_
    refine lv_istore_n (lv' := [(3, .int (zI (zbor acc (zpw ((g4 + i) % 8))))), (0, .ref o0), (1, .int (zI g4)), (2, .int (zI v)), (4, .int (zI i))]) hx hb dX5_round_47 rfl hl (by decide) rfl (fun ls hl => ?_)
    refine z_iinc (a := i) (k := 4) (lv' := [(4, .int (zI (i + 1))), (3, .int (zI (zbor acc (zpw ((g4 + i) % 8))))), (0, .ref o0), (1, .int (zI g4)), (2, .int (zI v))]) hx hb dX5_round_48 hl rfl (by decide) rfl (fun ls hl => ?_)
    refine lv_goto (tgt := 21) hx hb dX5_round_51 (by decide) ?_
    exact ih j (i + 1) (zbor acc (zpw ((g4 + i) % 8))) s v (by omega) (by assumption) (by assumption) (by assumption) (by exact And.intro (by omega) (fun q => by have := hi.2 q; omega)) (by exact zbor_256 hac ⟨zpw_nn _, zpw_lt (n := 8) (by omega) (by omega)⟩) (by rw [← hv, if_pos c_33, if_pos c_33, sfF]) _ _ hP hD hS _ (lv_sub hl [2, 3, 4, 1, 0] rfl)
set_option maxHeartbeats 4000000 in
set_option maxRecDepth 100000 in
theorem c_X5_round (l : Launch) (D : va_G) (cB cI cZ cM : ClassId) (Hp : Heap) (o0 : Nat) (o1 : Nat) (o2 : Nat) (o3 : Nat) (o4 : Nat) (o5 : Nat) (o6 : Nat) (o7 : Nat) (o8 : Nat) (o9 : Nat) (oz : Nat) (tr : Int64) (td : Int) (g1 : Int) (g2 : Int) (g3 : Int) (g4 : Int) (g5 : Int) (g6 : Int) (g7 : Int) (f1 : Int → Int) (htd : 0 ≤ td ∧ td ≤ 200) (hf1 : ∀ i : Int, 0 ≤ i → i < 200 → 0 ≤ f1 i ∧ f1 i ≤ 255) (hU : okU td (g1, g2, g3, g4, g5)) : cWi l yX5_round wsX5_round (rmW 4 0 0 90) D (TYS cB cI cZ cM) [.ref o0] [(o0, .inr (5, [.long tr, .ref o1, .int (zI td), .ref o2, .ref o3, .ref o4, .ref o5, .int (zI g1), .int (zI g2), .int (zI g3), .int (zI g4), .int (zI g5), .int (zI g6), .ref o6, .ref o7, .ref o8, .ref o9, .int (zI g7), .ref oz])), (o1, .inl (cB, 200, .inl (zia (sgF f1))))] Hp (fun (r : Int32) (u : DUS) => r = zI ((roM (btA f1 td) (g1, g2, g3, g4, g5)).1) ∧ (u = (roM (btA f1 td) (g1, g2, g3, g4, g5)).2)) (fun (u : DUS) => [(o0, .inr (5, [.long tr, .ref o1, .int (zI td), .ref o2, .ref o3, .ref o4, .ref o5, .int (zI u.1), .int (zI u.2.1), .int (zI u.2.2.1), .int (zI u.2.2.2.1), .int (zI u.2.2.2.2), .int (zI g6), .ref o6, .ref o7, .ref o8, .ref o9, .int (zI g7), .ref oz])), (o1, .inl (cB, 200, .inl (zia (sgF f1))))]) 0 0 := by
  refine wr_starti (by decide) rfl (Nat.le_of_ble_eq_true rfl) ?_
  intro pg ev sx mm args below meth cd ls A M hP hD hS hA hK hl
  obtain ⟨hx, hb, hr, hml, hown, hts, hlk, hN0⟩ := id M
  have hl : lv_has ls 5 [(0, .ref o0)] := hl
  refine W.widen (k := 0) (n := 0) (Nat.zero_le _) (Nat.zero_le _) ?_
  obtain ⟨hu1, hu2, hu3, hu4, hu5⟩ := id hU
  dsimp only at hu1 hu2 hu3 hu4 hu5
  refine lv_aload_n hx hb dX5_round_0 rfl (lv_at hl 0 rfl) ?_
  refine lv_iconst (v := zI 0) hx hb dX5_round_1 rfl ?_
  refine lv_bipush (v := zI 7) hx hb dX5_round_2 (by decide) ?_
  refine wc_Vi (As := [.int (zI 0), .int (zI 7)]) (rest := []) (wr := []) (ws' := (fun u_4 : DUS => [(o0, .inr (5, [.long tr, .ref o1, .int (zI td), .ref o2, .ref o3, .ref o4, .ref o5, .int (zI u_4.1), .int (zI u_4.2.1), .int (zI u_4.2.2.1), .int (zI u_4.2.2.2.1), .int (zI u_4.2.2.2.2), .int (zI g6), .ref o6, .ref o7, .ref o8, .ref o9, .int (zI g7), .ref oz])), (o1, .inl (cB, 200, .inl (zia (sgF f1))))])) M (c_X5_number l D cB cI cZ cM _ o0 o1 o2 o3 o4 o5 o6 o7 o8 o9 oz tr td g1 g2 g3 g4 g5 g6 g7 f1 0 7 (by first | assumption | omega) (by first | assumption | omega) (hU) (by omega) (by omega)) gX5_round_X5_number rfl ⟨rfl, hd_X5_number⟩ ⟨Nat.le_of_ble_eq_true rfl, Nat.le_of_ble_eq_true rfl⟩ hK hP hD hS hA [0, 1] [] [0, 1] rfl rfl (by decide) (by decide) (by decide) (fun _ => rfl) 0 5 rfl rfl rfl hl.1 rfl rfl (Nat.le_of_ble_eq_true rfl) dX5_round_4 ⟨Nat.le_of_ble_eq_true rfl, Nat.le_of_ble_eq_true rfl⟩ (by decide) (fun r_4 u_4 H locs h_4 hP hD hS => ?_)
  obtain ⟨hz_4, h_4⟩ := h_4
  subst hz_4
  have hk4 : okU td u_4 := by rw [h_4]; exact duM_ok hU
  refine lv_istore_n (lv' := [(1, .int (zI g4)), (0, .ref o0)]) hx hb dX5_round_7 rfl hl (by decide) rfl (fun ls hl => ?_)
  refine lv_aload_n hx hb dX5_round_8 rfl (lv_at hl 1 rfl) ?_
  refine lv_iconst (v := zI 1) hx hb dX5_round_9 rfl ?_
  refine lv_bipush (v := zI 8) hx hb dX5_round_10 (by decide) ?_
  refine wc_Vi (As := [.int (zI 1), .int (zI 8)]) (rest := []) (wr := []) (ws' := (fun u_12 : DUS => [(o0, .inr (5, [.long tr, .ref o1, .int (zI td), .ref o2, .ref o3, .ref o4, .ref o5, .int (zI u_12.1), .int (zI u_12.2.1), .int (zI u_12.2.2.1), .int (zI u_12.2.2.2.1), .int (zI u_12.2.2.2.2), .int (zI g6), .ref o6, .ref o7, .ref o8, .ref o9, .int (zI g7), .ref oz])), (o1, .inl (cB, 200, .inl (zia (sgF f1))))])) M (c_X5_number l D cB cI cZ cM _ o0 o1 o2 o3 o4 o5 o6 o7 o8 o9 oz tr td u_4.1 u_4.2.1 u_4.2.2.1 u_4.2.2.2.1 u_4.2.2.2.2 g6 g7 f1 1 8 (by first | assumption | omega) (by first | assumption | omega) (hk4) (by omega) (by omega)) gX5_round_X5_number rfl ⟨rfl, hd_X5_number⟩ ⟨Nat.le_of_ble_eq_true rfl, Nat.le_of_ble_eq_true rfl⟩ hK hP hD hS hA [0, 1] [] [0, 1] rfl rfl (by decide) (by decide) (by decide) (fun _ => rfl) 0 5 rfl rfl rfl hl.1 rfl rfl (Nat.le_of_ble_eq_true rfl) dX5_round_12 ⟨Nat.le_of_ble_eq_true rfl, Nat.le_of_ble_eq_true rfl⟩ (by decide) (fun r_12 u_12 H locs h_12 hP hD hS => ?_)
  obtain ⟨hz_12, h_12⟩ := h_12
  subst hz_12
  have hk12 : okU td u_12 := by rw [h_12]; exact duM_ok hk4
  have hi0 : u_12.2.2.2.2 = -9 → ((0 : Int) + (u_4.2.2.2.1.toNat : Int) = u_4.2.2.2.1 ∧ (0 ≤ g4 ∧ g4 ≤ 7)) ∧ (1 ≤ u_4.2.2.2.1 ∧ u_4.2.2.2.1 ≤ 8) := fun q => by have q0 := duM_9 hk4.2.1.1 (show (nbM (btA f1 td) 1 8 u_4).2.2.2.2 = -9 from (congrArg (fun x : DUS => x.2.2.2.2) h_12.symm).trans q); have q5 := duM_9 (show (0 : Int) ≤ ((g1, g2, g3, g4, g5) : DUS).2.1 from hu2.1) (show (nbM (btA f1 td) 0 7 (g1, g2, g3, g4, g5)).2.2.2.2 = -9 from (congrArg (fun x : DUS => x.2.2.2.2) h_4.symm).trans q0.1); have q6 : 0 ≤ g4 ∧ g4 ≤ 7 := q5.2.2; have q7 := q0.2.2; omega
  refine lv_istore_n (lv' := [(2, .int (zI u_4.2.2.2.1)), (1, .int (zI g4)), (0, .ref o0)]) hx hb dX5_round_15 rfl hl (by decide) rfl (fun ls hl => ?_)
  refine lv_iconst (v := zI 0) hx hb dX5_round_16 rfl ?_
  refine lv_istore_n (lv' := [(3, .int (zI 0)), (2, .int (zI u_4.2.2.2.1)), (1, .int (zI g4)), (0, .ref o0)]) hx hb dX5_round_17 rfl hl (by decide) rfl (fun ls hl => ?_)
  refine lv_iconst (v := zI 0) hx hb dX5_round_18 rfl ?_
  refine lv_istore (lv' := [(4, .int (zI 0)), (3, .int (zI 0)), (2, .int (zI u_4.2.2.2.1)), (1, .int (zI g4)), (0, .ref o0)]) hx hb dX5_round_19 hl (by decide) rfl (fun ls hl => ?_)
  exact lp_X5_round_21 l D cB cI cZ cM o0 o1 o2 o3 o4 o5 o6 o7 o8 o9 oz tr td g1 g2 g3 g4 g5 g6 g7 f1 htd hf1 hU M hK hA (u_4.2.2.2.1.toNat + 1) u_4.2.2.2.1.toNat 0 0 u_12 u_4.2.2.2.1 (Nat.lt_succ_self _) (by exact h_12.trans (by rw [h_4])) (by exact hk4.2.2.2.1) (by exact hk12) (by exact And.intro (by omega) (fun q => hi0 q)) (by omega) (by unfold roM; rw [show nbM (btA f1 td) 1 8 (nbM (btA f1 td) 0 7 (g1, g2, g3, g4, g5)) = u_12 by rw [← h_4]; exact h_12.symm, show nbM (btA f1 td) 0 7 (g1, g2, g3, g4, g5) = u_4 from h_4.symm]) _ _ hP hD hS _ (lv_sub hl [4, 3, 2, 1, 0] rfl)
set_option maxHeartbeats 4000000 in
set_option maxRecDepth 100000 in
theorem c_X5_mayItem (l : Launch) (D : va_G) (cB cI cZ cM : ClassId) (Hp : Heap) (o0 : Nat) (o1 : Nat) (o2 : Nat) (o3 : Nat) (o4 : Nat) (o5 : Nat) (o6 : Nat) (o7 : Nat) (o8 : Nat) (o9 : Nat) (oz : Nat) (tr : Int64) (td : Int) (g1 : Int) (g2 : Int) (g3 : Int) (g4 : Int) (g5 : Int) (g6 : Int) (g7 : Int) (f2 : Int → Int) (w : Int) (h48 : 0 ≤ f2 8 ∧ f2 8 ≤ 4) (h29 : 0 ≤ f2 9 ∧ f2 9 ≤ 2) (h6t : 0 ≤ g6 ∧ g6 < 2048) (hw : 0 ≤ w ∧ w ≤ 14) : cP l yX5_mayItem wsX5_mayItem 0 0 D (TYS cB cI cZ cM) [.ref o0, .int (zI w)] [(o0, .inr (5, [.long tr, .ref o1, .int (zI td), .ref o2, .ref o3, .ref o4, .ref o5, .int (zI g1), .int (zI g2), .int (zI g3), .int (zI g4), .int (zI g5), .int (zI g6), .ref o6, .ref o7, .ref o8, .ref o9, .int (zI g7), .ref oz])), (o2, .inl (cI, 16, .inl (zia f2)))] Hp (fun r => r = zI (zb (myP f2 g6 w))) := by
  refine pu_start (by decide) rfl (Nat.le_of_ble_eq_true rfl) ?_
  intro pg ev sx mm args below meth cd ls M hP hK hl
  obtain ⟨hx, hb, hr, hml, hown, hts, hlk, hN0⟩ := id M
  have hl : lv_has ls 2 [(0, .ref o0), (1, .int (zI w))] := hl
  refine lv_iload_n hx hb dX5_mayItem_0 rfl (lv_at hl 1 rfl) ?_
  refine lv_iconst (v := zI 4) hx hb dX5_mayItem_1 rfl ?_
  refine z_icmp_ge (tgt := 24) hx hb dX5_mayItem_2 (by decide) (by omega) (fun c_2 => ?_) (fun c_2 => ?_)
  · skip
    refine lv_iload_n hx hb dX5_mayItem_24 rfl (lv_at hl 1 rfl) ?_
    refine lv_iconst (v := zI 4) hx hb dX5_mayItem_25 rfl ?_
    refine z_icmp_ne (tgt := 48) hx hb dX5_mayItem_26 (by decide) (by omega) (fun c_26 => ?_) (fun c_26 => ?_)
    · skip
      refine lv_iload_n hx hb dX5_mayItem_48 rfl (lv_at hl 1 rfl) ?_
      refine lv_bipush (v := zI 7) hx hb dX5_mayItem_49 (by decide) ?_
      refine z_icmp_lt (tgt := 71) hx hb dX5_mayItem_51 (by decide) (by omega) (fun c_51 => ?_) (fun c_51 => ?_)
      · skip
        refine lv_iconst (v := zI 1) hx hb dX5_mayItem_71 rfl ?_
        refine lv_goto (tgt := 76) hx hb dX5_mayItem_72 (by decide) ?_
        exact pu_retz M (rfl) dX5_mayItem_76 (congrArg zI (by exact (zb_1 (Or.inr (Or.inr (Or.inl (And.intro (by omega) (by omega)))))).symm))
      refine lv_iload_n hx hb dX5_mayItem_54 rfl (lv_at hl 1 rfl) ?_
      refine lv_bipush (v := zI 10) hx hb dX5_mayItem_55 (by decide) ?_
      refine z_icmp_gt (tgt := 75) hx hb dX5_mayItem_57 (by decide) (by omega) (fun c_57 => ?_) (fun c_57 => ?_)
      · skip
        refine lv_iconst (v := zI 0) hx hb dX5_mayItem_75 rfl ?_
        exact pu_retz M (rfl) dX5_mayItem_76 (congrArg zI (by exact (zb_0 (fun q => by rcases q with q | q | q | ⟨q, -⟩ <;> omega)).symm))
      refine lv_aload_n hx hb dX5_mayItem_60 rfl (lv_at hl 0 rfl) ?_
      refine va_get (D := D) (ci := 5) (C := RX5) (T := TX5) (N := 19) hx hb hts inc_X5_mayItem_5 hown hK hP 0 rfl rfl 12 (by decide) (hts (.fieldLink RX5 91 "BedHouseModel" "told" "I") (by decide +kernel)) (fun _ h9 => h9) rfl dX5_mayItem_61 ?_
      refine lv_iload_n hx hb dX5_mayItem_64 rfl (lv_at hl 1 rfl) ?_
      refine z_ishr hx hb dX5_mayItem_65 (by omega) ?_
      refine lv_iconst (v := zI 1) hx hb dX5_mayItem_66 rfl ?_
      refine z_ibit hx hb dX5_mayItem_67 ?_
      refine z_if_ne (tgt := 75) hx hb dX5_mayItem_68 (by decide) (zbit_bd _ _) (fun c_68 => ?_) (fun c_68 => ?_)
      · skip
        have c_68 := zbit_nz c_68
        refine lv_iconst (v := zI 0) hx hb dX5_mayItem_75 rfl ?_
        exact pu_retz M (rfl) dX5_mayItem_76 (congrArg zI (by exact (zb_0 (fun q => by rcases q with q | q | q | ⟨q, r⟩; omega; omega; omega; rw [c_68] at r; exact absurd r (by decide))).symm))
      have c_68 := (zbit_0 _ _).mp c_68
      refine lv_iconst (v := zI 1) hx hb dX5_mayItem_71 rfl ?_
      refine lv_goto (tgt := 76) hx hb dX5_mayItem_72 (by decide) ?_
      exact pu_retz M (rfl) dX5_mayItem_76 (congrArg zI (by exact (zb_1 (Or.inr (Or.inr (Or.inr (And.intro (by omega) c_68))))).symm))
    refine lv_aload_n hx hb dX5_mayItem_29 rfl (lv_at hl 0 rfl) ?_
    refine va_get (D := D) (ci := 5) (C := RX5) (T := TX5) (N := 19) hx hb hts inc_X5_mayItem_5 hown hK hP 0 rfl rfl 3 (by decide) (hts (.fieldLink RX5 13 "BedHouseModel" "plan" "[I") (by decide +kernel)) (fun _ h9 => h9) rfl dX5_mayItem_30 ?_
    refine lv_bipush (v := zI 9) hx hb dX5_mayItem_33 (by decide) ?_
    refine z_iald hx hb hK hP 1 1 rfl rfl (Nat.le_of_ble_eq_true rfl) dX5_mayItem_35 (by omega) ?_
    refine lv_iconst (v := zI 2) hx hb dX5_mayItem_36 rfl ?_
    refine z_icmp_ge (tgt := 44) hx hb dX5_mayItem_37 (by decide) (by omega) (fun c_37 => ?_) (fun c_37 => ?_)
    · skip
      refine lv_iconst (v := zI 0) hx hb dX5_mayItem_44 rfl ?_
      refine lv_goto (tgt := 76) hx hb dX5_mayItem_45 (by decide) ?_
      exact pu_retz M (rfl) dX5_mayItem_76 (congrArg zI (by exact (zb_0 (fun q => by rcases q with q | q | q | ⟨q, -⟩ <;> omega)).symm))
    refine lv_iconst (v := zI 1) hx hb dX5_mayItem_40 rfl ?_
    refine lv_goto (tgt := 76) hx hb dX5_mayItem_41 (by decide) ?_
    exact pu_retz M (rfl) dX5_mayItem_76 (congrArg zI (by exact (zb_1 (Or.inr (Or.inl (And.intro (by omega) (by omega))))).symm))
  refine lv_aload_n hx hb dX5_mayItem_5 rfl (lv_at hl 0 rfl) ?_
  refine va_get (D := D) (ci := 5) (C := RX5) (T := TX5) (N := 19) hx hb hts inc_X5_mayItem_5 hown hK hP 0 rfl rfl 3 (by decide) (hts (.fieldLink RX5 13 "BedHouseModel" "plan" "[I") (by decide +kernel)) (fun _ h9 => h9) rfl dX5_mayItem_6 ?_
  refine lv_bipush (v := zI 8) hx hb dX5_mayItem_9 (by decide) ?_
  refine z_iald hx hb hK hP 1 1 rfl rfl (Nat.le_of_ble_eq_true rfl) dX5_mayItem_11 (by omega) ?_
  refine lv_iconst (v := zI 4) hx hb dX5_mayItem_12 rfl ?_
  refine z_icmp_ge (tgt := 20) hx hb dX5_mayItem_13 (by decide) (by omega) (fun c_13 => ?_) (fun c_13 => ?_)
  · skip
    refine lv_iconst (v := zI 0) hx hb dX5_mayItem_20 rfl ?_
    refine lv_goto (tgt := 76) hx hb dX5_mayItem_21 (by decide) ?_
    exact pu_retz M (rfl) dX5_mayItem_76 (congrArg zI (by exact (zb_0 (fun q => by rcases q with q | q | q | ⟨q, -⟩ <;> omega)).symm))
  refine lv_iconst (v := zI 1) hx hb dX5_mayItem_16 rfl ?_
  refine lv_goto (tgt := 76) hx hb dX5_mayItem_17 (by decide) ?_
  exact pu_retz M (rfl) dX5_mayItem_76 (congrArg zI (by exact (zb_1 (Or.inl (And.intro (by omega) (by omega)))).symm))
set_option maxHeartbeats 4000000 in
set_option maxRecDepth 100000 in
theorem lp_X5_readItem_239 (l : Launch) (D : va_G) (cB cI cZ cM : ClassId) (o0 : Nat) (o1 : Nat) (o2 : Nat) (o3 : Nat) (o4 : Nat) (o5 : Nat) (o6 : Nat) (o7 : Nat) (o8 : Nat) (o9 : Nat) (oz : Nat) (tr : Int64) (td : Int) (g1 : Int) (g2 : Int) (g3 : Int) (g4 : Int) (g5 : Int) (g6 : Int) (g7 : Int) (f1 : Int → Int) (f2 : Int → Int) (f3 : Int → Int) (f4 : Int → Int) (f5 : Int → Int) (htd : 0 ≤ td ∧ td ≤ 200) (hf1 : ∀ i : Int, 0 ≤ i → i < 200 → 0 ≤ f1 i ∧ f1 i ≤ 255) (hok : okD td ((g1, g2, g3, g4, g5), g6, f2, f3, f4, f5)) (h59 : g5 = -9) {pg : Program} {ev : Env} {sx : State} {mm : MethodId} {args : Array Value} {below : List Frame} {meth : Method} {cd : Code} (M : MX pg sx mm args meth cd cX5_readItem 4 none RX5 wsX5_readItem) (hK : va_K D vwCl (TYS cB cI cZ cM) sx) {A : Nat → Prop} (hA : ∀ q : Nat, sx.heap.size ≤ q → A q) : ∀ (r : RIS), (okU td r.1) → ((stM (btA f1 td) r.1, r.2) = riM (btA f1 td) (g1, g2, g3, g4, g5) g6 f2 f3 f4 f5) → ∀ (H : Heap) (locs : List Loc), va_P D vwCl [(o0, .inr (5, [.long tr, .ref o1, .int (zI td), .ref o2, .ref o3, .ref o4, .ref o5, .int (zI r.1.1), .int (zI r.1.2.1), .int (zI r.1.2.2.1), .int (zI r.1.2.2.2.1), .int (zI r.1.2.2.2.2), .int (zI r.2.1), .ref o6, .ref o7, .ref o8, .ref o9, .int (zI g7), .ref oz])), (o1, .inl (cB, 200, .inl (zia (sgF f1)))), (o2, .inl (cI, 16, .inl (zia r.2.2.1))), (o3, .inl (cI, 8, .inl (zia r.2.2.2.1))), (o4, .inl (cI, 8, .inl (zia r.2.2.2.2.1))), (o5, .inl (cI, 4, .inl (zia r.2.2.2.2.2)))] H → va_D A [(o0, .inr (5, [.long tr, .ref o1, .int (zI td), .ref o2, .ref o3, .ref o4, .ref o5, .int (zI r.1.1), .int (zI r.1.2.1), .int (zI r.1.2.2.1), .int (zI r.1.2.2.2.1), .int (zI r.1.2.2.2.2), .int (zI r.2.1), .ref o6, .ref o7, .ref o8, .ref o9, .int (zI g7), .ref oz])), (o1, .inl (cB, 200, .inl (zia (sgF f1)))), (o2, .inl (cI, 16, .inl (zia r.2.2.1))), (o3, .inl (cI, 8, .inl (zia r.2.2.2.1))), (o4, .inl (cI, 8, .inl (zia r.2.2.2.2.1))), (o5, .inl (cI, 4, .inl (zia r.2.2.2.2.2)))] → va_S A sx.heap H locs → ∀ ls : Array Slot, lv_has ls 4 [(0, .ref o0)] → W pg l ev (rmW 5 0 0 114) sx mm args below meth cd H locs 0 0 (QWv below args sx A D (fun (u : RIS) => u = riM (btA f1 td) (g1, g2, g3, g4, g5) g6 f2 f3 f4 f5) (fun (u : RIS) => [(o0, .inr (5, [.long tr, .ref o1, .int (zI td), .ref o2, .ref o3, .ref o4, .ref o5, .int (zI u.1.1), .int (zI u.1.2.1), .int (zI u.1.2.2.1), .int (zI u.1.2.2.2.1), .int (zI u.1.2.2.2.2), .int (zI u.2.1), .ref o6, .ref o7, .ref o8, .ref o9, .int (zI g7), .ref oz])), (o1, .inl (cB, 200, .inl (zia (sgF f1)))), (o2, .inl (cI, 16, .inl (zia u.2.2.1))), (o3, .inl (cI, 8, .inl (zia u.2.2.2.1))), (o4, .inl (cI, 8, .inl (zia u.2.2.2.2.1))), (o5, .inl (cI, 4, .inl (zia u.2.2.2.2.2)))]) 0 0) (F0 mm 239 ls []) := by
  intro r hru hv H locs hP hD hS ls hl
  obtain ⟨hx, hb, hr, hml, hown, hts, hlk, hN0⟩ := id M
  obtain ⟨hU, ht6, h48, h29, hb10, hb11, hso8, hat, hbm4⟩ := id hok
  dsimp only at hU ht6 h48 h29 hb10 hb11 hso8 hat hbm4
  obtain ⟨hu1, hu2, hu3, hu4, hu5⟩ := id hU
  dsimp only at hu1 hu2 hu3 hu4 hu5
  have hr7 := hru.2.2.1
  refine lv_aload_n hx hb dX5_readItem_239 rfl (lv_at hl 0 rfl) ?_
  refine lv_aload_n hx hb dX5_readItem_240 rfl (lv_at hl 0 rfl) ?_
  refine va_get (D := D) (ci := 5) (C := RX5) (T := TX5) (N := 19) hx hb hts inc_X5_readItem_5 hown hK hP 0 rfl rfl 9 (by decide) (hts (.fieldLink RX5 69 "BedHouseModel" "sort" "I") (by decide +kernel)) (fun _ h9 => h9) rfl dX5_readItem_241 ?_
  refine lv_bipush (v := zI 13) hx hb dX5_readItem_244 (by decide) ?_
  refine z_icmp_ne (tgt := 253) hx hb dX5_readItem_246 (by decide) (by omega) (fun c_246 => ?_) (fun c_246 => ?_)
  · skip
    refine lv_iconst (v := zI 0) hx hb dX5_readItem_253 rfl ?_
    refine wc_Vi (As := [.int (zI 0)]) (rest := []) (wr := [(o2, .inl (cI, 16, .inl (zia r.2.2.1))), (o3, .inl (cI, 8, .inl (zia r.2.2.2.1))), (o4, .inl (cI, 8, .inl (zia r.2.2.2.2.1))), (o5, .inl (cI, 4, .inl (zia r.2.2.2.2.2)))]) (ws' := (fun u_254 : DUS => [(o0, .inr (5, [.long tr, .ref o1, .int (zI td), .ref o2, .ref o3, .ref o4, .ref o5, .int (zI u_254.1), .int (zI u_254.2.1), .int (zI u_254.2.2.1), .int (zI u_254.2.2.2.1), .int (zI u_254.2.2.2.2), .int (zI r.2.1), .ref o6, .ref o7, .ref o8, .ref o9, .int (zI g7), .ref oz])), (o1, .inl (cB, 200, .inl (zia (sgF f1)))), (o2, .inl (cI, 16, .inl (zia r.2.2.1))), (o3, .inl (cI, 8, .inl (zia r.2.2.2.1))), (o4, .inl (cI, 8, .inl (zia r.2.2.2.2.1))), (o5, .inl (cI, 4, .inl (zia r.2.2.2.2.2)))])) M (c_X5_due l D cB cI cZ cM _ o0 o1 o2 o3 o4 o5 o6 o7 o8 o9 oz tr td r.1.1 r.1.2.1 r.1.2.2.1 r.1.2.2.2.1 r.1.2.2.2.2 r.2.1 g7 f1 0 (by first | assumption | omega) (by first | assumption | omega) (hru) (by omega)) gX5_readItem_X5_due rfl ⟨rfl, hd_X5_due⟩ ⟨Nat.le_of_ble_eq_true rfl, Nat.le_of_ble_eq_true rfl⟩ hK hP hD hS hA [0, 1] [2, 3, 4, 5] [4, 5, 0, 1, 2, 3] rfl rfl (by decide) (by decide) (by decide) (fun _ => rfl) 0 5 rfl rfl rfl hl.1 rfl rfl (Nat.le_of_ble_eq_true rfl) dX5_readItem_254 ⟨Nat.le_of_ble_eq_true rfl, Nat.le_of_ble_eq_true rfl⟩ (by decide) (fun r_254 u_254 H locs h_254 hP hD hS => ?_)
    obtain ⟨hz_254, h_254⟩ := h_254
    subst hz_254
    refine lv_pop hx hb dX5_readItem_257 rfl ?_
    exact wr_retv M dX5_readItem_258 (u := (u_254, r.2)) (by rw [← hv, show stM (btA f1 td) r.1 = u_254 from ((h_254.trans (duM_c (Iff.intro (fun q => absurd q (by decide)) (fun q => absurd q c_246)))).symm)]) hP hD hS
  refine lv_iconst (v := zI 1) hx hb dX5_readItem_249 rfl ?_
  refine lv_goto (tgt := 254) hx hb dX5_readItem_250 (by decide) ?_
  refine wc_Vi (As := [.int (zI 1)]) (rest := []) (wr := [(o2, .inl (cI, 16, .inl (zia r.2.2.1))), (o3, .inl (cI, 8, .inl (zia r.2.2.2.1))), (o4, .inl (cI, 8, .inl (zia r.2.2.2.2.1))), (o5, .inl (cI, 4, .inl (zia r.2.2.2.2.2)))]) (ws' := (fun u_254 : DUS => [(o0, .inr (5, [.long tr, .ref o1, .int (zI td), .ref o2, .ref o3, .ref o4, .ref o5, .int (zI u_254.1), .int (zI u_254.2.1), .int (zI u_254.2.2.1), .int (zI u_254.2.2.2.1), .int (zI u_254.2.2.2.2), .int (zI r.2.1), .ref o6, .ref o7, .ref o8, .ref o9, .int (zI g7), .ref oz])), (o1, .inl (cB, 200, .inl (zia (sgF f1)))), (o2, .inl (cI, 16, .inl (zia r.2.2.1))), (o3, .inl (cI, 8, .inl (zia r.2.2.2.1))), (o4, .inl (cI, 8, .inl (zia r.2.2.2.2.1))), (o5, .inl (cI, 4, .inl (zia r.2.2.2.2.2)))])) M (c_X5_due l D cB cI cZ cM _ o0 o1 o2 o3 o4 o5 o6 o7 o8 o9 oz tr td r.1.1 r.1.2.1 r.1.2.2.1 r.1.2.2.2.1 r.1.2.2.2.2 r.2.1 g7 f1 1 (by first | assumption | omega) (by first | assumption | omega) (hru) (by omega)) gX5_readItem_X5_due rfl ⟨rfl, hd_X5_due⟩ ⟨Nat.le_of_ble_eq_true rfl, Nat.le_of_ble_eq_true rfl⟩ hK hP hD hS hA [0, 1] [2, 3, 4, 5] [4, 5, 0, 1, 2, 3] rfl rfl (by decide) (by decide) (by decide) (fun _ => rfl) 0 5 rfl rfl rfl hl.1 rfl rfl (Nat.le_of_ble_eq_true rfl) dX5_readItem_254 ⟨Nat.le_of_ble_eq_true rfl, Nat.le_of_ble_eq_true rfl⟩ (by decide) (fun r_254 u_254 H locs h_254 hP hD hS => ?_)
  obtain ⟨hz_254, h_254⟩ := h_254
  subst hz_254
  refine lv_pop hx hb dX5_readItem_257 rfl ?_
  exact wr_retv M dX5_readItem_258 (u := (u_254, r.2)) (by rw [← hv, show stM (btA f1 td) r.1 = u_254 from ((h_254.trans (duM_c (Iff.intro (fun _ => c_246) (fun _ => rfl)))).symm)]) hP hD hS
set_option maxHeartbeats 4000000 in
set_option maxRecDepth 100000 in
theorem lp_X5_readItem_97 (l : Launch) (D : va_G) (cB cI cZ cM : ClassId) (o0 : Nat) (o1 : Nat) (o2 : Nat) (o3 : Nat) (o4 : Nat) (o5 : Nat) (o6 : Nat) (o7 : Nat) (o8 : Nat) (o9 : Nat) (oz : Nat) (tr : Int64) (td : Int) (g1 : Int) (g2 : Int) (g3 : Int) (g4 : Int) (g5 : Int) (g6 : Int) (g7 : Int) (f1 : Int → Int) (f2 : Int → Int) (f3 : Int → Int) (f4 : Int → Int) (f5 : Int → Int) (htd : 0 ≤ td ∧ td ≤ 200) (hf1 : ∀ i : Int, 0 ≤ i → i < 200 → 0 ≤ f1 i ∧ f1 i ≤ 255) (hok : okD td ((g1, g2, g3, g4, g5), g6, f2, f3, f4, f5)) (h59 : g5 = -9) {pg : Program} {ev : Env} {sx : State} {mm : MethodId} {args : Array Value} {below : List Frame} {meth : Method} {cd : Code} (M : MX pg sx mm args meth cd cX5_readItem 4 none RX5 wsX5_readItem) (hK : va_K D vwCl (TYS cB cI cZ cM) sx) {A : Nat → Prop} (hA : ∀ q : Nat, sx.heap.size ≤ q → A q) : ∀ (a : Int) (s : DUS), (s = duM (btA f1 td) (myP f2 g6 g3) (g1, g2, g3, g4, g5)) → (s.2.2.2.2 = -9) → (g3 < 4) → (f2 8 < 4) → (a = 0 ∨ a = 1) → (a = 1 ↔ pnP s f2 f4) → ∀ (H : Heap) (locs : List Loc), va_P D vwCl [(o0, .inr (5, [.long tr, .ref o1, .int (zI td), .ref o2, .ref o3, .ref o4, .ref o5, .int (zI s.1), .int (zI s.2.1), .int (zI s.2.2.1), .int (zI s.2.2.2.1), .int (zI s.2.2.2.2), .int (zI (zbor g6 (zpw g3))), .ref o6, .ref o7, .ref o8, .ref o9, .int (zI g7), .ref oz])), (o1, .inl (cB, 200, .inl (zia (sgF f1)))), (o2, .inl (cI, 16, .inl (zia f2))), (o3, .inl (cI, 8, .inl (zia (zup f3 (4 + f2 8) g3)))), (o4, .inl (cI, 8, .inl (zia f4))), (o5, .inl (cI, 4, .inl (zia f5)))] H → va_D A [(o0, .inr (5, [.long tr, .ref o1, .int (zI td), .ref o2, .ref o3, .ref o4, .ref o5, .int (zI s.1), .int (zI s.2.1), .int (zI s.2.2.1), .int (zI s.2.2.2.1), .int (zI s.2.2.2.2), .int (zI (zbor g6 (zpw g3))), .ref o6, .ref o7, .ref o8, .ref o9, .int (zI g7), .ref oz])), (o1, .inl (cB, 200, .inl (zia (sgF f1)))), (o2, .inl (cI, 16, .inl (zia f2))), (o3, .inl (cI, 8, .inl (zia (zup f3 (4 + f2 8) g3)))), (o4, .inl (cI, 8, .inl (zia f4))), (o5, .inl (cI, 4, .inl (zia f5)))] → va_S A sx.heap H locs → ∀ ls : Array Slot, lv_has ls 4 [(0, .ref o0), (1, .int (zI g3)), (2, .int (zI (4 + f2 8)))] → W pg l ev (rmW 5 0 0 114) sx mm args below meth cd H locs 0 0 (QWv below args sx A D (fun (u : RIS) => u = riM (btA f1 td) (g1, g2, g3, g4, g5) g6 f2 f3 f4 f5) (fun (u : RIS) => [(o0, .inr (5, [.long tr, .ref o1, .int (zI td), .ref o2, .ref o3, .ref o4, .ref o5, .int (zI u.1.1), .int (zI u.1.2.1), .int (zI u.1.2.2.1), .int (zI u.1.2.2.2.1), .int (zI u.1.2.2.2.2), .int (zI u.2.1), .ref o6, .ref o7, .ref o8, .ref o9, .int (zI g7), .ref oz])), (o1, .inl (cB, 200, .inl (zia (sgF f1)))), (o2, .inl (cI, 16, .inl (zia u.2.2.1))), (o3, .inl (cI, 8, .inl (zia u.2.2.2.1))), (o4, .inl (cI, 8, .inl (zia u.2.2.2.2.1))), (o5, .inl (cI, 4, .inl (zia u.2.2.2.2.2)))]) 0 0) (F0 mm 97 ls [.int (zI a)]) := by
  intro a s hs hs9 hw4 h48b ha hap H locs hP hD hS ls hl
  obtain ⟨hx, hb, hr, hml, hown, hts, hlk, hN0⟩ := id M
  obtain ⟨hU, ht6, h48, h29, hb10, hb11, hso8, hat, hbm4⟩ := id hok
  dsimp only at hU ht6 h48 h29 hb10 hb11 hso8 hat hbm4
  obtain ⟨hu1, hu2, hu3, hu4, hu5⟩ := id hU
  dsimp only at hu1 hu2 hu3 hu4 hu5
  have hsk : okU td s := by rw [hs]; exact duM_ok hU
  refine lv_istore_n (lv' := [(3, .int (zI a)), (0, .ref o0), (1, .int (zI g3)), (2, .int (zI (4 + f2 8)))]) hx hb dX5_readItem_97 rfl hl (by decide) rfl (fun ls hl => ?_)
  refine lv_aload_n hx hb dX5_readItem_98 rfl (lv_at hl 1 rfl) ?_
  refine va_get (D := D) (ci := 5) (C := RX5) (T := TX5) (N := 19) hx hb hts inc_X5_readItem_5 hown hK hP 0 rfl rfl 5 (by decide) (hts (.fieldLink RX5 20 "BedHouseModel" "at0" "[I") (by decide +kernel)) (fun _ h9 => h9) rfl dX5_readItem_99 ?_
  refine lv_iload_n hx hb dX5_readItem_102 rfl (lv_at hl 3 rfl) ?_
  refine lv_aload_n hx hb dX5_readItem_103 rfl (lv_at hl 1 rfl) ?_
  refine lv_iload_n hx hb dX5_readItem_104 rfl (lv_at hl 0 rfl) ?_
  refine wc_Vi (As := [.int (zI a)]) (rest := [.int (zI (4 + f2 8)), .ref o4]) (wr := [(o2, .inl (cI, 16, .inl (zia f2))), (o3, .inl (cI, 8, .inl (zia (zup f3 (4 + f2 8) g3)))), (o4, .inl (cI, 8, .inl (zia f4))), (o5, .inl (cI, 4, .inl (zia f5)))]) (ws' := (fun u_105 : DUS => [(o0, .inr (5, [.long tr, .ref o1, .int (zI td), .ref o2, .ref o3, .ref o4, .ref o5, .int (zI u_105.1), .int (zI u_105.2.1), .int (zI u_105.2.2.1), .int (zI u_105.2.2.2.1), .int (zI u_105.2.2.2.2), .int (zI (zbor g6 (zpw g3))), .ref o6, .ref o7, .ref o8, .ref o9, .int (zI g7), .ref oz])), (o1, .inl (cB, 200, .inl (zia (sgF f1)))), (o2, .inl (cI, 16, .inl (zia f2))), (o3, .inl (cI, 8, .inl (zia (zup f3 (4 + f2 8) g3)))), (o4, .inl (cI, 8, .inl (zia f4))), (o5, .inl (cI, 4, .inl (zia f5)))])) M (c_X5_due l D cB cI cZ cM _ o0 o1 o2 o3 o4 o5 o6 o7 o8 o9 oz tr td s.1 s.2.1 s.2.2.1 s.2.2.2.1 s.2.2.2.2 (zbor g6 (zpw g3)) g7 f1 a (by first | assumption | omega) (by first | assumption | omega) (hsk) (ha)) gX5_readItem_X5_due rfl ⟨rfl, hd_X5_due⟩ ⟨Nat.le_of_ble_eq_true rfl, Nat.le_of_ble_eq_true rfl⟩ hK hP hD hS hA [0, 1] [2, 3, 4, 5] [4, 5, 0, 1, 2, 3] rfl rfl (by decide) (by decide) (by decide) (fun _ => rfl) 0 5 rfl rfl rfl hl.1 rfl rfl (Nat.le_of_ble_eq_true rfl) dX5_readItem_105 ⟨Nat.le_of_ble_eq_true rfl, Nat.le_of_ble_eq_true rfl⟩ (by decide) (fun r_105 u_105 H locs h_105 hP hD hS => ?_)
  obtain ⟨hz_105, h_105⟩ := h_105
  subst hz_105
  have h105 : u_105 = duM (btA f1 td) (pnP s f2 f4) s := h_105.trans (duM_c hap)
  refine z_iast (ws' := [(o0, .inr (5, [.long tr, .ref o1, .int (zI td), .ref o2, .ref o3, .ref o4, .ref o5, .int (zI u_105.1), .int (zI u_105.2.1), .int (zI u_105.2.2.1), .int (zI u_105.2.2.2.1), .int (zI u_105.2.2.2.2), .int (zI (zbor g6 (zpw g3))), .ref o6, .ref o7, .ref o8, .ref o9, .int (zI g7), .ref oz])), (o1, .inl (cB, 200, .inl (zia (sgF f1)))), (o2, .inl (cI, 16, .inl (zia f2))), (o3, .inl (cI, 8, .inl (zia (zup f3 (4 + f2 8) g3)))), (o4, .inl (cI, 8, .inl (zia (zup f4 (4 + f2 8) s.2.2.2.1)))), (o5, .inl (cI, 4, .inl (zia f5)))]) hx hb hK hP hD hS 4 1 rfl rfl (Nat.le_of_ble_eq_true rfl) dX5_readItem_108 rfl (by omega) (fun H locs hP hD hS => ?_)
  refine lv_aload_n hx hb dX5_readItem_109 rfl (lv_at hl 1 rfl) ?_
  refine va_get (D := D) (ci := 5) (C := RX5) (T := TX5) (N := 19) hx hb hts inc_X5_readItem_5 hown hK hP 0 rfl rfl 3 (by decide) (hts (.fieldLink RX5 13 "BedHouseModel" "plan" "[I") (by decide +kernel)) (fun _ h9 => h9) rfl dX5_readItem_110 ?_
  refine lv_bipush (v := zI 8) hx hb dX5_readItem_113 (by decide) ?_
  refine lv_dup2_11 hx hb dX5_readItem_115 rfl rfl ?_
  refine z_iald hx hb hK hP 2 1 rfl rfl (Nat.le_of_ble_eq_true rfl) dX5_readItem_116 (by omega) ?_
  refine lv_iconst (v := zI 1) hx hb dX5_readItem_117 rfl ?_
  refine z_iadd hx hb dX5_readItem_118 ?_
  refine z_iast (ws' := [(o0, .inr (5, [.long tr, .ref o1, .int (zI td), .ref o2, .ref o3, .ref o4, .ref o5, .int (zI u_105.1), .int (zI u_105.2.1), .int (zI u_105.2.2.1), .int (zI u_105.2.2.2.1), .int (zI u_105.2.2.2.2), .int (zI (zbor g6 (zpw g3))), .ref o6, .ref o7, .ref o8, .ref o9, .int (zI g7), .ref oz])), (o1, .inl (cB, 200, .inl (zia (sgF f1)))), (o2, .inl (cI, 16, .inl (zia (zup f2 8 ((f2 8) + 1))))), (o3, .inl (cI, 8, .inl (zia (zup f3 (4 + f2 8) g3)))), (o4, .inl (cI, 8, .inl (zia (zup f4 (4 + f2 8) s.2.2.2.1)))), (o5, .inl (cI, 4, .inl (zia f5)))]) hx hb hK hP hD hS 2 1 rfl rfl (Nat.le_of_ble_eq_true rfl) dX5_readItem_119 rfl (by omega) (fun H locs hP hD hS => ?_)
  refine lv_goto (tgt := 239) hx hb dX5_readItem_120 (by decide) ?_
  exact lp_X5_readItem_239 l D cB cI cZ cM o0 o1 o2 o3 o4 o5 o6 o7 o8 o9 oz tr td g1 g2 g3 g4 g5 g6 g7 f1 f2 f3 f4 f5 htd hf1 hok h59 M hK hA (u_105, zbor g6 (zpw g3), zup f2 8 (f2 8 + 1), zup f3 (4 + f2 8) g3, zup f4 (4 + f2 8) s.2.2.2.1, f5) (by show okU td u_105; rw [h105]; exact duM_ok hsk) (by rw [riM_y (hs ▸ hs9), riN_4 hw4, show duM (btA f1 td) (myP f2 g6 ((g1, g2, g3, g4, g5) : DUS).2.2.1) (g1, g2, g3, g4, g5) = s from hs.symm, ← h105]) _ _ hP hD hS _ (lv_sub hl [1] rfl)
set_option maxHeartbeats 4000000 in
set_option maxRecDepth 100000 in
theorem c_X5_readItem (l : Launch) (D : va_G) (cB cI cZ cM : ClassId) (Hp : Heap) (o0 : Nat) (o1 : Nat) (o2 : Nat) (o3 : Nat) (o4 : Nat) (o5 : Nat) (o6 : Nat) (o7 : Nat) (o8 : Nat) (o9 : Nat) (oz : Nat) (tr : Int64) (td : Int) (g1 : Int) (g2 : Int) (g3 : Int) (g4 : Int) (g5 : Int) (g6 : Int) (g7 : Int) (f1 : Int → Int) (f2 : Int → Int) (f3 : Int → Int) (f4 : Int → Int) (f5 : Int → Int) (htd : 0 ≤ td ∧ td ≤ 200) (hf1 : ∀ i : Int, 0 ≤ i → i < 200 → 0 ≤ f1 i ∧ f1 i ≤ 255) (hok : okD td ((g1, g2, g3, g4, g5), g6, f2, f3, f4, f5)) (h59 : g5 = -9) : cWv l yX5_readItem wsX5_readItem (rmW 5 0 0 114) D (TYS cB cI cZ cM) [.ref o0] [(o0, .inr (5, [.long tr, .ref o1, .int (zI td), .ref o2, .ref o3, .ref o4, .ref o5, .int (zI g1), .int (zI g2), .int (zI g3), .int (zI g4), .int (zI g5), .int (zI g6), .ref o6, .ref o7, .ref o8, .ref o9, .int (zI g7), .ref oz])), (o1, .inl (cB, 200, .inl (zia (sgF f1)))), (o2, .inl (cI, 16, .inl (zia f2))), (o3, .inl (cI, 8, .inl (zia f3))), (o4, .inl (cI, 8, .inl (zia f4))), (o5, .inl (cI, 4, .inl (zia f5)))] Hp (fun (u : RIS) => u = riM (btA f1 td) (g1, g2, g3, g4, g5) g6 f2 f3 f4 f5) (fun (u : RIS) => [(o0, .inr (5, [.long tr, .ref o1, .int (zI td), .ref o2, .ref o3, .ref o4, .ref o5, .int (zI u.1.1), .int (zI u.1.2.1), .int (zI u.1.2.2.1), .int (zI u.1.2.2.2.1), .int (zI u.1.2.2.2.2), .int (zI u.2.1), .ref o6, .ref o7, .ref o8, .ref o9, .int (zI g7), .ref oz])), (o1, .inl (cB, 200, .inl (zia (sgF f1)))), (o2, .inl (cI, 16, .inl (zia u.2.2.1))), (o3, .inl (cI, 8, .inl (zia u.2.2.2.1))), (o4, .inl (cI, 8, .inl (zia u.2.2.2.2.1))), (o5, .inl (cI, 4, .inl (zia u.2.2.2.2.2)))]) 0 0 := by
  refine wr_startv (by decide) rfl (Nat.le_of_ble_eq_true rfl) ?_
  intro pg ev sx mm args below meth cd ls A M hP hD hS hA hK hl
  obtain ⟨hx, hb, hr, hml, hown, hts, hlk, hN0⟩ := id M
  have hl : lv_has ls 4 [(0, .ref o0)] := hl
  refine W.widen (k := 0) (n := 0) (Nat.zero_le _) (Nat.zero_le _) ?_
  obtain ⟨hU, ht6, h48, h29, hb10, hb11, hso8, hat, hbm4⟩ := id hok
  dsimp only at hU ht6 h48 h29 hb10 hb11 hso8 hat hbm4
  obtain ⟨hu1, hu2, hu3, hu4, hu5⟩ := id hU
  dsimp only at hu1 hu2 hu3 hu4 hu5
  refine lv_aload_n hx hb dX5_readItem_0 rfl (lv_at hl 0 rfl) ?_
  refine va_get (D := D) (ci := 5) (C := RX5) (T := TX5) (N := 19) hx hb hts inc_X5_readItem_5 hown hK hP 0 rfl rfl 9 (by decide) (hts (.fieldLink RX5 69 "BedHouseModel" "sort" "I") (by decide +kernel)) (fun _ h9 => h9) rfl dX5_readItem_1 ?_
  refine lv_istore_n (lv' := [(1, .int (zI g3)), (0, .ref o0)]) hx hb dX5_readItem_4 rfl hl (by decide) rfl (fun ls hl => ?_)
  refine lv_aload_n hx hb dX5_readItem_5 rfl (lv_at hl 1 rfl) ?_
  refine lv_aload_n hx hb dX5_readItem_6 rfl (lv_at hl 1 rfl) ?_
  refine lv_iload_n hx hb dX5_readItem_7 rfl (lv_at hl 0 rfl) ?_
  refine pc_V (As := [.int (zI g3)]) (rest := [.ref o0]) M (c_X5_mayItem l D cB cI cZ cM _ o0 o1 o2 o3 o4 o5 o6 o7 o8 o9 oz tr td g1 g2 g3 g4 g5 g6 g7 f2 g3 (by first | assumption | omega) (by first | assumption | omega) (ht6) (hu3)) gX5_readItem_X5_mayItem rfl ⟨rfl, hd_X5_mayItem⟩ ⟨Nat.le_of_ble_eq_true rfl, Nat.le_of_ble_eq_true rfl⟩ hK hP [0, 2] rfl 0 5 rfl rfl rfl hl.1 rfl rfl (Nat.le_of_ble_eq_true rfl) dX5_readItem_8 ⟨Nat.le_of_ble_eq_true rfl, Nat.le_of_ble_eq_true rfl⟩ (fun r_8 h_8 => ?_)
  subst h_8
  refine wc_Vi (As := [.int (zI (zb (myP f2 g6 g3)))]) (rest := []) (wr := [(o2, .inl (cI, 16, .inl (zia f2))), (o3, .inl (cI, 8, .inl (zia f3))), (o4, .inl (cI, 8, .inl (zia f4))), (o5, .inl (cI, 4, .inl (zia f5)))]) (ws' := (fun u_11 : DUS => [(o0, .inr (5, [.long tr, .ref o1, .int (zI td), .ref o2, .ref o3, .ref o4, .ref o5, .int (zI u_11.1), .int (zI u_11.2.1), .int (zI u_11.2.2.1), .int (zI u_11.2.2.2.1), .int (zI u_11.2.2.2.2), .int (zI g6), .ref o6, .ref o7, .ref o8, .ref o9, .int (zI g7), .ref oz])), (o1, .inl (cB, 200, .inl (zia (sgF f1)))), (o2, .inl (cI, 16, .inl (zia f2))), (o3, .inl (cI, 8, .inl (zia f3))), (o4, .inl (cI, 8, .inl (zia f4))), (o5, .inl (cI, 4, .inl (zia f5)))])) M (c_X5_due l D cB cI cZ cM _ o0 o1 o2 o3 o4 o5 o6 o7 o8 o9 oz tr td g1 g2 g3 g4 g5 g6 g7 f1 (zb (myP f2 g6 g3)) (by first | assumption | omega) (by first | assumption | omega) (hU) (zb_01 _)) gX5_readItem_X5_due rfl ⟨rfl, hd_X5_due⟩ ⟨Nat.le_of_ble_eq_true rfl, Nat.le_of_ble_eq_true rfl⟩ hK hP hD hS hA [0, 1] [2, 3, 4, 5] [4, 5, 0, 1, 2, 3] rfl rfl (by decide) (by decide) (by decide) (fun _ => rfl) 0 5 rfl rfl rfl hl.1 rfl rfl (Nat.le_of_ble_eq_true rfl) dX5_readItem_11 ⟨Nat.le_of_ble_eq_true rfl, Nat.le_of_ble_eq_true rfl⟩ (by decide) (fun r_11 u_11 H locs h_11 hP hD hS => ?_)
  obtain ⟨hz_11, h_11⟩ := h_11
  subst hz_11
  have h_11 : u_11 = duM (btA f1 td) (myP f2 g6 g3) (g1, g2, g3, g4, g5) := h_11.trans (duM_c (zb_e1 _))
  have hk11 : okU td u_11 := by rw [h_11]; exact duM_ok hU
  refine lv_pop hx hb dX5_readItem_14 rfl ?_
  refine lv_aload_n hx hb dX5_readItem_15 rfl (lv_at hl 1 rfl) ?_
  refine va_get (D := D) (ci := 5) (C := RX5) (T := TX5) (N := 19) hx hb hts inc_X5_readItem_5 hown hK hP 0 rfl rfl 11 (by decide) (hts (.fieldLink RX5 77 "BedHouseModel" "fault" "I") (by decide +kernel)) (fun _ h9 => h9) rfl dX5_readItem_16 ?_
  refine lv_bipush (v := zI (-9)) hx hb dX5_readItem_19 (by decide) ?_
  refine z_icmp_eq (tgt := 25) hx hb dX5_readItem_21 (by decide) (by have := hk11.2.2.2.2; omega) (fun c_21 => ?_) (fun c_21 => ?_)
  · skip
    obtain ⟨-, hmy⟩ := duM_9 (show (0 : Int) ≤ ((g1, g2, g3, g4, g5) : DUS).2.1 from hu2.1) (show (duM (btA f1 td) (myP f2 g6 g3) (g1, g2, g3, g4, g5)).2.2.2.2 = -9 from h_11 ▸ c_21)
    have hmy : myP f2 g6 g3 := hmy
    have hw10 := my_w hmy
    refine lv_aload_n hx hb dX5_readItem_25 rfl (lv_at hl 1 rfl) ?_
    refine lv_dup hx hb dX5_readItem_26 rfl ?_
    refine va_get (D := D) (ci := 5) (C := RX5) (T := TX5) (N := 19) hx hb hts inc_X5_readItem_5 hown hK hP 0 rfl rfl 12 (by decide) (hts (.fieldLink RX5 91 "BedHouseModel" "told" "I") (by decide +kernel)) (fun _ h9 => h9) rfl dX5_readItem_27 ?_
    refine lv_iconst (v := zI 1) hx hb dX5_readItem_30 rfl ?_
    refine lv_iload_n hx hb dX5_readItem_31 rfl (lv_at hl 0 rfl) ?_
    refine z_ishl1 hx hb dX5_readItem_32 (by omega) ?_
    refine z_ior hx hb dX5_readItem_33 (⟨ht6.1, zpw_nn _⟩) ?_
    refine va_put (D := D) (ci := 5) (v := .int (zI (zbor g6 (zpw g3)))) (ty := .int) (C := RX5) (T := TX5) (N := 19) hx hb hts inc_X5_readItem_5 tyX5 tyX5_ok nmX5 hown hK hP hD hS 0 rfl rfl 12 (by decide) (hts (.fieldLink RX5 91 "BedHouseModel" "told" "I") (by decide +kernel)) (fun _ h9 => h9) rfl (by decide +kernel) rfl rfl (Nat.le_of_ble_eq_true rfl) dX5_readItem_34 (fun H locs hP hD hS => ?_)
    have hP : va_P D vwCl [(o0, .inr (5, [.long tr, .ref o1, .int (zI td), .ref o2, .ref o3, .ref o4, .ref o5, .int (zI u_11.1), .int (zI u_11.2.1), .int (zI u_11.2.2.1), .int (zI u_11.2.2.2.1), .int (zI u_11.2.2.2.2), .int (zI (zbor g6 (zpw g3))), .ref o6, .ref o7, .ref o8, .ref o9, .int (zI g7), .ref oz])), (o1, .inl (cB, 200, .inl (zia (sgF f1)))), (o2, .inl (cI, 16, .inl (zia f2))), (o3, .inl (cI, 8, .inl (zia f3))), (o4, .inl (cI, 8, .inl (zia f4))), (o5, .inl (cI, 4, .inl (zia f5)))] H := hP
    have hD : va_D A [(o0, .inr (5, [.long tr, .ref o1, .int (zI td), .ref o2, .ref o3, .ref o4, .ref o5, .int (zI u_11.1), .int (zI u_11.2.1), .int (zI u_11.2.2.1), .int (zI u_11.2.2.2.1), .int (zI u_11.2.2.2.2), .int (zI (zbor g6 (zpw g3))), .ref o6, .ref o7, .ref o8, .ref o9, .int (zI g7), .ref oz])), (o1, .inl (cB, 200, .inl (zia (sgF f1)))), (o2, .inl (cI, 16, .inl (zia f2))), (o3, .inl (cI, 8, .inl (zia f3))), (o4, .inl (cI, 8, .inl (zia f4))), (o5, .inl (cI, 4, .inl (zia f5)))] := hD
    refine lv_iload_n hx hb dX5_readItem_37 rfl (lv_at hl 0 rfl) ?_
    refine lv_iconst (v := zI 4) hx hb dX5_readItem_38 rfl ?_
    refine z_icmp_ge (tgt := 123) hx hb dX5_readItem_39 (by decide) (by omega) (fun c_39 => ?_) (fun c_39 => ?_)
    · skip
      refine lv_iload_n hx hb dX5_readItem_123 rfl (lv_at hl 0 rfl) ?_
      refine lv_iconst (v := zI 4) hx hb dX5_readItem_124 rfl ?_
      refine z_icmp_ne (tgt := 160) hx hb dX5_readItem_125 (by decide) (by omega) (fun c_125 => ?_) (fun c_125 => ?_)
      · skip
        refine lv_iload_n hx hb dX5_readItem_160 rfl (lv_at hl 0 rfl) ?_
        refine lv_bipush (v := zI 7) hx hb dX5_readItem_161 (by decide) ?_
        refine z_icmp_ge (tgt := 187) hx hb dX5_readItem_163 (by decide) (by omega) (fun c_163 => ?_) (fun c_163 => ?_)
        · skip
          refine lv_iload_n hx hb dX5_readItem_187 rfl (lv_at hl 0 rfl) ?_
          refine lv_bipush (v := zI 10) hx hb dX5_readItem_188 (by decide) ?_
          refine z_icmp_ne (tgt := 197) hx hb dX5_readItem_190 (by decide) (by omega) (fun c_190 => ?_) (fun c_190 => ?_)
          · skip
            refine lv_iconst (v := zI 0) hx hb dX5_readItem_197 rfl ?_
            refine lv_istore_n (lv' := [(2, .int (zI 0)), (1, .int (zI g3)), (0, .ref o0)]) hx hb dX5_readItem_198 rfl hl (by decide) rfl (fun ls hl => ?_)
            refine lv_aload_n hx hb dX5_readItem_199 rfl (lv_at hl 2 rfl) ?_
            refine va_get (D := D) (ci := 5) (C := RX5) (T := TX5) (N := 19) hx hb hts inc_X5_readItem_5 hown hK hP 0 rfl rfl 3 (by decide) (hts (.fieldLink RX5 13 "BedHouseModel" "plan" "[I") (by decide +kernel)) (fun _ h9 => h9) rfl dX5_readItem_200 ?_
            refine lv_bipush (v := zI 12) hx hb dX5_readItem_203 (by decide) ?_
            refine lv_iload_n hx hb dX5_readItem_205 rfl (lv_at hl 1 rfl) ?_
            refine z_iadd hx hb dX5_readItem_206 ?_
            refine lv_bipush (v := zI 7) hx hb dX5_readItem_207 (by decide) ?_
            refine z_isub hx hb dX5_readItem_209 ?_
            refine lv_aload_n hx hb dX5_readItem_210 rfl (lv_at hl 2 rfl) ?_
            refine lv_iload_n hx hb dX5_readItem_211 rfl (lv_at hl 0 rfl) ?_
            refine lv_iload_n hx hb dX5_readItem_212 rfl (lv_at hl 1 rfl) ?_
            refine lv_bipush (v := zI 9) hx hb dX5_readItem_213 (by decide) ?_
            refine z_icmp_ge (tgt := 223) hx hb dX5_readItem_215 (by decide) (by omega) (fun c_215 => ?_) (fun c_215 => ?_)
            · skip
              refine lv_iload_n hx hb dX5_readItem_223 rfl (lv_at hl 1 rfl) ?_
              refine lv_bipush (v := zI 9) hx hb dX5_readItem_224 (by decide) ?_
              refine z_icmp_ne (tgt := 233) hx hb dX5_readItem_226 (by decide) (by omega) (fun c_226 => ?_) (fun c_226 => ?_)
              · skip
                exfalso; omega
              refine lv_iconst (v := zI 4) hx hb dX5_readItem_229 rfl ?_
              refine lv_goto (tgt := 235) hx hb dX5_readItem_230 (by decide) ?_
              refine wc_Vi (As := [.int (zI 0), .int (zI 4)]) (rest := [.int (zI ((12 + g3) - 7)), .ref o2]) (wr := [(o2, .inl (cI, 16, .inl (zia f2))), (o3, .inl (cI, 8, .inl (zia f3))), (o4, .inl (cI, 8, .inl (zia f4))), (o5, .inl (cI, 4, .inl (zia f5)))]) (ws' := (fun u_235 : DUS => [(o0, .inr (5, [.long tr, .ref o1, .int (zI td), .ref o2, .ref o3, .ref o4, .ref o5, .int (zI u_235.1), .int (zI u_235.2.1), .int (zI u_235.2.2.1), .int (zI u_235.2.2.2.1), .int (zI u_235.2.2.2.2), .int (zI (zbor g6 (zpw g3))), .ref o6, .ref o7, .ref o8, .ref o9, .int (zI g7), .ref oz])), (o1, .inl (cB, 200, .inl (zia (sgF f1)))), (o2, .inl (cI, 16, .inl (zia f2))), (o3, .inl (cI, 8, .inl (zia f3))), (o4, .inl (cI, 8, .inl (zia f4))), (o5, .inl (cI, 4, .inl (zia f5)))])) M (c_X5_number l D cB cI cZ cM _ o0 o1 o2 o3 o4 o5 o6 o7 o8 o9 oz tr td u_11.1 u_11.2.1 u_11.2.2.1 u_11.2.2.2.1 u_11.2.2.2.2 (zbor g6 (zpw g3)) g7 f1 0 4 (by first | assumption | omega) (by first | assumption | omega) (hk11) (by first | assumption | omega) (by first | assumption | omega)) gX5_readItem_X5_number rfl ⟨rfl, hd_X5_number⟩ ⟨Nat.le_of_ble_eq_true rfl, Nat.le_of_ble_eq_true rfl⟩ hK hP hD hS hA [0, 1] [2, 3, 4, 5] [4, 5, 0, 1, 2, 3] rfl rfl (by decide) (by decide) (by decide) (fun _ => rfl) 0 5 rfl rfl rfl hl.1 rfl rfl (Nat.le_of_ble_eq_true rfl) dX5_readItem_235 ⟨Nat.le_of_ble_eq_true rfl, Nat.le_of_ble_eq_true rfl⟩ (by decide) (fun r_235 u_235 H locs h_235 hP hD hS => ?_)
              obtain ⟨hz_235, h_235⟩ := h_235
              subst hz_235
              refine z_iast (ws' := [(o0, .inr (5, [.long tr, .ref o1, .int (zI td), .ref o2, .ref o3, .ref o4, .ref o5, .int (zI u_235.1), .int (zI u_235.2.1), .int (zI u_235.2.2.1), .int (zI u_235.2.2.2.1), .int (zI u_235.2.2.2.2), .int (zI (zbor g6 (zpw g3))), .ref o6, .ref o7, .ref o8, .ref o9, .int (zI g7), .ref oz])), (o1, .inl (cB, 200, .inl (zia (sgF f1)))), (o2, .inl (cI, 16, .inl (zia (zup f2 ((12 + g3) - 7) u_11.2.2.2.1)))), (o3, .inl (cI, 8, .inl (zia f3))), (o4, .inl (cI, 8, .inl (zia f4))), (o5, .inl (cI, 4, .inl (zia f5)))]) hx hb hK hP hD hS 2 1 rfl rfl (Nat.le_of_ble_eq_true rfl) dX5_readItem_238 rfl (by omega) (fun H locs hP hD hS => ?_)
              exact lp_X5_readItem_239 l D cB cI cZ cM o0 o1 o2 o3 o4 o5 o6 o7 o8 o9 oz tr td g1 g2 g3 g4 g5 g6 g7 f1 f2 f3 f4 f5 htd hf1 hok h59 M hK hA (u_235, zbor g6 (zpw g3), zup f2 (12 + g3 - 7) u_11.2.2.2.1, f3, f4, f5) (by show okU td u_235; rw [h_235]; exact duM_ok hk11) (by rw [riM_y (h_11 ▸ c_21), riN_n (lo := 0) (hi := 4) (by show 7 ≤ g3; omega) (if_neg c_190).symm (by rw [if_neg (by show ¬ g3 < 9; omega), if_pos (by show g3 = 9; omega)]), show duM (btA f1 td) (myP f2 g6 ((g1, g2, g3, g4, g5) : DUS).2.2.1) (g1, g2, g3, g4, g5) = u_11 from h_11.symm, show u_235 = nbM (btA f1 td) 0 4 u_11 from h_235]) _ _ hP hD hS _ (lv_sub hl [2] rfl)
            refine lv_bipush (v := zI 7) hx hb dX5_readItem_218 (by decide) ?_
            refine lv_goto (tgt := 235) hx hb dX5_readItem_220 (by decide) ?_
            refine wc_Vi (As := [.int (zI 0), .int (zI 7)]) (rest := [.int (zI ((12 + g3) - 7)), .ref o2]) (wr := [(o2, .inl (cI, 16, .inl (zia f2))), (o3, .inl (cI, 8, .inl (zia f3))), (o4, .inl (cI, 8, .inl (zia f4))), (o5, .inl (cI, 4, .inl (zia f5)))]) (ws' := (fun u_235 : DUS => [(o0, .inr (5, [.long tr, .ref o1, .int (zI td), .ref o2, .ref o3, .ref o4, .ref o5, .int (zI u_235.1), .int (zI u_235.2.1), .int (zI u_235.2.2.1), .int (zI u_235.2.2.2.1), .int (zI u_235.2.2.2.2), .int (zI (zbor g6 (zpw g3))), .ref o6, .ref o7, .ref o8, .ref o9, .int (zI g7), .ref oz])), (o1, .inl (cB, 200, .inl (zia (sgF f1)))), (o2, .inl (cI, 16, .inl (zia f2))), (o3, .inl (cI, 8, .inl (zia f3))), (o4, .inl (cI, 8, .inl (zia f4))), (o5, .inl (cI, 4, .inl (zia f5)))])) M (c_X5_number l D cB cI cZ cM _ o0 o1 o2 o3 o4 o5 o6 o7 o8 o9 oz tr td u_11.1 u_11.2.1 u_11.2.2.1 u_11.2.2.2.1 u_11.2.2.2.2 (zbor g6 (zpw g3)) g7 f1 0 7 (by first | assumption | omega) (by first | assumption | omega) (hk11) (by first | assumption | omega) (by first | assumption | omega)) gX5_readItem_X5_number rfl ⟨rfl, hd_X5_number⟩ ⟨Nat.le_of_ble_eq_true rfl, Nat.le_of_ble_eq_true rfl⟩ hK hP hD hS hA [0, 1] [2, 3, 4, 5] [4, 5, 0, 1, 2, 3] rfl rfl (by decide) (by decide) (by decide) (fun _ => rfl) 0 5 rfl rfl rfl hl.1 rfl rfl (Nat.le_of_ble_eq_true rfl) dX5_readItem_235 ⟨Nat.le_of_ble_eq_true rfl, Nat.le_of_ble_eq_true rfl⟩ (by decide) (fun r_235 u_235 H locs h_235 hP hD hS => ?_)
            obtain ⟨hz_235, h_235⟩ := h_235
            subst hz_235
            refine z_iast (ws' := [(o0, .inr (5, [.long tr, .ref o1, .int (zI td), .ref o2, .ref o3, .ref o4, .ref o5, .int (zI u_235.1), .int (zI u_235.2.1), .int (zI u_235.2.2.1), .int (zI u_235.2.2.2.1), .int (zI u_235.2.2.2.2), .int (zI (zbor g6 (zpw g3))), .ref o6, .ref o7, .ref o8, .ref o9, .int (zI g7), .ref oz])), (o1, .inl (cB, 200, .inl (zia (sgF f1)))), (o2, .inl (cI, 16, .inl (zia (zup f2 ((12 + g3) - 7) u_11.2.2.2.1)))), (o3, .inl (cI, 8, .inl (zia f3))), (o4, .inl (cI, 8, .inl (zia f4))), (o5, .inl (cI, 4, .inl (zia f5)))]) hx hb hK hP hD hS 2 1 rfl rfl (Nat.le_of_ble_eq_true rfl) dX5_readItem_238 rfl (by omega) (fun H locs hP hD hS => ?_)
            exact lp_X5_readItem_239 l D cB cI cZ cM o0 o1 o2 o3 o4 o5 o6 o7 o8 o9 oz tr td g1 g2 g3 g4 g5 g6 g7 f1 f2 f3 f4 f5 htd hf1 hok h59 M hK hA (u_235, zbor g6 (zpw g3), zup f2 (12 + g3 - 7) u_11.2.2.2.1, f3, f4, f5) (by show okU td u_235; rw [h_235]; exact duM_ok hk11) (by rw [riM_y (h_11 ▸ c_21), riN_n (lo := 0) (hi := 7) (by show 7 ≤ g3; omega) (if_neg c_190).symm (by rw [if_pos (by show g3 < 9; omega)]), show duM (btA f1 td) (myP f2 g6 ((g1, g2, g3, g4, g5) : DUS).2.2.1) (g1, g2, g3, g4, g5) = u_11 from h_11.symm, show u_235 = nbM (btA f1 td) 0 7 u_11 from h_235]) _ _ hP hD hS _ (lv_sub hl [2] rfl)
          refine lv_iconst (v := zI 1) hx hb dX5_readItem_193 rfl ?_
          refine lv_goto (tgt := 198) hx hb dX5_readItem_194 (by decide) ?_
          refine lv_istore_n (lv' := [(2, .int (zI 1)), (1, .int (zI g3)), (0, .ref o0)]) hx hb dX5_readItem_198 rfl hl (by decide) rfl (fun ls hl => ?_)
          refine lv_aload_n hx hb dX5_readItem_199 rfl (lv_at hl 2 rfl) ?_
          refine va_get (D := D) (ci := 5) (C := RX5) (T := TX5) (N := 19) hx hb hts inc_X5_readItem_5 hown hK hP 0 rfl rfl 3 (by decide) (hts (.fieldLink RX5 13 "BedHouseModel" "plan" "[I") (by decide +kernel)) (fun _ h9 => h9) rfl dX5_readItem_200 ?_
          refine lv_bipush (v := zI 12) hx hb dX5_readItem_203 (by decide) ?_
          refine lv_iload_n hx hb dX5_readItem_205 rfl (lv_at hl 1 rfl) ?_
          refine z_iadd hx hb dX5_readItem_206 ?_
          refine lv_bipush (v := zI 7) hx hb dX5_readItem_207 (by decide) ?_
          refine z_isub hx hb dX5_readItem_209 ?_
          refine lv_aload_n hx hb dX5_readItem_210 rfl (lv_at hl 2 rfl) ?_
          refine lv_iload_n hx hb dX5_readItem_211 rfl (lv_at hl 0 rfl) ?_
          refine lv_iload_n hx hb dX5_readItem_212 rfl (lv_at hl 1 rfl) ?_
          refine lv_bipush (v := zI 9) hx hb dX5_readItem_213 (by decide) ?_
          refine z_icmp_ge (tgt := 223) hx hb dX5_readItem_215 (by decide) (by omega) (fun c_215 => ?_) (fun c_215 => ?_)
          · skip
            refine lv_iload_n hx hb dX5_readItem_223 rfl (lv_at hl 1 rfl) ?_
            refine lv_bipush (v := zI 9) hx hb dX5_readItem_224 (by decide) ?_
            refine z_icmp_ne (tgt := 233) hx hb dX5_readItem_226 (by decide) (by omega) (fun c_226 => ?_) (fun c_226 => ?_)
            · skip
              refine lv_bipush (v := zI 9) hx hb dX5_readItem_233 (by decide) ?_
              refine wc_Vi (As := [.int (zI 1), .int (zI 9)]) (rest := [.int (zI ((12 + g3) - 7)), .ref o2]) (wr := [(o2, .inl (cI, 16, .inl (zia f2))), (o3, .inl (cI, 8, .inl (zia f3))), (o4, .inl (cI, 8, .inl (zia f4))), (o5, .inl (cI, 4, .inl (zia f5)))]) (ws' := (fun u_235 : DUS => [(o0, .inr (5, [.long tr, .ref o1, .int (zI td), .ref o2, .ref o3, .ref o4, .ref o5, .int (zI u_235.1), .int (zI u_235.2.1), .int (zI u_235.2.2.1), .int (zI u_235.2.2.2.1), .int (zI u_235.2.2.2.2), .int (zI (zbor g6 (zpw g3))), .ref o6, .ref o7, .ref o8, .ref o9, .int (zI g7), .ref oz])), (o1, .inl (cB, 200, .inl (zia (sgF f1)))), (o2, .inl (cI, 16, .inl (zia f2))), (o3, .inl (cI, 8, .inl (zia f3))), (o4, .inl (cI, 8, .inl (zia f4))), (o5, .inl (cI, 4, .inl (zia f5)))])) M (c_X5_number l D cB cI cZ cM _ o0 o1 o2 o3 o4 o5 o6 o7 o8 o9 oz tr td u_11.1 u_11.2.1 u_11.2.2.1 u_11.2.2.2.1 u_11.2.2.2.2 (zbor g6 (zpw g3)) g7 f1 1 9 (by first | assumption | omega) (by first | assumption | omega) (hk11) (by first | assumption | omega) (by first | assumption | omega)) gX5_readItem_X5_number rfl ⟨rfl, hd_X5_number⟩ ⟨Nat.le_of_ble_eq_true rfl, Nat.le_of_ble_eq_true rfl⟩ hK hP hD hS hA [0, 1] [2, 3, 4, 5] [4, 5, 0, 1, 2, 3] rfl rfl (by decide) (by decide) (by decide) (fun _ => rfl) 0 5 rfl rfl rfl hl.1 rfl rfl (Nat.le_of_ble_eq_true rfl) dX5_readItem_235 ⟨Nat.le_of_ble_eq_true rfl, Nat.le_of_ble_eq_true rfl⟩ (by decide) (fun r_235 u_235 H locs h_235 hP hD hS => ?_)
              obtain ⟨hz_235, h_235⟩ := h_235
              subst hz_235
              refine z_iast (ws' := [(o0, .inr (5, [.long tr, .ref o1, .int (zI td), .ref o2, .ref o3, .ref o4, .ref o5, .int (zI u_235.1), .int (zI u_235.2.1), .int (zI u_235.2.2.1), .int (zI u_235.2.2.2.1), .int (zI u_235.2.2.2.2), .int (zI (zbor g6 (zpw g3))), .ref o6, .ref o7, .ref o8, .ref o9, .int (zI g7), .ref oz])), (o1, .inl (cB, 200, .inl (zia (sgF f1)))), (o2, .inl (cI, 16, .inl (zia (zup f2 ((12 + g3) - 7) u_11.2.2.2.1)))), (o3, .inl (cI, 8, .inl (zia f3))), (o4, .inl (cI, 8, .inl (zia f4))), (o5, .inl (cI, 4, .inl (zia f5)))]) hx hb hK hP hD hS 2 1 rfl rfl (Nat.le_of_ble_eq_true rfl) dX5_readItem_238 rfl (by omega) (fun H locs hP hD hS => ?_)
              exact lp_X5_readItem_239 l D cB cI cZ cM o0 o1 o2 o3 o4 o5 o6 o7 o8 o9 oz tr td g1 g2 g3 g4 g5 g6 g7 f1 f2 f3 f4 f5 htd hf1 hok h59 M hK hA (u_235, zbor g6 (zpw g3), zup f2 (12 + g3 - 7) u_11.2.2.2.1, f3, f4, f5) (by show okU td u_235; rw [h_235]; exact duM_ok hk11) (by rw [riM_y (h_11 ▸ c_21), riN_n (lo := 1) (hi := 9) (by show 7 ≤ g3; omega) (if_pos c_190).symm (by rw [if_neg (by show ¬ g3 < 9; omega), if_neg (by show ¬ g3 = 9; omega)]), show duM (btA f1 td) (myP f2 g6 ((g1, g2, g3, g4, g5) : DUS).2.2.1) (g1, g2, g3, g4, g5) = u_11 from h_11.symm, show u_235 = nbM (btA f1 td) 1 9 u_11 from h_235]) _ _ hP hD hS _ (lv_sub hl [2] rfl)
            exfalso; omega
          exfalso; omega
        have hb7 : 0 ≤ f2 (10 + g3 - 5) ∧ f2 (10 + g3 - 5) < 256 := by rcases (show g3 = 5 ∨ g3 = 6 by omega) with e9 | e9 <;> rw [e9]; exact hb10; exact hb11
        have hro7 := roM_rng (btA f1 td) u_11
        refine lv_aload_n hx hb dX5_readItem_166 rfl (lv_at hl 1 rfl) ?_
        refine va_get (D := D) (ci := 5) (C := RX5) (T := TX5) (N := 19) hx hb hts inc_X5_readItem_5 hown hK hP 0 rfl rfl 3 (by decide) (hts (.fieldLink RX5 13 "BedHouseModel" "plan" "[I") (by decide +kernel)) (fun _ h9 => h9) rfl dX5_readItem_167 ?_
        refine lv_bipush (v := zI 10) hx hb dX5_readItem_170 (by decide) ?_
        refine lv_iload_n hx hb dX5_readItem_172 rfl (lv_at hl 0 rfl) ?_
        refine z_iadd hx hb dX5_readItem_173 ?_
        refine lv_iconst (v := zI 5) hx hb dX5_readItem_174 rfl ?_
        refine z_isub hx hb dX5_readItem_175 ?_
        refine lv_dup2_11 hx hb dX5_readItem_176 rfl rfl ?_
        refine z_iald hx hb hK hP 2 1 rfl rfl (Nat.le_of_ble_eq_true rfl) dX5_readItem_177 (by omega) ?_
        refine lv_aload_n hx hb dX5_readItem_178 rfl (lv_at hl 1 rfl) ?_
        refine wc_Vi (As := []) (rest := [.int (zI (f2 ((10 + g3) - 5))), .int (zI ((10 + g3) - 5)), .ref o2]) (wr := [(o2, .inl (cI, 16, .inl (zia f2))), (o3, .inl (cI, 8, .inl (zia f3))), (o4, .inl (cI, 8, .inl (zia f4))), (o5, .inl (cI, 4, .inl (zia f5)))]) (ws' := (fun u_179 : DUS => [(o0, .inr (5, [.long tr, .ref o1, .int (zI td), .ref o2, .ref o3, .ref o4, .ref o5, .int (zI u_179.1), .int (zI u_179.2.1), .int (zI u_179.2.2.1), .int (zI u_179.2.2.2.1), .int (zI u_179.2.2.2.2), .int (zI (zbor g6 (zpw g3))), .ref o6, .ref o7, .ref o8, .ref o9, .int (zI g7), .ref oz])), (o1, .inl (cB, 200, .inl (zia (sgF f1)))), (o2, .inl (cI, 16, .inl (zia f2))), (o3, .inl (cI, 8, .inl (zia f3))), (o4, .inl (cI, 8, .inl (zia f4))), (o5, .inl (cI, 4, .inl (zia f5)))])) M (c_X5_round l D cB cI cZ cM _ o0 o1 o2 o3 o4 o5 o6 o7 o8 o9 oz tr td u_11.1 u_11.2.1 u_11.2.2.1 u_11.2.2.2.1 u_11.2.2.2.2 (zbor g6 (zpw g3)) g7 f1 (by first | assumption | omega) (by first | assumption | omega) (hk11)) gX5_readItem_X5_round rfl ⟨rfl, hd_X5_round⟩ ⟨Nat.le_of_ble_eq_true rfl, Nat.le_of_ble_eq_true rfl⟩ hK hP hD hS hA [0, 1] [2, 3, 4, 5] [4, 5, 0, 1, 2, 3] rfl rfl (by decide) (by decide) (by decide) (fun _ => rfl) 0 5 rfl rfl rfl hl.1 rfl rfl (Nat.le_of_ble_eq_true rfl) dX5_readItem_179 ⟨Nat.le_of_ble_eq_true rfl, Nat.le_of_ble_eq_true rfl⟩ (by decide) (fun r_179 u_179 H locs h_179 hP hD hS => ?_)
        obtain ⟨hz_179, h_179⟩ := h_179
        subst hz_179
        refine z_ior hx hb dX5_readItem_182 (⟨hb7.1, hro7.1⟩) ?_
        refine z_iast (ws' := [(o0, .inr (5, [.long tr, .ref o1, .int (zI td), .ref o2, .ref o3, .ref o4, .ref o5, .int (zI u_179.1), .int (zI u_179.2.1), .int (zI u_179.2.2.1), .int (zI u_179.2.2.2.1), .int (zI u_179.2.2.2.2), .int (zI (zbor g6 (zpw g3))), .ref o6, .ref o7, .ref o8, .ref o9, .int (zI g7), .ref oz])), (o1, .inl (cB, 200, .inl (zia (sgF f1)))), (o2, .inl (cI, 16, .inl (zia (zup f2 ((10 + g3) - 5) (zbor (f2 ((10 + g3) - 5)) ((roM (btA f1 td) (u_11.1, u_11.2.1, u_11.2.2.1, u_11.2.2.2.1, u_11.2.2.2.2)).1)))))), (o3, .inl (cI, 8, .inl (zia f3))), (o4, .inl (cI, 8, .inl (zia f4))), (o5, .inl (cI, 4, .inl (zia f5)))]) hx hb hK hP hD hS 2 1 rfl rfl (Nat.le_of_ble_eq_true rfl) dX5_readItem_183 rfl (by omega) (fun H locs hP hD hS => ?_)
        refine lv_goto (tgt := 239) hx hb dX5_readItem_184 (by decide) ?_
        exact lp_X5_readItem_239 l D cB cI cZ cM o0 o1 o2 o3 o4 o5 o6 o7 o8 o9 oz tr td g1 g2 g3 g4 g5 g6 g7 f1 f2 f3 f4 f5 htd hf1 hok h59 M hK hA (u_179, zbor g6 (zpw g3), zup f2 (10 + g3 - 5) (zbor (f2 (10 + g3 - 5)) (roM (btA f1 td) u_11).1), f3, f4, f5) (by show okU td u_179; rw [h_179]; exact roM_ok hk11) (by rw [riM_y (h_11 ▸ c_21), riN_r (And.intro (by show 4 < g3; omega) (by show g3 < 7; omega)), show duM (btA f1 td) (myP f2 g6 ((g1, g2, g3, g4, g5) : DUS).2.2.1) (g1, g2, g3, g4, g5) = u_11 from h_11.symm, show u_179 = (roM (btA f1 td) u_11).2 from h_179]) _ _ hP hD hS _ (lv_sub hl [1] rfl)
      have h29b := my_b hmy c_125
      refine lv_aload_n hx hb dX5_readItem_128 rfl (lv_at hl 1 rfl) ?_
      refine va_get (D := D) (ci := 5) (C := RX5) (T := TX5) (N := 19) hx hb hts inc_X5_readItem_5 hown hK hP 0 rfl rfl 6 (by decide) (hts (.fieldLink RX5 23 "BedHouseModel" "beams" "[I") (by decide +kernel)) (fun _ h9 => h9) rfl dX5_readItem_129 ?_
      refine lv_iconst (v := zI 2) hx hb dX5_readItem_132 rfl ?_
      refine lv_aload_n hx hb dX5_readItem_133 rfl (lv_at hl 1 rfl) ?_
      refine va_get (D := D) (ci := 5) (C := RX5) (T := TX5) (N := 19) hx hb hts inc_X5_readItem_5 hown hK hP 0 rfl rfl 3 (by decide) (hts (.fieldLink RX5 13 "BedHouseModel" "plan" "[I") (by decide +kernel)) (fun _ h9 => h9) rfl dX5_readItem_134 ?_
      refine lv_bipush (v := zI 9) hx hb dX5_readItem_137 (by decide) ?_
      refine z_iald hx hb hK hP 2 1 rfl rfl (Nat.le_of_ble_eq_true rfl) dX5_readItem_139 (by omega) ?_
      refine z_iadd hx hb dX5_readItem_140 ?_
      refine lv_aload_n hx hb dX5_readItem_141 rfl (lv_at hl 1 rfl) ?_
      refine wc_Vi (As := []) (rest := [.int (zI (2 + (f2 9))), .ref o5]) (wr := [(o2, .inl (cI, 16, .inl (zia f2))), (o3, .inl (cI, 8, .inl (zia f3))), (o4, .inl (cI, 8, .inl (zia f4))), (o5, .inl (cI, 4, .inl (zia f5)))]) (ws' := (fun u_142 : DUS => [(o0, .inr (5, [.long tr, .ref o1, .int (zI td), .ref o2, .ref o3, .ref o4, .ref o5, .int (zI u_142.1), .int (zI u_142.2.1), .int (zI u_142.2.2.1), .int (zI u_142.2.2.2.1), .int (zI u_142.2.2.2.2), .int (zI (zbor g6 (zpw g3))), .ref o6, .ref o7, .ref o8, .ref o9, .int (zI g7), .ref oz])), (o1, .inl (cB, 200, .inl (zia (sgF f1)))), (o2, .inl (cI, 16, .inl (zia f2))), (o3, .inl (cI, 8, .inl (zia f3))), (o4, .inl (cI, 8, .inl (zia f4))), (o5, .inl (cI, 4, .inl (zia f5)))])) M (c_X5_round l D cB cI cZ cM _ o0 o1 o2 o3 o4 o5 o6 o7 o8 o9 oz tr td u_11.1 u_11.2.1 u_11.2.2.1 u_11.2.2.2.1 u_11.2.2.2.2 (zbor g6 (zpw g3)) g7 f1 (by first | assumption | omega) (by first | assumption | omega) (hk11)) gX5_readItem_X5_round rfl ⟨rfl, hd_X5_round⟩ ⟨Nat.le_of_ble_eq_true rfl, Nat.le_of_ble_eq_true rfl⟩ hK hP hD hS hA [0, 1] [2, 3, 4, 5] [4, 5, 0, 1, 2, 3] rfl rfl (by decide) (by decide) (by decide) (fun _ => rfl) 0 5 rfl rfl rfl hl.1 rfl rfl (Nat.le_of_ble_eq_true rfl) dX5_readItem_142 ⟨Nat.le_of_ble_eq_true rfl, Nat.le_of_ble_eq_true rfl⟩ (by decide) (fun r_142 u_142 H locs h_142 hP hD hS => ?_)
      obtain ⟨hz_142, h_142⟩ := h_142
      subst hz_142
      refine z_iast (ws' := [(o0, .inr (5, [.long tr, .ref o1, .int (zI td), .ref o2, .ref o3, .ref o4, .ref o5, .int (zI u_142.1), .int (zI u_142.2.1), .int (zI u_142.2.2.1), .int (zI u_142.2.2.2.1), .int (zI u_142.2.2.2.2), .int (zI (zbor g6 (zpw g3))), .ref o6, .ref o7, .ref o8, .ref o9, .int (zI g7), .ref oz])), (o1, .inl (cB, 200, .inl (zia (sgF f1)))), (o2, .inl (cI, 16, .inl (zia f2))), (o3, .inl (cI, 8, .inl (zia f3))), (o4, .inl (cI, 8, .inl (zia f4))), (o5, .inl (cI, 4, .inl (zia (zup f5 (2 + (f2 9)) ((roM (btA f1 td) (u_11.1, u_11.2.1, u_11.2.2.1, u_11.2.2.2.1, u_11.2.2.2.2)).1)))))]) hx hb hK hP hD hS 5 1 rfl rfl (Nat.le_of_ble_eq_true rfl) dX5_readItem_145 rfl (by omega) (fun H locs hP hD hS => ?_)
      refine lv_aload_n hx hb dX5_readItem_146 rfl (lv_at hl 1 rfl) ?_
      refine va_get (D := D) (ci := 5) (C := RX5) (T := TX5) (N := 19) hx hb hts inc_X5_readItem_5 hown hK hP 0 rfl rfl 3 (by decide) (hts (.fieldLink RX5 13 "BedHouseModel" "plan" "[I") (by decide +kernel)) (fun _ h9 => h9) rfl dX5_readItem_147 ?_
      refine lv_bipush (v := zI 9) hx hb dX5_readItem_150 (by decide) ?_
      refine lv_dup2_11 hx hb dX5_readItem_152 rfl rfl ?_
      refine z_iald hx hb hK hP 2 1 rfl rfl (Nat.le_of_ble_eq_true rfl) dX5_readItem_153 (by omega) ?_
      refine lv_iconst (v := zI 1) hx hb dX5_readItem_154 rfl ?_
      refine z_iadd hx hb dX5_readItem_155 ?_
      refine z_iast (ws' := [(o0, .inr (5, [.long tr, .ref o1, .int (zI td), .ref o2, .ref o3, .ref o4, .ref o5, .int (zI u_142.1), .int (zI u_142.2.1), .int (zI u_142.2.2.1), .int (zI u_142.2.2.2.1), .int (zI u_142.2.2.2.2), .int (zI (zbor g6 (zpw g3))), .ref o6, .ref o7, .ref o8, .ref o9, .int (zI g7), .ref oz])), (o1, .inl (cB, 200, .inl (zia (sgF f1)))), (o2, .inl (cI, 16, .inl (zia (zup f2 9 ((f2 9) + 1))))), (o3, .inl (cI, 8, .inl (zia f3))), (o4, .inl (cI, 8, .inl (zia f4))), (o5, .inl (cI, 4, .inl (zia (zup f5 (2 + (f2 9)) ((roM (btA f1 td) (u_11.1, u_11.2.1, u_11.2.2.1, u_11.2.2.2.1, u_11.2.2.2.2)).1)))))]) hx hb hK hP hD hS 2 1 rfl rfl (Nat.le_of_ble_eq_true rfl) dX5_readItem_156 rfl (by omega) (fun H locs hP hD hS => ?_)
      refine lv_goto (tgt := 239) hx hb dX5_readItem_157 (by decide) ?_
      exact lp_X5_readItem_239 l D cB cI cZ cM o0 o1 o2 o3 o4 o5 o6 o7 o8 o9 oz tr td g1 g2 g3 g4 g5 g6 g7 f1 f2 f3 f4 f5 htd hf1 hok h59 M hK hA (u_142, zbor g6 (zpw g3), zup f2 9 (f2 9 + 1), f3, f4, zup f5 (2 + f2 9) (roM (btA f1 td) u_11).1) (by show okU td u_142; rw [h_142]; exact roM_ok hk11) (by rw [riM_y (h_11 ▸ c_21), riN_b c_125, show duM (btA f1 td) (myP f2 g6 ((g1, g2, g3, g4, g5) : DUS).2.2.1) (g1, g2, g3, g4, g5) = u_11 from h_11.symm, show u_142 = (roM (btA f1 td) u_11).2 from h_142]) _ _ hP hD hS _ (lv_sub hl [1] rfl)
    have h48b := my_p hmy (by omega)
    refine lv_iconst (v := zI 4) hx hb dX5_readItem_42 rfl ?_
    refine lv_aload_n hx hb dX5_readItem_43 rfl (lv_at hl 1 rfl) ?_
    refine va_get (D := D) (ci := 5) (C := RX5) (T := TX5) (N := 19) hx hb hts inc_X5_readItem_5 hown hK hP 0 rfl rfl 3 (by decide) (hts (.fieldLink RX5 13 "BedHouseModel" "plan" "[I") (by decide +kernel)) (fun _ h9 => h9) rfl dX5_readItem_44 ?_
    refine lv_bipush (v := zI 8) hx hb dX5_readItem_47 (by decide) ?_
    refine z_iald hx hb hK hP 2 1 rfl rfl (Nat.le_of_ble_eq_true rfl) dX5_readItem_49 (by omega) ?_
    refine z_iadd hx hb dX5_readItem_50 ?_
    refine lv_istore_n (lv' := [(2, .int (zI (4 + (f2 8)))), (1, .int (zI g3)), (0, .ref o0)]) hx hb dX5_readItem_51 rfl hl (by decide) rfl (fun ls hl => ?_)
    refine lv_aload_n hx hb dX5_readItem_52 rfl (lv_at hl 2 rfl) ?_
    refine va_get (D := D) (ci := 5) (C := RX5) (T := TX5) (N := 19) hx hb hts inc_X5_readItem_5 hown hK hP 0 rfl rfl 4 (by decide) (hts (.fieldLink RX5 17 "BedHouseModel" "sorts" "[I") (by decide +kernel)) (fun _ h9 => h9) rfl dX5_readItem_53 ?_
    refine lv_iload_n hx hb dX5_readItem_56 rfl (lv_at hl 0 rfl) ?_
    refine lv_iload_n hx hb dX5_readItem_57 rfl (lv_at hl 1 rfl) ?_
    refine z_iast (ws' := [(o0, .inr (5, [.long tr, .ref o1, .int (zI td), .ref o2, .ref o3, .ref o4, .ref o5, .int (zI u_11.1), .int (zI u_11.2.1), .int (zI u_11.2.2.1), .int (zI u_11.2.2.2.1), .int (zI u_11.2.2.2.2), .int (zI (zbor g6 (zpw g3))), .ref o6, .ref o7, .ref o8, .ref o9, .int (zI g7), .ref oz])), (o1, .inl (cB, 200, .inl (zia (sgF f1)))), (o2, .inl (cI, 16, .inl (zia f2))), (o3, .inl (cI, 8, .inl (zia (zup f3 (4 + (f2 8)) g3)))), (o4, .inl (cI, 8, .inl (zia f4))), (o5, .inl (cI, 4, .inl (zia f5)))]) hx hb hK hP hD hS 3 1 rfl rfl (Nat.le_of_ble_eq_true rfl) dX5_readItem_58 rfl (by omega) (fun H locs hP hD hS => ?_)
    refine lv_aload_n hx hb dX5_readItem_59 rfl (lv_at hl 2 rfl) ?_
    refine va_get (D := D) (ci := 5) (C := RX5) (T := TX5) (N := 19) hx hb hts inc_X5_readItem_5 hown hK hP 0 rfl rfl 9 (by decide) (hts (.fieldLink RX5 69 "BedHouseModel" "sort" "I") (by decide +kernel)) (fun _ h9 => h9) rfl dX5_readItem_60 ?_
    refine lv_bipush (v := zI 12) hx hb dX5_readItem_63 (by decide) ?_
    refine z_icmp_ne (tgt := 96) hx hb dX5_readItem_65 (by decide) (by have := hk11.2.2.1; omega) (fun c_65 => ?_) (fun c_65 => ?_)
    · skip
      refine lv_iconst (v := zI 0) hx hb dX5_readItem_96 rfl ?_
      exact lp_X5_readItem_97 l D cB cI cZ cM o0 o1 o2 o3 o4 o5 o6 o7 o8 o9 oz tr td g1 g2 g3 g4 g5 g6 g7 f1 f2 f3 f4 f5 htd hf1 hok h59 M hK hA 0 u_11 (by exact h_11) (by exact c_21) (by omega) (by omega) (by omega) (by exact Iff.intro (fun q => absurd q (by decide)) (fun q => absurd q.1 c_65)) _ _ hP hD hS _ (lv_sub hl [2, 1, 0] rfl)
    refine lv_aload_n hx hb dX5_readItem_68 rfl (lv_at hl 2 rfl) ?_
    refine va_get (D := D) (ci := 5) (C := RX5) (T := TX5) (N := 19) hx hb hts inc_X5_readItem_5 hown hK hP 0 rfl rfl 10 (by decide) (hts (.fieldLink RX5 66 "BedHouseModel" "value" "I") (by decide +kernel)) (fun _ h9 => h9) rfl dX5_readItem_69 ?_
    refine lv_iconst (v := zI 0) hx hb dX5_readItem_72 rfl ?_
    refine lv_bipush (v := zI 8) hx hb dX5_readItem_73 (by decide) ?_
    refine pc_J (As := [.int (zI u_11.2.2.2.1), .int (zI 0), .int (zI 8)]) (rest := []) M (c_X5_in l D cB cI cZ cM _ u_11.2.2.2.1 0 8 (by have := hk11.2.2.2.1; omega) (by first | assumption | omega) (by first | assumption | omega)) gX5_readItem_X5_in rfl hd_X5_in ⟨Nat.le_of_ble_eq_true rfl, Nat.le_of_ble_eq_true rfl⟩ hK hP [] rfl hl.1 rfl rfl (Nat.le_of_ble_eq_true rfl) dX5_readItem_75 ⟨Nat.le_of_ble_eq_true rfl, Nat.le_of_ble_eq_true rfl⟩ (fun r_75 h_75 => ?_)
    subst h_75
    refine z_if_eq (tgt := 96) hx hb dX5_readItem_78 (by decide) (zb_bd _) (fun c_78 => ?_) (fun c_78 => ?_)
    · skip
      have c_78 := zb_f c_78
      refine lv_iconst (v := zI 0) hx hb dX5_readItem_96 rfl ?_
      exact lp_X5_readItem_97 l D cB cI cZ cM o0 o1 o2 o3 o4 o5 o6 o7 o8 o9 oz tr td g1 g2 g3 g4 g5 g6 g7 f1 f2 f3 f4 f5 htd hf1 hok h59 M hK hA 0 u_11 (by exact h_11) (by exact c_21) (by omega) (by omega) (by omega) (by exact Iff.intro (fun q => absurd q (by decide)) (fun q => absurd q.2.1 c_78)) _ _ hP hD hS _ (lv_sub hl [2, 1, 0] rfl)
    have c_78 := zb_t c_78
    refine lv_aload_n hx hb dX5_readItem_81 rfl (lv_at hl 2 rfl) ?_
    refine lv_aload_n hx hb dX5_readItem_82 rfl (lv_at hl 2 rfl) ?_
    refine va_get (D := D) (ci := 5) (C := RX5) (T := TX5) (N := 19) hx hb hts inc_X5_readItem_5 hown hK hP 0 rfl rfl 10 (by decide) (hts (.fieldLink RX5 66 "BedHouseModel" "value" "I") (by decide +kernel)) (fun _ h9 => h9) rfl dX5_readItem_83 ?_
    refine pc_V (As := [.int (zI u_11.2.2.2.1)]) (rest := []) M (c_X5_stands l D cB cI cZ cM _ o0 o1 o2 o3 o4 o5 o6 o7 o8 o9 oz tr td u_11.1 u_11.2.1 u_11.2.2.1 u_11.2.2.2.1 u_11.2.2.2.2 (zbor g6 (zpw g3)) g7 f2 f4 u_11.2.2.2.1 (by first | assumption | omega) (by first | assumption | omega) (by have := hk11.2.2.2.1; omega)) gX5_readItem_X5_stands rfl ⟨rfl, hd_X5_stands⟩ ⟨Nat.le_of_ble_eq_true rfl, Nat.le_of_ble_eq_true rfl⟩ hK hP [0, 2, 4] rfl 0 5 rfl rfl rfl hl.1 rfl rfl (Nat.le_of_ble_eq_true rfl) dX5_readItem_86 ⟨Nat.le_of_ble_eq_true rfl, Nat.le_of_ble_eq_true rfl⟩ (fun r_86 h_86 => ?_)
    subst h_86
    refine z_if_ne (tgt := 96) hx hb dX5_readItem_89 (by decide) (zb_bd _) (fun c_89 => ?_) (fun c_89 => ?_)
    · skip
      have c_89 := zb_t c_89
      refine lv_iconst (v := zI 0) hx hb dX5_readItem_96 rfl ?_
      exact lp_X5_readItem_97 l D cB cI cZ cM o0 o1 o2 o3 o4 o5 o6 o7 o8 o9 oz tr td g1 g2 g3 g4 g5 g6 g7 f1 f2 f3 f4 f5 htd hf1 hok h59 M hK hA 0 u_11 (by exact h_11) (by exact c_21) (by omega) (by omega) (by omega) (by exact Iff.intro (fun q => absurd q (by decide)) (fun q => by rw [q.2.2] at c_89; exact absurd c_89 (by decide))) _ _ hP hD hS _ (lv_sub hl [2, 1, 0] rfl)
    have c_89 := zb_f c_89
    refine lv_iconst (v := zI 1) hx hb dX5_readItem_92 rfl ?_
    refine lv_goto (tgt := 97) hx hb dX5_readItem_93 (by decide) ?_
    exact lp_X5_readItem_97 l D cB cI cZ cM o0 o1 o2 o3 o4 o5 o6 o7 o8 o9 oz tr td g1 g2 g3 g4 g5 g6 g7 f1 f2 f3 f4 f5 htd hf1 hok h59 M hK hA 1 u_11 (by exact h_11) (by exact c_21) (by omega) (by omega) (by omega) (by exact Iff.intro (fun _ => And.intro c_65 (And.intro c_78 (by simpa using c_89))) (fun _ => rfl)) _ _ hP hD hS _ (lv_sub hl [2, 1, 0] rfl)
  exact wr_retv M dX5_readItem_24 (u := (u_11, g6, f2, f3, f4, f5)) (by rw [riM_n (show (duM (btA f1 td) (myP f2 g6 g3) (g1, g2, g3, g4, g5)).2.2.2.2 ≠ -9 from h_11 ▸ c_21), show duM (btA f1 td) (myP f2 g6 ((g1, g2, g3, g4, g5) : DUS).2.2.1) (g1, g2, g3, g4, g5) = u_11 from h_11.symm]) hP hD hS
