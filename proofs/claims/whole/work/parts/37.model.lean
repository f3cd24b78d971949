theorem inc_X5_fewest_5 : ∀ w ∈ wsX50, w ∈ wsX5_fewest := by decide +kernel
theorem inc_X5_first_5 : ∀ w ∈ wsX50, w ∈ wsX5_first := by decide +kernel
theorem inc_X5_nights_5 : ∀ w ∈ wsX50, w ∈ wsX5_nights := by decide +kernel
theorem inc_X5_piano_5 : ∀ w ∈ wsX50, w ∈ wsX5_piano := by decide +kernel
theorem hd_X5_go : yX5_go.cls ≠ "java/lang/invoke/MethodHandle" ∧ yX5_go.cls ≠ "java/lang/invoke/VarHandle" ∧ (parseMethodDescriptor yX5_go.desc).map (fun d => d.parameters.length) = some 1 := by decide +kernel
theorem hd_X5_goFrom : yX5_goFrom.cls ≠ "java/lang/invoke/MethodHandle" ∧ yX5_goFrom.cls ≠ "java/lang/invoke/VarHandle" ∧ (parseMethodDescriptor yX5_goFrom.desc).map (fun d => d.parameters.length) = some 1 := by decide +kernel
theorem hd_X5_houseOf : yX5_houseOf.cls ≠ "java/lang/invoke/MethodHandle" ∧ yX5_houseOf.cls ≠ "java/lang/invoke/VarHandle" ∧ (parseMethodDescriptor yX5_houseOf.desc).map (fun d => d.parameters.length) = some 1 := by decide +kernel
theorem hd_X5_houses : yX5_houses.cls ≠ "java/lang/invoke/MethodHandle" ∧ yX5_houses.cls ≠ "java/lang/invoke/VarHandle" ∧ (parseMethodDescriptor yX5_houses.desc).map (fun d => d.parameters.length) = some 0 := by decide +kernel
theorem hd_X5_none : yX5_none.cls ≠ "java/lang/invoke/MethodHandle" ∧ yX5_none.cls ≠ "java/lang/invoke/VarHandle" ∧ (parseMethodDescriptor yX5_none.desc).map (fun d => d.parameters.length) = some 0 := by decide +kernel
set_option maxHeartbeats 4000000 in
set_option maxRecDepth 100000 in
theorem c_X5_goFrom (l : Launch) (D : va_G) (cB cI cZ cM : ClassId) (Hp : Heap) (o0 : Nat) (o1 : Nat) (o2 : Nat) (o3 : Nat) (o4 : Nat) (o5 : Nat) (o6 : Nat) (o7 : Nat) (o8 : Nat) (o9 : Nat) (oz : Nat) (tr : Int64) (td : Int) (g1 : Int) (g2 : Int) (g3 : Int) (g4 : Int) (g5 : Int) (g6 : Int) (g7 : Int) (f2 : Int → Int) (f3 : Int → Int) (f5 : Int → Int) (f8 : Int → Int) (f9 : Int → Int) (h : Int) (hp2 : okR f2 f3 f5) (hh : 0 ≤ h ∧ h < pw9 (f2 0)) : cWv l yX5_goFrom wsX5_goFrom (rmW 5 0 0 121) D (TYS cB cI cZ cM) [.ref o0, .int (zI h)] [(o0, .inr (5, [.long tr, .ref o1, .int (zI td), .ref o2, .ref o3, .ref o4, .ref o5, .int (zI g1), .int (zI g2), .int (zI g3), .int (zI g4), .int (zI g5), .int (zI g6), .ref o6, .ref o7, .ref o8, .ref o9, .int (zI g7), .ref oz])), (o2, .inl (cI, 16, .inl (zia f2))), (o3, .inl (cI, 8, .inl (zia f3))), (o5, .inl (cI, 4, .inl (zia f5))), (o8, .inl (cI, 6561, .inl (zia f8))), (o9, .inl (cI, 6561, .inl (zia f9)))] Hp (fun (u : BQ) => u = sgM f2 f3 f5 f9 h 9999) (fun (u : BQ) => [(o0, .inr (5, [.long tr, .ref o1, .int (zI td), .ref o2, .ref o3, .ref o4, .ref o5, .int (zI g1), .int (zI g2), .int (zI g3), .int (zI g4), .int (zI g5), .int (zI g6), .ref o6, .ref o7, .ref o8, .ref o9, .int (zI u.2.1), .ref oz])), (o2, .inl (cI, 16, .inl (zia f2))), (o3, .inl (cI, 8, .inl (zia f3))), (o5, .inl (cI, 4, .inl (zia f5))), (o8, .inl (cI, 6561, .inl (zia u.2.2))), (o9, .inl (cI, 6561, .inl (zia u.1)))]) 0 0 := by
  refine wr_startv (by decide) rfl (Nat.le_of_ble_eq_true rfl) ?_
  intro pg ev sx mm args below meth cd ls A M hP hD hS hA hK hl
  obtain ⟨hx, hb, hr, hml, hown, hts, hlk, hN0⟩ := id M
  have hl : lv_has ls 2 [(0, .ref o0), (1, .int (zI h))] := hl
  refine W.widen (k := 0) (n := 0) (Nat.zero_le _) (Nat.zero_le _) ?_
  obtain ⟨hPm, hB1, hra, hsu, hvw, hno, hdn6, hha7, hso, hbm⟩ := id hp2
  refine lv_aload_n hx hb dX5_goFrom_0 rfl (lv_at hl 0 rfl) ?_
  refine wc_Vv (As := []) (rest := []) (wr := [(o2, .inl (cI, 16, .inl (zia f2))), (o3, .inl (cI, 8, .inl (zia f3))), (o5, .inl (cI, 4, .inl (zia f5))), (o9, .inl (cI, 6561, .inl (zia f9)))]) (ws' := (fun _u : Unit => [(o0, .inr (5, [.long tr, .ref o1, .int (zI td), .ref o2, .ref o3, .ref o4, .ref o5, .int (zI g1), .int (zI g2), .int (zI g3), .int (zI g4), .int (zI g5), .int (zI g6), .ref o6, .ref o7, .ref o8, .ref o9, .int (zI 0), .ref oz])), (o2, .inl (cI, 16, .inl (zia f2))), (o3, .inl (cI, 8, .inl (zia f3))), (o5, .inl (cI, 4, .inl (zia f5))), (o8, .inl (cI, 6561, .inl (zia (fun _ => 9999)))), (o9, .inl (cI, 6561, .inl (zia f9)))])) M (c_X5_none l D cB cI cZ cM _ o0 o1 o2 o3 o4 o5 o6 o7 o8 o9 oz tr td g1 g2 g3 g4 g5 g6 g7 f8 ) gX5_goFrom_X5_none rfl ⟨rfl, hd_X5_none⟩ ⟨Nat.le_of_ble_eq_true rfl, Nat.le_of_ble_eq_true rfl⟩ hK hP hD hS hA [0, 4] [1, 2, 3, 5] [4, 0, 1, 2, 5, 3] rfl rfl (by decide) (by decide) (by decide) (fun _ => rfl) 0 5 rfl rfl rfl hl.1 rfl rfl (Nat.le_of_ble_eq_true rfl) dX5_goFrom_1 ⟨Nat.le_of_ble_eq_true rfl, Nat.le_of_ble_eq_true rfl⟩ (by decide) (fun _u H locs h_1 hP hD hS => ?_)
  refine lv_aload_n hx hb dX5_goFrom_4 rfl (lv_at hl 0 rfl) ?_
  refine lv_iload_n hx hb dX5_goFrom_5 rfl (lv_at hl 1 rfl) ?_
  refine lv_iconst (v := zI 0) hx hb dX5_goFrom_6 rfl ?_
  refine wc_Vv (As := [.int (zI h), .int (zI 0)]) (rest := []) (wr := [(o2, .inl (cI, 16, .inl (zia f2))), (o3, .inl (cI, 8, .inl (zia f3))), (o5, .inl (cI, 4, .inl (zia f5)))]) (ws' := (fun u_7 : BQ => [(o0, .inr (5, [.long tr, .ref o1, .int (zI td), .ref o2, .ref o3, .ref o4, .ref o5, .int (zI g1), .int (zI g2), .int (zI g3), .int (zI g4), .int (zI g5), .int (zI g6), .ref o6, .ref o7, .ref o8, .ref o9, .int (zI u_7.2.1), .ref oz])), (o2, .inl (cI, 16, .inl (zia f2))), (o3, .inl (cI, 8, .inl (zia f3))), (o5, .inl (cI, 4, .inl (zia f5))), (o8, .inl (cI, 6561, .inl (zia u_7.2.2))), (o9, .inl (cI, 6561, .inl (zia u_7.1)))])) M (c_X5_reach l D cB cI cZ cM _ o0 o1 o2 o3 o4 o5 o6 o7 o8 o9 oz tr td g1 g2 g3 g4 g5 g6 0 f2 (fun _ => 9999) f9 h 0 (hPm) (qkM_0 (f2 0) f9) (hh) (⟨by omega, by omega⟩)) gX5_goFrom_X5_reach rfl ⟨rfl, hd_X5_reach⟩ ⟨Nat.le_of_ble_eq_true rfl, Nat.le_of_ble_eq_true rfl⟩ hK hP hD hS hA [0, 4, 5] [1, 2, 3] [3, 0, 1, 2, 4, 5] rfl rfl (by decide) (by decide) (by decide) (fun _ => rfl) 0 5 rfl rfl rfl hl.1 rfl rfl (Nat.le_of_ble_eq_true rfl) dX5_goFrom_7 ⟨Nat.le_of_ble_eq_true rfl, Nat.le_of_ble_eq_true rfl⟩ (by decide) (fun u_7 H locs h_7 hP hD hS => ?_)
  have hr7 : qkM (f2 0) u_7 := by rw [h_7]; exact rc0_ok hPm.2 hh
  refine lv_aload_n hx hb dX5_goFrom_10 rfl (lv_at hl 0 rfl) ?_
  refine lv_sipush (v := zI 9999) hx hb dX5_goFrom_11 (by decide) ?_
  refine wc_Vv (As := [.int (zI 9999)]) (rest := []) (wr := []) (ws' := (fun u_14 : BQ => [(o0, .inr (5, [.long tr, .ref o1, .int (zI td), .ref o2, .ref o3, .ref o4, .ref o5, .int (zI g1), .int (zI g2), .int (zI g3), .int (zI g4), .int (zI g5), .int (zI g6), .ref o6, .ref o7, .ref o8, .ref o9, .int (zI u_14.2.1), .ref oz])), (o2, .inl (cI, 16, .inl (zia f2))), (o3, .inl (cI, 8, .inl (zia f3))), (o5, .inl (cI, 4, .inl (zia f5))), (o8, .inl (cI, 6561, .inl (zia u_14.2.2))), (o9, .inl (cI, 6561, .inl (zia u_14.1)))])) M (c_X5_go l D cB cI cZ cM _ o0 o1 o2 o3 o4 o5 o6 o7 o8 o9 oz tr td g1 g2 g3 g4 g5 g6 u_7.2.1 f2 f3 f5 u_7.2.2 u_7.1 9999 (hp2) (hr7) (by omega)) gX5_goFrom_X5_go rfl ⟨rfl, hd_X5_go⟩ ⟨Nat.le_of_ble_eq_true rfl, Nat.le_of_ble_eq_true rfl⟩ hK hP hD hS hA [0, 1, 2, 3, 4, 5] [] [0, 1, 2, 3, 4, 5] rfl rfl (by decide) (by decide) (by decide) (fun _ => rfl) 0 5 rfl rfl rfl hl.1 rfl rfl (Nat.le_of_ble_eq_true rfl) dX5_goFrom_14 ⟨Nat.le_of_ble_eq_true rfl, Nat.le_of_ble_eq_true rfl⟩ (by decide) (fun u_14 H locs h_14 hP hD hS => ?_)
  exact wr_retv M dX5_goFrom_17 (u := u_14) (by rw [h_14, show (u_7.1, u_7.2.1, u_7.2.2) = u_7 from rfl, h_7]; rfl) hP hD hS
set_option maxHeartbeats 4000000 in
set_option maxRecDepth 100000 in
theorem c_X5_fewest (l : Launch) (D : va_G) (cB cI cZ cM : ClassId) (Hp : Heap) (o0 : Nat) (o1 : Nat) (o2 : Nat) (o3 : Nat) (o4 : Nat) (o5 : Nat) (o6 : Nat) (o7 : Nat) (o8 : Nat) (o9 : Nat) (oz : Nat) (tr : Int64) (td : Int) (g1 : Int) (g2 : Int) (g3 : Int) (g4 : Int) (g5 : Int) (g6 : Int) (g7 : Int) (f2 : Int → Int) (f3 : Int → Int) (f5 : Int → Int) (f6 : Int → Int) (f7 : Int → Int) (f8 : Int → Int) (f9 : Int → Int) (g : Int) (hp2 : okR f2 f3 f5) (hn6 : okN f2 f6) (h71 : ∀ i : Int, 0 ≤ i → i < 2 → f7 i = 0 ∨ f7 i = 1) (hki : ∀ g : Int, 0 ≤ g → g ≤ 1 → f7 g ≠ 0 → 0 ≤ f6 (21 * (1 + g) + 0) ∧ f6 (21 * (1 + g) + 0) < pw9 (f2 0)) (hg0 : -2147483648 ≤ g ∧ g < 2147483648) : cWi l yX5_fewest wsX5_fewest (rmW 6 0 0 142) D (TYS cB cI cZ cM) [.ref o0, .int (zI g)] [(o0, .inr (5, [.long tr, .ref o1, .int (zI td), .ref o2, .ref o3, .ref o4, .ref o5, .int (zI g1), .int (zI g2), .int (zI g3), .int (zI g4), .int (zI g5), .int (zI g6), .ref o6, .ref o7, .ref o8, .ref o9, .int (zI g7), .ref oz])), (o2, .inl (cI, 16, .inl (zia f2))), (o3, .inl (cI, 8, .inl (zia f3))), (o5, .inl (cI, 4, .inl (zia f5))), (o6, .inl (cI, 63, .inl (zia f6))), (o7, .inl (cZ, 2, .inl (zia f7))), (o8, .inl (cI, 6561, .inl (zia f8))), (o9, .inl (cI, 6561, .inl (zia f9)))] Hp (fun (r : Int32) (u : BQ) => r = zI (if reM f7 g = 0 then (if (sgM f2 f3 f5 f9 (f6 0) 9999).2.2 (f6 (21 * (1 + g) + 0)) = 9999 then -9 else (sgM f2 f3 f5 f9 (f6 0) 9999).2.2 (f6 (21 * (1 + g) + 0))) else reM f7 g) ∧ (True)) (fun (u : BQ) => [(o0, .inr (5, [.long tr, .ref o1, .int (zI td), .ref o2, .ref o3, .ref o4, .ref o5, .int (zI g1), .int (zI g2), .int (zI g3), .int (zI g4), .int (zI g5), .int (zI g6), .ref o6, .ref o7, .ref o8, .ref o9, .int (zI u.2.1), .ref oz])), (o2, .inl (cI, 16, .inl (zia f2))), (o3, .inl (cI, 8, .inl (zia f3))), (o5, .inl (cI, 4, .inl (zia f5))), (o6, .inl (cI, 63, .inl (zia f6))), (o7, .inl (cZ, 2, .inl (zia f7))), (o8, .inl (cI, 6561, .inl (zia u.2.2))), (o9, .inl (cI, 6561, .inl (zia u.1)))]) 0 0 := by
  refine wr_starti (by decide) rfl (Nat.le_of_ble_eq_true rfl) ?_
  intro pg ev sx mm args below meth cd ls A M hP hD hS hA hK hl
  obtain ⟨hx, hb, hr, hml, hown, hts, hlk, hN0⟩ := id M
  have hl : lv_has ls 3 [(0, .ref o0), (1, .int (zI g))] := hl
  refine W.widen (k := 0) (n := 0) (Nat.zero_le _) (Nat.zero_le _) ?_
  obtain ⟨hPm, hB1, hra, hsu, hvw, hno, hdn6, hha7, hso, hbm⟩ := id hp2
  obtain ⟨hhm, hdy, hac, hlk, hmn, hcl⟩ := id hn6
  have h9r := pw9_rng (n := f2 0) (by omega)
  refine lv_aload_n hx hb dX5_fewest_0 rfl (lv_at hl 0 rfl) ?_
  refine lv_iload_n hx hb dX5_fewest_1 rfl (lv_at hl 1 rfl) ?_
  refine pc_V (As := [.int (zI g)]) (rest := []) M (c_X5_refuses l D cB cI cZ cM _ o0 o1 o2 o3 o4 o5 o6 o7 o8 o9 oz tr td g1 g2 g3 g4 g5 g6 g7 f7 g (by first | assumption | omega) (by first | assumption | omega)) gX5_fewest_X5_refuses rfl ⟨rfl, hd_X5_refuses⟩ ⟨Nat.le_of_ble_eq_true rfl, Nat.le_of_ble_eq_true rfl⟩ hK hP [0, 5] rfl 0 5 rfl rfl rfl hl.1 rfl rfl (Nat.le_of_ble_eq_true rfl) dX5_fewest_2 ⟨Nat.le_of_ble_eq_true rfl, Nat.le_of_ble_eq_true rfl⟩ (fun r_2 h_2 => ?_)
  subst h_2
  have hre := reM_rng f7 g
  refine z_if_eq (tgt := 14) hx hb dX5_fewest_5 (by decide) (by omega) (fun c_5 => ?_) (fun c_5 => ?_)
  · skip
    have hg1 := reM_0 c_5
    have hki5 := hki g hg1.1 hg1.2 (reM_k c_5)
    refine lv_aload_n hx hb dX5_fewest_14 rfl (lv_at hl 0 rfl) ?_
    refine lv_aload_n hx hb dX5_fewest_15 rfl (lv_at hl 0 rfl) ?_
    refine va_get (D := D) (ci := 5) (C := RX5) (T := TX5) (N := 19) hx hb hts inc_X5_fewest_5 hown hK hP 0 rfl rfl 13 (by decide) (hts (.fieldLink RX5 26 "BedHouseModel" "now" "[I") (by decide +kernel)) (fun _ h9 => h9) rfl dX5_fewest_16 ?_
    refine lv_iconst (v := zI 0) hx hb dX5_fewest_19 rfl ?_
    refine z_iald hx hb hK hP 4 1 rfl rfl (Nat.le_of_ble_eq_true rfl) dX5_fewest_20 (by omega) ?_
    refine wc_Vv (As := [.int (zI (f6 0))]) (rest := []) (wr := [(o6, .inl (cI, 63, .inl (zia f6))), (o7, .inl (cZ, 2, .inl (zia f7)))]) (ws' := (fun u_21 : BQ => [(o0, .inr (5, [.long tr, .ref o1, .int (zI td), .ref o2, .ref o3, .ref o4, .ref o5, .int (zI g1), .int (zI g2), .int (zI g3), .int (zI g4), .int (zI g5), .int (zI g6), .ref o6, .ref o7, .ref o8, .ref o9, .int (zI u_21.2.1), .ref oz])), (o2, .inl (cI, 16, .inl (zia f2))), (o3, .inl (cI, 8, .inl (zia f3))), (o5, .inl (cI, 4, .inl (zia f5))), (o6, .inl (cI, 63, .inl (zia f6))), (o7, .inl (cZ, 2, .inl (zia f7))), (o8, .inl (cI, 6561, .inl (zia u_21.2.2))), (o9, .inl (cI, 6561, .inl (zia u_21.1)))])) M (c_X5_goFrom l D cB cI cZ cM _ o0 o1 o2 o3 o4 o5 o6 o7 o8 o9 oz tr td g1 g2 g3 g4 g5 g6 g7 f2 f3 f5 f8 f9 (f6 0) (by first | assumption | omega) (by first | assumption | omega)) gX5_fewest_X5_goFrom rfl ⟨rfl, hd_X5_goFrom⟩ ⟨Nat.le_of_ble_eq_true rfl, Nat.le_of_ble_eq_true rfl⟩ hK hP hD hS hA [0, 1, 2, 3, 6, 7] [4, 5] [2, 3, 4, 5, 0, 1, 6, 7] rfl rfl (by decide) (by decide) (by decide) (fun _ => rfl) 0 5 rfl rfl rfl hl.1 rfl rfl (Nat.le_of_ble_eq_true rfl) dX5_fewest_21 ⟨Nat.le_of_ble_eq_true rfl, Nat.le_of_ble_eq_true rfl⟩ (by decide) (fun u_21 H locs h_21 hP hD hS => ?_)
    have hr21 : qkM (f2 0) u_21 := by rw [h_21]; exact sgM_ok hPm hhm
    have hz5 := hr21.2.2 (f6 (21 * (1 + g) + 0)) hki5.1 (by omega)
    refine lv_aload_n hx hb dX5_fewest_24 rfl (lv_at hl 0 rfl) ?_
    refine va_get (D := D) (ci := 5) (C := RX5) (T := TX5) (N := 19) hx hb hts inc_X5_fewest_5 hown hK hP 0 rfl rfl 15 (by decide) (hts (.fieldLink RX5 33 "BedHouseModel" "off" "[I") (by decide +kernel)) (fun _ h9 => h9) rfl dX5_fewest_25 ?_
    refine lv_aload_n hx hb dX5_fewest_28 rfl (lv_at hl 0 rfl) ?_
    refine lv_iload_n hx hb dX5_fewest_29 rfl (lv_at hl 1 rfl) ?_
    refine pc_V (As := [.int (zI g)]) (rest := [.ref o8]) M (c_X5_houseOf l D cB cI cZ cM _ o0 o1 o2 o3 o4 o5 o6 o7 o8 o9 oz tr td g1 g2 g3 g4 g5 g6 u_21.2.1 f6 g (by first | assumption | omega)) gX5_fewest_X5_houseOf rfl ⟨rfl, hd_X5_houseOf⟩ ⟨Nat.le_of_ble_eq_true rfl, Nat.le_of_ble_eq_true rfl⟩ hK hP [0, 4] rfl 0 5 rfl rfl rfl hl.1 rfl rfl (Nat.le_of_ble_eq_true rfl) dX5_fewest_30 ⟨Nat.le_of_ble_eq_true rfl, Nat.le_of_ble_eq_true rfl⟩ (fun r_30 h_30 => ?_)
    subst h_30
    refine z_iald hx hb hK hP 6 1 rfl rfl (Nat.le_of_ble_eq_true rfl) dX5_fewest_33 (by omega) ?_
    refine lv_istore_n (lv' := [(2, .int (zI (u_21.2.2 (f6 (21 * (1 + g) + 0))))), (0, .ref o0), (1, .int (zI g))]) hx hb dX5_fewest_34 rfl hl (by decide) rfl (fun ls hl => ?_)
    refine lv_iload_n hx hb dX5_fewest_35 rfl (lv_at hl 0 rfl) ?_
    refine lv_sipush (v := zI 9999) hx hb dX5_fewest_36 (by decide) ?_
    refine z_icmp_ne (tgt := 47) hx hb dX5_fewest_39 (by decide) (by omega) (fun c_39 => ?_) (fun c_39 => ?_)
    · skip
      refine lv_iload_n hx hb dX5_fewest_47 rfl (lv_at hl 0 rfl) ?_
      exact wr_reti M dX5_fewest_48 (u := u_21) ⟨(congrArg zI (by rw [if_pos c_5, ← h_21, if_neg c_39])), (by trivial)⟩ hP hD hS
    refine lv_bipush (v := zI (-9)) hx hb dX5_fewest_42 (by decide) ?_
    refine lv_goto (tgt := 48) hx hb dX5_fewest_44 (by decide) ?_
    exact wr_reti M dX5_fewest_48 (u := u_21) ⟨(congrArg zI (by rw [if_pos c_5, ← h_21, if_pos c_39])), (by trivial)⟩ hP hD hS
  refine lv_aload_n hx hb dX5_fewest_8 rfl (lv_at hl 0 rfl) ?_
  refine lv_iload_n hx hb dX5_fewest_9 rfl (lv_at hl 1 rfl) ?_
  refine pc_V (As := [.int (zI g)]) (rest := []) M (c_X5_refuses l D cB cI cZ cM _ o0 o1 o2 o3 o4 o5 o6 o7 o8 o9 oz tr td g1 g2 g3 g4 g5 g6 g7 f7 g (by first | assumption | omega) (by first | assumption | omega)) gX5_fewest_X5_refuses rfl ⟨rfl, hd_X5_refuses⟩ ⟨Nat.le_of_ble_eq_true rfl, Nat.le_of_ble_eq_true rfl⟩ hK hP [0, 5] rfl 0 5 rfl rfl rfl hl.1 rfl rfl (Nat.le_of_ble_eq_true rfl) dX5_fewest_10 ⟨Nat.le_of_ble_eq_true rfl, Nat.le_of_ble_eq_true rfl⟩ (fun r_10 h_10 => ?_)
  subst h_10
  exact wr_reti M dX5_fewest_13 (u := (f9, g7, f8)) ⟨(congrArg zI (by rw [if_neg c_5])), (by trivial)⟩ hP hD hS
set_option maxHeartbeats 4000000 in
set_option maxRecDepth 100000 in
theorem lp_X5_first_93 (l : Launch) (D : va_G) (cB cI cZ cM : ClassId) (o0 : Nat) (o1 : Nat) (o2 : Nat) (o3 : Nat) (o4 : Nat) (o5 : Nat) (o6 : Nat) (o7 : Nat) (o8 : Nat) (o9 : Nat) (oz : Nat) (tr : Int64) (td : Int) (g1 : Int) (g2 : Int) (g3 : Int) (g4 : Int) (g5 : Int) (g6 : Int) (g7 : Int) (f2 : Int → Int) (f3 : Int → Int) (f5 : Int → Int) (f6 : Int → Int) (f7 : Int → Int) (f8 : Int → Int) (f9 : Int → Int) (g : Int) (hp2 : okR f2 f3 f5) (hn6 : okN f2 f6) (h71 : ∀ i : Int, 0 ≤ i → i < 2 → f7 i = 0 ∨ f7 i = 1) (hki : ∀ g : Int, 0 ≤ g → g ≤ 1 → f7 g ≠ 0 → 0 ≤ f6 (21 * (1 + g) + 0) ∧ f6 (21 * (1 + g) + 0) < pw9 (f2 0)) (hg0 : -2147483648 ≤ g ∧ g < 2147483648) {pg : Program} {ev : Env} {sx : State} {mm : MethodId} {args : Array Value} {below : List Frame} {meth : Method} {cd : Code} (M : MX pg sx mm args meth cd cX5_first 11 (some .int) RX5 wsX5_first) (hK : va_K D vwCl (TYS cB cI cZ cM) sx) {A : Nat → Prop} (hA : ∀ q : Nat, sx.heap.size ≤ q → A q) : ∀ (N : Nat) (j : Nat) (k : Int) (p : Int) (s : Int × Int) (n1 : Nat) (a : Int) (S : BQ), (j < N) → (0 ≤ g ∧ g ≤ 1) → (reM f7 g = 0) → (0 ≤ k ∧ k + j = 9) → (0 ≤ p ∧ p + (n1 + 1 : Nat) = f2 0) → (S = sgM f2 f3 f5 f9 (f6 (21 * (1 + g) + 0)) 9999) → ((-9 ≤ s.1 ∧ s.1 ≤ 100) ∧ (0 ≤ s.2 ∧ s.2 ≤ 9999)) → ((a = 1 ∧ slI (f2 0) (f6 0) p = 8) ∨ (a = 0 ∧ slI (f2 0) (f6 0) p ≠ 8)) → (f6 0 ≠ f6 (21 * (1 + g) + 0) ∧ lwM f2 f3 f5 (f6 (21 * (1 + g) + 0)) = true) → (fpM f2 f3 f5 S.2.2 (f6 0) n1 (p + 1) (fkM f2 f3 f5 S.2.2 (f6 0) p j k s) = fpM f2 f3 f5 (sgM f2 f3 f5 f9 (f6 (21 * (1 + g) + 0)) 9999).2.2 (f6 0) (f2 0).toNat 0 (-9, 9999)) → (k_60 : ∀ (n0 : Nat) (p : Int) (s : Int × Int) (S : BQ), (n0 = n1) → (0 ≤ g ∧ g ≤ 1) → (reM f7 g = 0) → (0 ≤ p ∧ p + n0 = f2 0) → (S = sgM f2 f3 f5 f9 (f6 (21 * (1 + g) + 0)) 9999) → ((-9 ≤ s.1 ∧ s.1 ≤ 100) ∧ (0 ≤ s.2 ∧ s.2 ≤ 9999)) → (f6 0 ≠ f6 (21 * (1 + g) + 0) ∧ lwM f2 f3 f5 (f6 (21 * (1 + g) + 0)) = true) → (fpM f2 f3 f5 S.2.2 (f6 0) n0 p s = fpM f2 f3 f5 (sgM f2 f3 f5 f9 (f6 (21 * (1 + g) + 0)) 9999).2.2 (f6 0) (f2 0).toNat 0 (-9, 9999)) → ∀ (H : Heap) (locs : List Loc), va_P D vwCl [(o0, .inr (5, [.long tr, .ref o1, .int (zI td), .ref o2, .ref o3, .ref o4, .ref o5, .int (zI g1), .int (zI g2), .int (zI g3), .int (zI g4), .int (zI g5), .int (zI g6), .ref o6, .ref o7, .ref o8, .ref o9, .int (zI S.2.1), .ref oz])), (o2, .inl (cI, 16, .inl (zia f2))), (o3, .inl (cI, 8, .inl (zia f3))), (o5, .inl (cI, 4, .inl (zia f5))), (o6, .inl (cI, 63, .inl (zia f6))), (o7, .inl (cZ, 2, .inl (zia f7))), (o8, .inl (cI, 6561, .inl (zia S.2.2))), (o9, .inl (cI, 6561, .inl (zia S.1)))] H → va_D A [(o0, .inr (5, [.long tr, .ref o1, .int (zI td), .ref o2, .ref o3, .ref o4, .ref o5, .int (zI g1), .int (zI g2), .int (zI g3), .int (zI g4), .int (zI g5), .int (zI g6), .ref o6, .ref o7, .ref o8, .ref o9, .int (zI S.2.1), .ref oz])), (o2, .inl (cI, 16, .inl (zia f2))), (o3, .inl (cI, 8, .inl (zia f3))), (o5, .inl (cI, 4, .inl (zia f5))), (o6, .inl (cI, 63, .inl (zia f6))), (o7, .inl (cZ, 2, .inl (zia f7))), (o8, .inl (cI, 6561, .inl (zia S.2.2))), (o9, .inl (cI, 6561, .inl (zia S.1)))] → va_S A sx.heap H locs → ∀ ls : Array Slot, lv_has ls 11 [(0, .ref o0), (1, .int (zI g)), (2, .int (zI (f6 0))), (3, .int (zI (f6 (21 * (1 + g) + 0)))), (4, .int (zI s.1)), (5, .int (zI s.2)), (6, .int (zI p))] → W pg l ev (rmW 6 0 0 142) sx mm args below meth cd H locs 0 0 (QWi below args sx A D (fun (r : Int32) (u : BQ) => r = zI (if reM f7 g = 0 then (if f6 0 = f6 (21 * (1 + g) + 0) ∨ ¬ lwM f2 f3 f5 (f6 (21 * (1 + g) + 0)) = true then -9 else (fpM f2 f3 f5 (sgM f2 f3 f5 f9 (f6 (21 * (1 + g) + 0)) 9999).2.2 (f6 0) (f2 0).toNat 0 (-9, 9999)).1) else reM f7 g) ∧ (True)) (fun (u : BQ) => [(o0, .inr (5, [.long tr, .ref o1, .int (zI td), .ref o2, .ref o3, .ref o4, .ref o5, .int (zI g1), .int (zI g2), .int (zI g3), .int (zI g4), .int (zI g5), .int (zI g6), .ref o6, .ref o7, .ref o8, .ref o9, .int (zI u.2.1), .ref oz])), (o2, .inl (cI, 16, .inl (zia f2))), (o3, .inl (cI, 8, .inl (zia f3))), (o5, .inl (cI, 4, .inl (zia f5))), (o6, .inl (cI, 63, .inl (zia f6))), (o7, .inl (cZ, 2, .inl (zia f7))), (o8, .inl (cI, 6561, .inl (zia u.2.2))), (o9, .inl (cI, 6561, .inl (zia u.1)))]) 0 0) (F0 mm 60 ls [])) → ∀ (H : Heap) (locs : List Loc), va_P D vwCl [(o0, .inr (5, [.long tr, .ref o1, .int (zI td), .ref o2, .ref o3, .ref o4, .ref o5, .int (zI g1), .int (zI g2), .int (zI g3), .int (zI g4), .int (zI g5), .int (zI g6), .ref o6, .ref o7, .ref o8, .ref o9, .int (zI S.2.1), .ref oz])), (o2, .inl (cI, 16, .inl (zia f2))), (o3, .inl (cI, 8, .inl (zia f3))), (o5, .inl (cI, 4, .inl (zia f5))), (o6, .inl (cI, 63, .inl (zia f6))), (o7, .inl (cZ, 2, .inl (zia f7))), (o8, .inl (cI, 6561, .inl (zia S.2.2))), (o9, .inl (cI, 6561, .inl (zia S.1)))] H → va_D A [(o0, .inr (5, [.long tr, .ref o1, .int (zI td), .ref o2, .ref o3, .ref o4, .ref o5, .int (zI g1), .int (zI g2), .int (zI g3), .int (zI g4), .int (zI g5), .int (zI g6), .ref o6, .ref o7, .ref o8, .ref o9, .int (zI S.2.1), .ref oz])), (o2, .inl (cI, 16, .inl (zia f2))), (o3, .inl (cI, 8, .inl (zia f3))), (o5, .inl (cI, 4, .inl (zia f5))), (o6, .inl (cI, 63, .inl (zia f6))), (o7, .inl (cZ, 2, .inl (zia f7))), (o8, .inl (cI, 6561, .inl (zia S.2.2))), (o9, .inl (cI, 6561, .inl (zia S.1)))] → va_S A sx.heap H locs → ∀ ls : Array Slot, lv_has ls 11 [(0, .ref o0), (1, .int (zI g)), (2, .int (zI (f6 0))), (3, .int (zI (f6 (21 * (1 + g) + 0)))), (4, .int (zI s.1)), (5, .int (zI s.2)), (6, .int (zI p)), (7, .int (zI a)), (8, .int (zI k))] → W pg l ev (rmW 6 0 0 142) sx mm args below meth cd H locs 0 0 (QWi below args sx A D (fun (r : Int32) (u : BQ) => r = zI (if reM f7 g = 0 then (if f6 0 = f6 (21 * (1 + g) + 0) ∨ ¬ lwM f2 f3 f5 (f6 (21 * (1 + g) + 0)) = true then -9 else (fpM f2 f3 f5 (sgM f2 f3 f5 f9 (f6 (21 * (1 + g) + 0)) 9999).2.2 (f6 0) (f2 0).toNat 0 (-9, 9999)).1) else reM f7 g) ∧ (True)) (fun (u : BQ) => [(o0, .inr (5, [.long tr, .ref o1, .int (zI td), .ref o2, .ref o3, .ref o4, .ref o5, .int (zI g1), .int (zI g2), .int (zI g3), .int (zI g4), .int (zI g5), .int (zI g6), .ref o6, .ref o7, .ref o8, .ref o9, .int (zI u.2.1), .ref oz])), (o2, .inl (cI, 16, .inl (zia f2))), (o3, .inl (cI, 8, .inl (zia f3))), (o5, .inl (cI, 4, .inl (zia f5))), (o6, .inl (cI, 63, .inl (zia f6))), (o7, .inl (cZ, 2, .inl (zia f7))), (o8, .inl (cI, 6561, .inl (zia u.2.2))), (o9, .inl (cI, 6561, .inl (zia u.1)))]) 0 0) (F0 mm 93 ls []) := by
  intro N
  induction N with
  | zero => intro j k p s n1 a S hN; exact absurd hN (Nat.not_lt_zero _)
  | succ N ih =>
    intro j k p s n1 a S hN hg1 c5 hk hp hS5 hs hl5 hc9 hv k_60 H locs hP hD hS ls hl
    obtain ⟨hx, hb, hr, hml, hown, hts, hlk, hN0⟩ := id M
    obtain ⟨hPm, hB1, hra, hsu, hvw, hno, hdn6, hha7, hso, hbm⟩ := id hp2
    obtain ⟨hhm, hdy, hac, hlk, hmn, hcl⟩ := id hn6
    have h9r := pw9_rng (n := f2 0) (by omega)
    have hki5 := hki g hg1.1 hg1.2 (reM_k c5)
    have hr21 : qkM (f2 0) S := by rw [hS5]; exact sgM_ok hPm hki5
    refine lv_iload hx hb dX5_first_93 (lv_at hl 8 rfl) ?_
    refine lv_bipush (v := zI 8) hx hb dX5_first_95 (by decide) ?_
    refine z_icmp_gt (tgt := 208) hx hb dX5_first_97 (by decide) (by omega) (fun c_97 => ?_) (fun c_97 => ?_)
    · skip
      obtain rfl : j = 0 := by omega
      refine z_iinc (a := p) (k := 6) (lv' := [(6, .int (zI (p + 1))), (0, .ref o0), (1, .int (zI g)), (2, .int (zI (f6 0))), (3, .int (zI (f6 (21 * (1 + g) + 0)))), (4, .int (zI s.1)), (5, .int (zI s.2)), (7, .int (zI a)), (8, .int (zI k))]) hx hb dX5_first_208 hl rfl (by decide) rfl (fun ls hl => ?_)
      refine lv_goto (tgt := 60) hx hb dX5_first_211 (by decide) ?_
      exact k_60 n1 (p + 1) s S rfl (by assumption) (by assumption) (by omega) (by assumption) (by omega) (by assumption) (by rw [← hv, fkM]) _ _ hP hD hS _ (lv_sub hl [1, 2, 3, 4, 5, 6, 0] rfl)
    obtain ⟨j, rfl⟩ : ∃ x : Nat, j = x + 1 := ⟨j - 1, by omega⟩
    refine lv_iload hx hb dX5_first_100 (lv_at hl 7 rfl) ?_
    refine z_if_eq (tgt := 132) hx hb dX5_first_102 (by decide) (by omega) (fun c_102 => ?_) (fun c_102 => ?_)
    · skip
      have d5 : slI (f2 0) (f6 0) p ≠ 8 := by omega
      refine lv_iload hx hb dX5_first_132 (lv_at hl 8 rfl) ?_
      refine lv_bipush (v := zI 8) hx hb dX5_first_134 (by decide) ?_
      refine z_icmp_ne (tgt := 143) hx hb dX5_first_136 (by decide) (by omega) (fun c_136 => ?_) (fun c_136 => ?_)
      · skip
        refine lv_iconst (v := zI 0) hx hb dX5_first_143 rfl ?_
        refine lv_istore (lv' := [(9, .int (zI 0)), (0, .ref o0), (1, .int (zI g)), (2, .int (zI (f6 0))), (3, .int (zI (f6 (21 * (1 + g) + 0)))), (4, .int (zI s.1)), (5, .int (zI s.2)), (6, .int (zI p)), (7, .int (zI a)), (8, .int (zI k))]) hx hb dX5_first_144 hl (by decide) rfl (fun ls hl => ?_)
        refine lv_aload_n hx hb dX5_first_146 rfl (lv_at hl 1 rfl) ?_
        refine lv_iload_n hx hb dX5_first_147 rfl (lv_at hl 3 rfl) ?_
        refine lv_iload hx hb dX5_first_148 (lv_at hl 7 rfl) ?_
        refine lv_iload hx hb dX5_first_150 (lv_at hl 9 rfl) ?_
        refine pc_V (As := [.int (zI (f6 0)), .int (zI p), .int (zI k)]) (rest := []) M (c_X5_with l D cB cI cZ cM _ o0 o1 o2 o3 o4 o5 o6 o7 o8 o9 oz tr td g1 g2 g3 g4 g5 g6 S.2.1 f2 (f6 0) p k (by first | assumption | omega) (by first | assumption | omega) (by first | assumption | omega)) gX5_first_X5_with rfl ⟨rfl, hd_X5_with⟩ ⟨Nat.le_of_ble_eq_true rfl, Nat.le_of_ble_eq_true rfl⟩ hK hP [0, 1] rfl 0 5 rfl rfl rfl hl.1 rfl rfl (Nat.le_of_ble_eq_true rfl) dX5_first_152 ⟨Nat.le_of_ble_eq_true rfl, Nat.le_of_ble_eq_true rfl⟩ (fun r_152 h_152 => ?_)
        subst h_152
        have hwt := wtI_rng (k := k) hPm.2 hhm (by omega : 0 ≤ p ∧ p < f2 0) (by omega)
        have hz5 := hr21.2.2 (wtI (f2 0) (f6 0) p k) hwt.1 (by omega)
        refine lv_istore (lv' := [(10, .int (zI (wtI (f2 0) (f6 0) p k))), (9, .int (zI 0)), (0, .ref o0), (1, .int (zI g)), (2, .int (zI (f6 0))), (3, .int (zI (f6 (21 * (1 + g) + 0)))), (4, .int (zI s.1)), (5, .int (zI s.2)), (6, .int (zI p)), (7, .int (zI a)), (8, .int (zI k))]) hx hb dX5_first_155 hl (by decide) rfl (fun ls hl => ?_)
        refine lv_iload hx hb dX5_first_157 (lv_at hl 1 rfl) ?_
        refine z_if_eq (tgt := 202) hx hb dX5_first_159 (by decide) (by omega) (fun c_159 => ?_) (fun c_159 => ?_)
        · skip
          have hno : ¬ moM (f2 0) (f6 0) p k := fun q => c_136 ((moM_s d5).mp q)
          refine z_iinc (a := k) (k := 10) (lv' := [(8, .int (zI (k + 1))), (10, .int (zI (wtI (f2 0) (f6 0) p k))), (9, .int (zI 0)), (0, .ref o0), (1, .int (zI g)), (2, .int (zI (f6 0))), (3, .int (zI (f6 (21 * (1 + g) + 0)))), (4, .int (zI s.1)), (5, .int (zI s.2)), (6, .int (zI p)), (7, .int (zI a))]) hx hb dX5_first_202 hl rfl (by decide) rfl (fun ls hl => ?_)
          refine lv_goto (tgt := 93) hx hb dX5_first_205 (by decide) ?_
          exact ih j (k + 1) p s n1 a S (by omega) (by assumption) (by assumption) (by omega) (by omega) (by assumption) (by assumption) (by assumption) (by assumption) (by rw [← hv, fkM, if_neg (fun q => hno q.1.1)]) k_60 _ _ hP hD hS _ (lv_sub hl [3, 4, 5, 6, 7, 8, 9, 10, 0] rfl)
        exfalso; omega
      refine lv_iconst (v := zI 1) hx hb dX5_first_139 rfl ?_
      refine lv_goto (tgt := 144) hx hb dX5_first_140 (by decide) ?_
      refine lv_istore (lv' := [(9, .int (zI 1)), (0, .ref o0), (1, .int (zI g)), (2, .int (zI (f6 0))), (3, .int (zI (f6 (21 * (1 + g) + 0)))), (4, .int (zI s.1)), (5, .int (zI s.2)), (6, .int (zI p)), (7, .int (zI a)), (8, .int (zI k))]) hx hb dX5_first_144 hl (by decide) rfl (fun ls hl => ?_)
      refine lv_aload_n hx hb dX5_first_146 rfl (lv_at hl 1 rfl) ?_
      refine lv_iload_n hx hb dX5_first_147 rfl (lv_at hl 3 rfl) ?_
      refine lv_iload hx hb dX5_first_148 (lv_at hl 7 rfl) ?_
      refine lv_iload hx hb dX5_first_150 (lv_at hl 9 rfl) ?_
      refine pc_V (As := [.int (zI (f6 0)), .int (zI p), .int (zI k)]) (rest := []) M (c_X5_with l D cB cI cZ cM _ o0 o1 o2 o3 o4 o5 o6 o7 o8 o9 oz tr td g1 g2 g3 g4 g5 g6 S.2.1 f2 (f6 0) p k (by first | assumption | omega) (by first | assumption | omega) (by first | assumption | omega)) gX5_first_X5_with rfl ⟨rfl, hd_X5_with⟩ ⟨Nat.le_of_ble_eq_true rfl, Nat.le_of_ble_eq_true rfl⟩ hK hP [0, 1] rfl 0 5 rfl rfl rfl hl.1 rfl rfl (Nat.le_of_ble_eq_true rfl) dX5_first_152 ⟨Nat.le_of_ble_eq_true rfl, Nat.le_of_ble_eq_true rfl⟩ (fun r_152 h_152 => ?_)
      subst h_152
      have hwt := wtI_rng (k := k) hPm.2 hhm (by omega : 0 ≤ p ∧ p < f2 0) (by omega)
      have hz5 := hr21.2.2 (wtI (f2 0) (f6 0) p k) hwt.1 (by omega)
      refine lv_istore (lv' := [(10, .int (zI (wtI (f2 0) (f6 0) p k))), (9, .int (zI 1)), (0, .ref o0), (1, .int (zI g)), (2, .int (zI (f6 0))), (3, .int (zI (f6 (21 * (1 + g) + 0)))), (4, .int (zI s.1)), (5, .int (zI s.2)), (6, .int (zI p)), (7, .int (zI a)), (8, .int (zI k))]) hx hb dX5_first_155 hl (by decide) rfl (fun ls hl => ?_)
      refine lv_iload hx hb dX5_first_157 (lv_at hl 1 rfl) ?_
      refine z_if_eq (tgt := 202) hx hb dX5_first_159 (by decide) (by omega) (fun c_159 => ?_) (fun c_159 => ?_)
      · skip
        exfalso; omega
      have hyes : moM (f2 0) (f6 0) p k := (moM_s d5).mpr c_136
      refine lv_aload_n hx hb dX5_first_162 rfl (lv_at hl 2 rfl) ?_
      refine lv_iload hx hb dX5_first_163 (lv_at hl 0 rfl) ?_
      refine pc_V (As := [.int (zI (wtI (f2 0) (f6 0) p k))]) (rest := []) M (c_X5_isLawful l D cB cI cZ cM _ o0 o1 o2 o3 o4 o5 o6 o7 o8 o9 oz tr td g1 g2 g3 g4 g5 g6 S.2.1 f2 f3 f5 (wtI (f2 0) (f6 0) p k) (by first | assumption | omega) (by first | assumption | omega) (by first | assumption | omega) (hwt) (by first | assumption | omega) (by first | assumption | omega)) gX5_first_X5_isLawful rfl ⟨rfl, hd_X5_isLawful⟩ ⟨Nat.le_of_ble_eq_true rfl, Nat.le_of_ble_eq_true rfl⟩ hK hP [0, 1, 2, 3] rfl 0 5 rfl rfl rfl hl.1 rfl rfl (Nat.le_of_ble_eq_true rfl) dX5_first_165 ⟨Nat.le_of_ble_eq_true rfl, Nat.le_of_ble_eq_true rfl⟩ (fun r_165 h_165 => ?_)
      subst h_165
      refine z_if_eq (tgt := 202) hx hb dX5_first_168 (by decide) (zb_bd _) (fun c_168 => ?_) (fun c_168 => ?_)
      · skip
        have c_168 := zb_f c_168
        refine z_iinc (a := k) (k := 10) (lv' := [(8, .int (zI (k + 1))), (10, .int (zI (wtI (f2 0) (f6 0) p k))), (9, .int (zI 1)), (0, .ref o0), (1, .int (zI g)), (2, .int (zI (f6 0))), (3, .int (zI (f6 (21 * (1 + g) + 0)))), (4, .int (zI s.1)), (5, .int (zI s.2)), (6, .int (zI p)), (7, .int (zI a))]) hx hb dX5_first_202 hl rfl (by decide) rfl (fun ls hl => ?_)
        refine lv_goto (tgt := 93) hx hb dX5_first_205 (by decide) ?_
        exact ih j (k + 1) p s n1 a S (by omega) (by assumption) (by assumption) (by omega) (by omega) (by assumption) (by assumption) (by assumption) (by assumption) (by rw [← hv, fkM, if_neg (fun q => c_168 q.1.2)]) k_60 _ _ hP hD hS _ (lv_sub hl [3, 4, 5, 6, 7, 8, 9, 10, 0] rfl)
      have c_168 := zb_t c_168
      refine lv_aload_n hx hb dX5_first_171 rfl (lv_at hl 2 rfl) ?_
      refine va_get (D := D) (ci := 5) (C := RX5) (T := TX5) (N := 19) hx hb hts inc_X5_first_5 hown hK hP 0 rfl rfl 15 (by decide) (hts (.fieldLink RX5 33 "BedHouseModel" "off" "[I") (by decide +kernel)) (fun _ h9 => h9) rfl dX5_first_172 ?_
      refine lv_iload hx hb dX5_first_175 (lv_at hl 0 rfl) ?_
      refine z_iald hx hb hK hP 6 1 rfl rfl (Nat.le_of_ble_eq_true rfl) dX5_first_177 (by omega) ?_
      refine lv_iload hx hb dX5_first_178 (lv_at hl 7 rfl) ?_
      refine z_icmp_ge (tgt := 202) hx hb dX5_first_180 (by decide) (by omega) (fun c_180 => ?_) (fun c_180 => ?_)
      · skip
        refine z_iinc (a := k) (k := 10) (lv' := [(8, .int (zI (k + 1))), (10, .int (zI (wtI (f2 0) (f6 0) p k))), (9, .int (zI 1)), (0, .ref o0), (1, .int (zI g)), (2, .int (zI (f6 0))), (3, .int (zI (f6 (21 * (1 + g) + 0)))), (4, .int (zI s.1)), (5, .int (zI s.2)), (6, .int (zI p)), (7, .int (zI a))]) hx hb dX5_first_202 hl rfl (by decide) rfl (fun ls hl => ?_)
        refine lv_goto (tgt := 93) hx hb dX5_first_205 (by decide) ?_
        exact ih j (k + 1) p s n1 a S (by omega) (by assumption) (by assumption) (by omega) (by omega) (by assumption) (by assumption) (by assumption) (by assumption) (by rw [← hv, fkM, if_neg (fun q => absurd q.2 (by omega))]) k_60 _ _ hP hD hS _ (lv_sub hl [3, 4, 5, 6, 7, 8, 9, 10, 0] rfl)
      refine lv_bipush (v := zI 10) hx hb dX5_first_183 (by decide) ?_
      refine lv_iload hx hb dX5_first_185 (lv_at hl 8 rfl) ?_
      refine z_imul hx hb dX5_first_187 ?_
      refine lv_iload hx hb dX5_first_188 (lv_at hl 10 rfl) ?_
      refine z_iadd hx hb dX5_first_190 ?_
      refine lv_istore (lv' := [(4, .int (zI ((10 * p) + k))), (10, .int (zI (wtI (f2 0) (f6 0) p k))), (9, .int (zI 1)), (0, .ref o0), (1, .int (zI g)), (2, .int (zI (f6 0))), (3, .int (zI (f6 (21 * (1 + g) + 0)))), (5, .int (zI s.2)), (6, .int (zI p)), (7, .int (zI a)), (8, .int (zI k))]) hx hb dX5_first_191 hl (by decide) rfl (fun ls hl => ?_)
      refine lv_aload_n hx hb dX5_first_193 rfl (lv_at hl 3 rfl) ?_
      refine va_get (D := D) (ci := 5) (C := RX5) (T := TX5) (N := 19) hx hb hts inc_X5_first_5 hown hK hP 0 rfl rfl 15 (by decide) (hts (.fieldLink RX5 33 "BedHouseModel" "off" "[I") (by decide +kernel)) (fun _ h9 => h9) rfl dX5_first_194 ?_
      refine lv_iload hx hb dX5_first_197 (lv_at hl 1 rfl) ?_
      refine z_iald hx hb hK hP 6 1 rfl rfl (Nat.le_of_ble_eq_true rfl) dX5_first_199 (by omega) ?_
      refine lv_istore (lv' := [(5, .int (zI (S.2.2 (wtI (f2 0) (f6 0) p k)))), (4, .int (zI ((10 * p) + k))), (10, .int (zI (wtI (f2 0) (f6 0) p k))), (9, .int (zI 1)), (0, .ref o0), (1, .int (zI g)), (2, .int (zI (f6 0))), (3, .int (zI (f6 (21 * (1 + g) + 0)))), (6, .int (zI p)), (7, .int (zI a)), (8, .int (zI k))]) hx hb dX5_first_200 hl (by decide) rfl (fun ls hl => ?_)
      refine z_iinc (a := k) (k := 10) (lv' := [(8, .int (zI (k + 1))), (5, .int (zI (S.2.2 (wtI (f2 0) (f6 0) p k)))), (4, .int (zI ((10 * p) + k))), (10, .int (zI (wtI (f2 0) (f6 0) p k))), (9, .int (zI 1)), (0, .ref o0), (1, .int (zI g)), (2, .int (zI (f6 0))), (3, .int (zI (f6 (21 * (1 + g) + 0)))), (6, .int (zI p)), (7, .int (zI a))]) hx hb dX5_first_202 hl rfl (by decide) rfl (fun ls hl => ?_)
      refine lv_goto (tgt := 93) hx hb dX5_first_205 (by decide) ?_
      exact ih j (k + 1) p (10 * p + k, S.2.2 (wtI (f2 0) (f6 0) p k)) n1 a S (by omega) (by assumption) (by assumption) (by omega) (by omega) (by assumption) (by dsimp only; omega) (by assumption) (by assumption) (by rw [← hv, fkM, if_pos (And.intro (And.intro hyes (show lwM f2 f3 f5 (wtI (f2 0) (f6 0) p k) = true from c_168)) c_180)]) k_60 _ _ hP hD hS _ (lv_sub hl [5, 6, 7, 8, 2, 1, 9, 10, 0] rfl)
    have d5 : slI (f2 0) (f6 0) p = 8 := by omega
    refine lv_iload hx hb dX5_first_105 (lv_at hl 8 rfl) ?_
    refine lv_bipush (v := zI 8) hx hb dX5_first_107 (by decide) ?_
    refine z_icmp_ge (tgt := 128) hx hb dX5_first_109 (by decide) (by omega) (fun c_109 => ?_) (fun c_109 => ?_)
    · skip
      refine lv_iconst (v := zI 0) hx hb dX5_first_128 rfl ?_
      refine lv_goto (tgt := 144) hx hb dX5_first_129 (by decide) ?_
      refine lv_istore (lv' := [(9, .int (zI 0)), (0, .ref o0), (1, .int (zI g)), (2, .int (zI (f6 0))), (3, .int (zI (f6 (21 * (1 + g) + 0)))), (4, .int (zI s.1)), (5, .int (zI s.2)), (6, .int (zI p)), (7, .int (zI a)), (8, .int (zI k))]) hx hb dX5_first_144 hl (by decide) rfl (fun ls hl => ?_)
      refine lv_aload_n hx hb dX5_first_146 rfl (lv_at hl 1 rfl) ?_
      refine lv_iload_n hx hb dX5_first_147 rfl (lv_at hl 3 rfl) ?_
      refine lv_iload hx hb dX5_first_148 (lv_at hl 7 rfl) ?_
      refine lv_iload hx hb dX5_first_150 (lv_at hl 9 rfl) ?_
      refine pc_V (As := [.int (zI (f6 0)), .int (zI p), .int (zI k)]) (rest := []) M (c_X5_with l D cB cI cZ cM _ o0 o1 o2 o3 o4 o5 o6 o7 o8 o9 oz tr td g1 g2 g3 g4 g5 g6 S.2.1 f2 (f6 0) p k (by first | assumption | omega) (by first | assumption | omega) (by first | assumption | omega)) gX5_first_X5_with rfl ⟨rfl, hd_X5_with⟩ ⟨Nat.le_of_ble_eq_true rfl, Nat.le_of_ble_eq_true rfl⟩ hK hP [0, 1] rfl 0 5 rfl rfl rfl hl.1 rfl rfl (Nat.le_of_ble_eq_true rfl) dX5_first_152 ⟨Nat.le_of_ble_eq_true rfl, Nat.le_of_ble_eq_true rfl⟩ (fun r_152 h_152 => ?_)
      subst h_152
      have hwt := wtI_rng (k := k) hPm.2 hhm (by omega : 0 ≤ p ∧ p < f2 0) (by omega)
      have hz5 := hr21.2.2 (wtI (f2 0) (f6 0) p k) hwt.1 (by omega)
      refine lv_istore (lv' := [(10, .int (zI (wtI (f2 0) (f6 0) p k))), (9, .int (zI 0)), (0, .ref o0), (1, .int (zI g)), (2, .int (zI (f6 0))), (3, .int (zI (f6 (21 * (1 + g) + 0)))), (4, .int (zI s.1)), (5, .int (zI s.2)), (6, .int (zI p)), (7, .int (zI a)), (8, .int (zI k))]) hx hb dX5_first_155 hl (by decide) rfl (fun ls hl => ?_)
      refine lv_iload hx hb dX5_first_157 (lv_at hl 1 rfl) ?_
      refine z_if_eq (tgt := 202) hx hb dX5_first_159 (by decide) (by omega) (fun c_159 => ?_) (fun c_159 => ?_)
      · skip
        have hno : ¬ moM (f2 0) (f6 0) p k := fun q => absurd ((moM_l d5).mp q).1 (by omega)
        refine z_iinc (a := k) (k := 10) (lv' := [(8, .int (zI (k + 1))), (10, .int (zI (wtI (f2 0) (f6 0) p k))), (9, .int (zI 0)), (0, .ref o0), (1, .int (zI g)), (2, .int (zI (f6 0))), (3, .int (zI (f6 (21 * (1 + g) + 0)))), (4, .int (zI s.1)), (5, .int (zI s.2)), (6, .int (zI p)), (7, .int (zI a))]) hx hb dX5_first_202 hl rfl (by decide) rfl (fun ls hl => ?_)
        refine lv_goto (tgt := 93) hx hb dX5_first_205 (by decide) ?_
        exact ih j (k + 1) p s n1 a S (by omega) (by assumption) (by assumption) (by omega) (by omega) (by assumption) (by assumption) (by assumption) (by assumption) (by rw [← hv, fkM, if_neg (fun q => hno q.1.1)]) k_60 _ _ hP hD hS _ (lv_sub hl [3, 4, 5, 6, 7, 8, 9, 10, 0] rfl)
      exfalso; omega
    refine lv_aload_n hx hb dX5_first_112 rfl (lv_at hl 0 rfl) ?_
    refine lv_iload_n hx hb dX5_first_113 rfl (lv_at hl 2 rfl) ?_
    refine lv_iload hx hb dX5_first_114 (lv_at hl 8 rfl) ?_
    refine pc_V (As := [.int (zI (f6 0)), .int (zI k)]) (rest := []) M (c_X5_panelAt l D cB cI cZ cM _ o0 o1 o2 o3 o4 o5 o6 o7 o8 o9 oz tr td g1 g2 g3 g4 g5 g6 S.2.1 f2 (f6 0) k (by first | assumption | omega) (by first | assumption | omega) (by first | assumption | omega)) gX5_first_X5_panelAt rfl ⟨rfl, hd_X5_panelAt⟩ ⟨Nat.le_of_ble_eq_true rfl, Nat.le_of_ble_eq_true rfl⟩ hK hP [0, 1] rfl 0 5 rfl rfl rfl hl.1 rfl rfl (Nat.le_of_ble_eq_true rfl) dX5_first_116 ⟨Nat.le_of_ble_eq_true rfl, Nat.le_of_ble_eq_true rfl⟩ (fun r_116 h_116 => ?_)
    subst h_116
    have hpf := patF_rng (slI (f2 0) (f6 0)) k (f2 0).toNat 0 (by omega)
    refine lv_bipush (v := zI (-9)) hx hb dX5_first_119 (by decide) ?_
    refine z_icmp_ne (tgt := 128) hx hb dX5_first_121 (by decide) (by omega) (fun c_121 => ?_) (fun c_121 => ?_)
    · skip
      refine lv_iconst (v := zI 0) hx hb dX5_first_128 rfl ?_
      refine lv_goto (tgt := 144) hx hb dX5_first_129 (by decide) ?_
      refine lv_istore (lv' := [(9, .int (zI 0)), (0, .ref o0), (1, .int (zI g)), (2, .int (zI (f6 0))), (3, .int (zI (f6 (21 * (1 + g) + 0)))), (4, .int (zI s.1)), (5, .int (zI s.2)), (6, .int (zI p)), (7, .int (zI a)), (8, .int (zI k))]) hx hb dX5_first_144 hl (by decide) rfl (fun ls hl => ?_)
      refine lv_aload_n hx hb dX5_first_146 rfl (lv_at hl 1 rfl) ?_
      refine lv_iload_n hx hb dX5_first_147 rfl (lv_at hl 3 rfl) ?_
      refine lv_iload hx hb dX5_first_148 (lv_at hl 7 rfl) ?_
      refine lv_iload hx hb dX5_first_150 (lv_at hl 9 rfl) ?_
      refine pc_V (As := [.int (zI (f6 0)), .int (zI p), .int (zI k)]) (rest := []) M (c_X5_with l D cB cI cZ cM _ o0 o1 o2 o3 o4 o5 o6 o7 o8 o9 oz tr td g1 g2 g3 g4 g5 g6 S.2.1 f2 (f6 0) p k (by first | assumption | omega) (by first | assumption | omega) (by first | assumption | omega)) gX5_first_X5_with rfl ⟨rfl, hd_X5_with⟩ ⟨Nat.le_of_ble_eq_true rfl, Nat.le_of_ble_eq_true rfl⟩ hK hP [0, 1] rfl 0 5 rfl rfl rfl hl.1 rfl rfl (Nat.le_of_ble_eq_true rfl) dX5_first_152 ⟨Nat.le_of_ble_eq_true rfl, Nat.le_of_ble_eq_true rfl⟩ (fun r_152 h_152 => ?_)
      subst h_152
      have hwt := wtI_rng (k := k) hPm.2 hhm (by omega : 0 ≤ p ∧ p < f2 0) (by omega)
      have hz5 := hr21.2.2 (wtI (f2 0) (f6 0) p k) hwt.1 (by omega)
      refine lv_istore (lv' := [(10, .int (zI (wtI (f2 0) (f6 0) p k))), (9, .int (zI 0)), (0, .ref o0), (1, .int (zI g)), (2, .int (zI (f6 0))), (3, .int (zI (f6 (21 * (1 + g) + 0)))), (4, .int (zI s.1)), (5, .int (zI s.2)), (6, .int (zI p)), (7, .int (zI a)), (8, .int (zI k))]) hx hb dX5_first_155 hl (by decide) rfl (fun ls hl => ?_)
      refine lv_iload hx hb dX5_first_157 (lv_at hl 1 rfl) ?_
      refine z_if_eq (tgt := 202) hx hb dX5_first_159 (by decide) (by omega) (fun c_159 => ?_) (fun c_159 => ?_)
      · skip
        have hno : ¬ moM (f2 0) (f6 0) p k := fun q => c_121 ((moM_l d5).mp q).2
        refine z_iinc (a := k) (k := 10) (lv' := [(8, .int (zI (k + 1))), (10, .int (zI (wtI (f2 0) (f6 0) p k))), (9, .int (zI 0)), (0, .ref o0), (1, .int (zI g)), (2, .int (zI (f6 0))), (3, .int (zI (f6 (21 * (1 + g) + 0)))), (4, .int (zI s.1)), (5, .int (zI s.2)), (6, .int (zI p)), (7, .int (zI a))]) hx hb dX5_first_202 hl rfl (by decide) rfl (fun ls hl => ?_)
        refine lv_goto (tgt := 93) hx hb dX5_first_205 (by decide) ?_
        exact ih j (k + 1) p s n1 a S (by omega) (by assumption) (by assumption) (by omega) (by omega) (by assumption) (by assumption) (by assumption) (by assumption) (by rw [← hv, fkM, if_neg (fun q => hno q.1.1)]) k_60 _ _ hP hD hS _ (lv_sub hl [3, 4, 5, 6, 7, 8, 9, 10, 0] rfl)
      exfalso; omega
    refine lv_iconst (v := zI 1) hx hb dX5_first_124 rfl ?_
    refine lv_goto (tgt := 144) hx hb dX5_first_125 (by decide) ?_
    refine lv_istore (lv' := [(9, .int (zI 1)), (0, .ref o0), (1, .int (zI g)), (2, .int (zI (f6 0))), (3, .int (zI (f6 (21 * (1 + g) + 0)))), (4, .int (zI s.1)), (5, .int (zI s.2)), (6, .int (zI p)), (7, .int (zI a)), (8, .int (zI k))]) hx hb dX5_first_144 hl (by decide) rfl (fun ls hl => ?_)
    refine lv_aload_n hx hb dX5_first_146 rfl (lv_at hl 1 rfl) ?_
    refine lv_iload_n hx hb dX5_first_147 rfl (lv_at hl 3 rfl) ?_
    refine lv_iload hx hb dX5_first_148 (lv_at hl 7 rfl) ?_
    refine lv_iload hx hb dX5_first_150 (lv_at hl 9 rfl) ?_
    refine pc_V (As := [.int (zI (f6 0)), .int (zI p), .int (zI k)]) (rest := []) M (c_X5_with l D cB cI cZ cM _ o0 o1 o2 o3 o4 o5 o6 o7 o8 o9 oz tr td g1 g2 g3 g4 g5 g6 S.2.1 f2 (f6 0) p k (by first | assumption | omega) (by first | assumption | omega) (by first | assumption | omega)) gX5_first_X5_with rfl ⟨rfl, hd_X5_with⟩ ⟨Nat.le_of_ble_eq_true rfl, Nat.le_of_ble_eq_true rfl⟩ hK hP [0, 1] rfl 0 5 rfl rfl rfl hl.1 rfl rfl (Nat.le_of_ble_eq_true rfl) dX5_first_152 ⟨Nat.le_of_ble_eq_true rfl, Nat.le_of_ble_eq_true rfl⟩ (fun r_152 h_152 => ?_)
    subst h_152
    have hwt := wtI_rng (k := k) hPm.2 hhm (by omega : 0 ≤ p ∧ p < f2 0) (by omega)
    have hz5 := hr21.2.2 (wtI (f2 0) (f6 0) p k) hwt.1 (by omega)
    refine lv_istore (lv' := [(10, .int (zI (wtI (f2 0) (f6 0) p k))), (9, .int (zI 1)), (0, .ref o0), (1, .int (zI g)), (2, .int (zI (f6 0))), (3, .int (zI (f6 (21 * (1 + g) + 0)))), (4, .int (zI s.1)), (5, .int (zI s.2)), (6, .int (zI p)), (7, .int (zI a)), (8, .int (zI k))]) hx hb dX5_first_155 hl (by decide) rfl (fun ls hl => ?_)
    refine lv_iload hx hb dX5_first_157 (lv_at hl 1 rfl) ?_
    refine z_if_eq (tgt := 202) hx hb dX5_first_159 (by decide) (by omega) (fun c_159 => ?_) (fun c_159 => ?_)
    · skip
      exfalso; omega
    have hyes : moM (f2 0) (f6 0) p k := (moM_l d5).mpr (And.intro c_109 c_121)
    refine lv_aload_n hx hb dX5_first_162 rfl (lv_at hl 2 rfl) ?_
    refine lv_iload hx hb dX5_first_163 (lv_at hl 0 rfl) ?_
    refine pc_V (As := [.int (zI (wtI (f2 0) (f6 0) p k))]) (rest := []) M (c_X5_isLawful l D cB cI cZ cM _ o0 o1 o2 o3 o4 o5 o6 o7 o8 o9 oz tr td g1 g2 g3 g4 g5 g6 S.2.1 f2 f3 f5 (wtI (f2 0) (f6 0) p k) (by first | assumption | omega) (by first | assumption | omega) (by first | assumption | omega) (hwt) (by first | assumption | omega) (by first | assumption | omega)) gX5_first_X5_isLawful rfl ⟨rfl, hd_X5_isLawful⟩ ⟨Nat.le_of_ble_eq_true rfl, Nat.le_of_ble_eq_true rfl⟩ hK hP [0, 1, 2, 3] rfl 0 5 rfl rfl rfl hl.1 rfl rfl (Nat.le_of_ble_eq_true rfl) dX5_first_165 ⟨Nat.le_of_ble_eq_true rfl, Nat.le_of_ble_eq_true rfl⟩ (fun r_165 h_165 => ?_)
    subst h_165
    refine z_if_eq (tgt := 202) hx hb dX5_first_168 (by decide) (zb_bd _) (fun c_168 => ?_) (fun c_168 => ?_)
    · skip
      have c_168 := zb_f c_168
      refine z_iinc (a := k) (k := 10) (lv' := [(8, .int (zI (k + 1))), (10, .int (zI (wtI (f2 0) (f6 0) p k))), (9, .int (zI 1)), (0, .ref o0), (1, .int (zI g)), (2, .int (zI (f6 0))), (3, .int (zI (f6 (21 * (1 + g) + 0)))), (4, .int (zI s.1)), (5, .int (zI s.2)), (6, .int (zI p)), (7, .int (zI a))]) hx hb dX5_first_202 hl rfl (by decide) rfl (fun ls hl => ?_)
      refine lv_goto (tgt := 93) hx hb dX5_first_205 (by decide) ?_
      exact ih j (k + 1) p s n1 a S (by omega) (by assumption) (by assumption) (by omega) (by omega) (by assumption) (by assumption) (by assumption) (by assumption) (by rw [← hv, fkM, if_neg (fun q => c_168 q.1.2)]) k_60 _ _ hP hD hS _ (lv_sub hl [3, 4, 5, 6, 7, 8, 9, 10, 0] rfl)
    have c_168 := zb_t c_168
    refine lv_aload_n hx hb dX5_first_171 rfl (lv_at hl 2 rfl) ?_
    refine va_get (D := D) (ci := 5) (C := RX5) (T := TX5) (N := 19) hx hb hts inc_X5_first_5 hown hK hP 0 rfl rfl 15 (by decide) (hts (.fieldLink RX5 33 "BedHouseModel" "off" "[I") (by decide +kernel)) (fun _ h9 => h9) rfl dX5_first_172 ?_
    refine lv_iload hx hb dX5_first_175 (lv_at hl 0 rfl) ?_
    refine z_iald hx hb hK hP 6 1 rfl rfl (Nat.le_of_ble_eq_true rfl) dX5_first_177 (by omega) ?_
    refine lv_iload hx hb dX5_first_178 (lv_at hl 7 rfl) ?_
    refine z_icmp_ge (tgt := 202) hx hb dX5_first_180 (by decide) (by omega) (fun c_180 => ?_) (fun c_180 => ?_)
    · skip
      refine z_iinc (a := k) (k := 10) (lv' := [(8, .int (zI (k + 1))), (10, .int (zI (wtI (f2 0) (f6 0) p k))), (9, .int (zI 1)), (0, .ref o0), (1, .int (zI g)), (2, .int (zI (f6 0))), (3, .int (zI (f6 (21 * (1 + g) + 0)))), (4, .int (zI s.1)), (5, .int (zI s.2)), (6, .int (zI p)), (7, .int (zI a))]) hx hb dX5_first_202 hl rfl (by decide) rfl (fun ls hl => ?_)
      refine lv_goto (tgt := 93) hx hb dX5_first_205 (by decide) ?_
      exact ih j (k + 1) p s n1 a S (by omega) (by assumption) (by assumption) (by omega) (by omega) (by assumption) (by assumption) (by assumption) (by assumption) (by rw [← hv, fkM, if_neg (fun q => absurd q.2 (by omega))]) k_60 _ _ hP hD hS _ (lv_sub hl [3, 4, 5, 6, 7, 8, 9, 10, 0] rfl)
    refine lv_bipush (v := zI 10) hx hb dX5_first_183 (by decide) ?_
    refine lv_iload hx hb dX5_first_185 (lv_at hl 8 rfl) ?_
    refine z_imul hx hb dX5_first_187 ?_
    refine lv_iload hx hb dX5_first_188 (lv_at hl 10 rfl) ?_
    refine z_iadd hx hb dX5_first_190 ?_
    refine lv_istore (lv' := [(4, .int (zI ((10 * p) + k))), (10, .int (zI (wtI (f2 0) (f6 0) p k))), (9, .int (zI 1)), (0, .ref o0), (1, .int (zI g)), (2, .int (zI (f6 0))), (3, .int (zI (f6 (21 * (1 + g) + 0)))), (5, .int (zI s.2)), (6, .int (zI p)), (7, .int (zI a)), (8, .int (zI k))]) hx hb dX5_first_191 hl (by decide) rfl (fun ls hl => ?_)
    refine lv_aload_n hx hb dX5_first_193 rfl (lv_at hl 3 rfl) ?_
    refine va_get (D := D) (ci := 5) (C := RX5) (T := TX5) (N := 19) hx hb hts inc_X5_first_5 hown hK hP 0 rfl rfl 15 (by decide) (hts (.fieldLink RX5 33 "BedHouseModel" "off" "[I") (by decide +kernel)) (fun _ h9 => h9) rfl dX5_first_194 ?_
    refine lv_iload hx hb dX5_first_197 (lv_at hl 1 rfl) ?_
    refine z_iald hx hb hK hP 6 1 rfl rfl (Nat.le_of_ble_eq_true rfl) dX5_first_199 (by omega) ?_
    refine lv_istore (lv' := [(5, .int (zI (S.2.2 (wtI (f2 0) (f6 0) p k)))), (4, .int (zI ((10 * p) + k))), (10, .int (zI (wtI (f2 0) (f6 0) p k))), (9, .int (zI 1)), (0, .ref o0), (1, .int (zI g)), (2, .int (zI (f6 0))), (3, .int (zI (f6 (21 * (1 + g) + 0)))), (6, .int (zI p)), (7, .int (zI a)), (8, .int (zI k))]) hx hb dX5_first_200 hl (by decide) rfl (fun ls hl => ?_)
    refine z_iinc (a := k) (k := 10) (lv' := [(8, .int (zI (k + 1))), (5, .int (zI (S.2.2 (wtI (f2 0) (f6 0) p k)))), (4, .int (zI ((10 * p) + k))), (10, .int (zI (wtI (f2 0) (f6 0) p k))), (9, .int (zI 1)), (0, .ref o0), (1, .int (zI g)), (2, .int (zI (f6 0))), (3, .int (zI (f6 (21 * (1 + g) + 0)))), (6, .int (zI p)), (7, .int (zI a))]) hx hb dX5_first_202 hl rfl (by decide) rfl (fun ls hl => ?_)
    refine lv_goto (tgt := 93) hx hb dX5_first_205 (by decide) ?_
    exact ih j (k + 1) p (10 * p + k, S.2.2 (wtI (f2 0) (f6 0) p k)) n1 a S (by omega) (by assumption) (by assumption) (by omega) (by omega) (by assumption) (by dsimp only; omega) (by assumption) (by assumption) (by rw [← hv, fkM, if_pos (And.intro (And.intro hyes (show lwM f2 f3 f5 (wtI (f2 0) (f6 0) p k) = true from c_168)) c_180)]) k_60 _ _ hP hD hS _ (lv_sub hl [5, 6, 7, 8, 2, 1, 9, 10, 0] rfl)
set_option maxHeartbeats 4000000 in
set_option maxRecDepth 100000 in
theorem lp_X5_first_60 (l : Launch) (D : va_G) (cB cI cZ cM : ClassId) (o0 : Nat) (o1 : Nat) (o2 : Nat) (o3 : Nat) (o4 : Nat) (o5 : Nat) (o6 : Nat) (o7 : Nat) (o8 : Nat) (o9 : Nat) (oz : Nat) (tr : Int64) (td : Int) (g1 : Int) (g2 : Int) (g3 : Int) (g4 : Int) (g5 : Int) (g6 : Int) (g7 : Int) (f2 : Int → Int) (f3 : Int → Int) (f5 : Int → Int) (f6 : Int → Int) (f7 : Int → Int) (f8 : Int → Int) (f9 : Int → Int) (g : Int) (hp2 : okR f2 f3 f5) (hn6 : okN f2 f6) (h71 : ∀ i : Int, 0 ≤ i → i < 2 → f7 i = 0 ∨ f7 i = 1) (hki : ∀ g : Int, 0 ≤ g → g ≤ 1 → f7 g ≠ 0 → 0 ≤ f6 (21 * (1 + g) + 0) ∧ f6 (21 * (1 + g) + 0) < pw9 (f2 0)) (hg0 : -2147483648 ≤ g ∧ g < 2147483648) {pg : Program} {ev : Env} {sx : State} {mm : MethodId} {args : Array Value} {below : List Frame} {meth : Method} {cd : Code} (M : MX pg sx mm args meth cd cX5_first 11 (some .int) RX5 wsX5_first) (hK : va_K D vwCl (TYS cB cI cZ cM) sx) {A : Nat → Prop} (hA : ∀ q : Nat, sx.heap.size ≤ q → A q) : ∀ (N : Nat) (n0 : Nat) (p : Int) (s : Int × Int) (S : BQ), (n0 < N) → (0 ≤ g ∧ g ≤ 1) → (reM f7 g = 0) → (0 ≤ p ∧ p + n0 = f2 0) → (S = sgM f2 f3 f5 f9 (f6 (21 * (1 + g) + 0)) 9999) → ((-9 ≤ s.1 ∧ s.1 ≤ 100) ∧ (0 ≤ s.2 ∧ s.2 ≤ 9999)) → (f6 0 ≠ f6 (21 * (1 + g) + 0) ∧ lwM f2 f3 f5 (f6 (21 * (1 + g) + 0)) = true) → (fpM f2 f3 f5 S.2.2 (f6 0) n0 p s = fpM f2 f3 f5 (sgM f2 f3 f5 f9 (f6 (21 * (1 + g) + 0)) 9999).2.2 (f6 0) (f2 0).toNat 0 (-9, 9999)) → ∀ (H : Heap) (locs : List Loc), va_P D vwCl [(o0, .inr (5, [.long tr, .ref o1, .int (zI td), .ref o2, .ref o3, .ref o4, .ref o5, .int (zI g1), .int (zI g2), .int (zI g3), .int (zI g4), .int (zI g5), .int (zI g6), .ref o6, .ref o7, .ref o8, .ref o9, .int (zI S.2.1), .ref oz])), (o2, .inl (cI, 16, .inl (zia f2))), (o3, .inl (cI, 8, .inl (zia f3))), (o5, .inl (cI, 4, .inl (zia f5))), (o6, .inl (cI, 63, .inl (zia f6))), (o7, .inl (cZ, 2, .inl (zia f7))), (o8, .inl (cI, 6561, .inl (zia S.2.2))), (o9, .inl (cI, 6561, .inl (zia S.1)))] H → va_D A [(o0, .inr (5, [.long tr, .ref o1, .int (zI td), .ref o2, .ref o3, .ref o4, .ref o5, .int (zI g1), .int (zI g2), .int (zI g3), .int (zI g4), .int (zI g5), .int (zI g6), .ref o6, .ref o7, .ref o8, .ref o9, .int (zI S.2.1), .ref oz])), (o2, .inl (cI, 16, .inl (zia f2))), (o3, .inl (cI, 8, .inl (zia f3))), (o5, .inl (cI, 4, .inl (zia f5))), (o6, .inl (cI, 63, .inl (zia f6))), (o7, .inl (cZ, 2, .inl (zia f7))), (o8, .inl (cI, 6561, .inl (zia S.2.2))), (o9, .inl (cI, 6561, .inl (zia S.1)))] → va_S A sx.heap H locs → ∀ ls : Array Slot, lv_has ls 11 [(0, .ref o0), (1, .int (zI g)), (2, .int (zI (f6 0))), (3, .int (zI (f6 (21 * (1 + g) + 0)))), (4, .int (zI s.1)), (5, .int (zI s.2)), (6, .int (zI p))] → W pg l ev (rmW 6 0 0 142) sx mm args below meth cd H locs 0 0 (QWi below args sx A D (fun (r : Int32) (u : BQ) => r = zI (if reM f7 g = 0 then (if f6 0 = f6 (21 * (1 + g) + 0) ∨ ¬ lwM f2 f3 f5 (f6 (21 * (1 + g) + 0)) = true then -9 else (fpM f2 f3 f5 (sgM f2 f3 f5 f9 (f6 (21 * (1 + g) + 0)) 9999).2.2 (f6 0) (f2 0).toNat 0 (-9, 9999)).1) else reM f7 g) ∧ (True)) (fun (u : BQ) => [(o0, .inr (5, [.long tr, .ref o1, .int (zI td), .ref o2, .ref o3, .ref o4, .ref o5, .int (zI g1), .int (zI g2), .int (zI g3), .int (zI g4), .int (zI g5), .int (zI g6), .ref o6, .ref o7, .ref o8, .ref o9, .int (zI u.2.1), .ref oz])), (o2, .inl (cI, 16, .inl (zia f2))), (o3, .inl (cI, 8, .inl (zia f3))), (o5, .inl (cI, 4, .inl (zia f5))), (o6, .inl (cI, 63, .inl (zia f6))), (o7, .inl (cZ, 2, .inl (zia f7))), (o8, .inl (cI, 6561, .inl (zia u.2.2))), (o9, .inl (cI, 6561, .inl (zia u.1)))]) 0 0) (F0 mm 60 ls []) := by
  intro N
  induction N with
  | zero => intro n0 p s S hN; exact absurd hN (Nat.not_lt_zero _)
  | succ N ih =>
    intro n0 p s S hN hg1 c5 hp hS5 hs hc9 hv H locs hP hD hS ls hl
    obtain ⟨hx, hb, hr, hml, hown, hts, hlk, hN0⟩ := id M
    obtain ⟨hPm, hB1, hra, hsu, hvw, hno, hdn6, hha7, hso, hbm⟩ := id hp2
    obtain ⟨hhm, hdy, hac, hlk, hmn, hcl⟩ := id hn6
    have h9r := pw9_rng (n := f2 0) (by omega)
    have hki5 := hki g hg1.1 hg1.2 (reM_k c5)
    have hr21 : qkM (f2 0) S := by rw [hS5]; exact sgM_ok hPm hki5
    refine lv_iload hx hb dX5_first_60 (lv_at hl 6 rfl) ?_
    refine lv_aload_n hx hb dX5_first_62 rfl (lv_at hl 0 rfl) ?_
    refine va_get (D := D) (ci := 5) (C := RX5) (T := TX5) (N := 19) hx hb hts inc_X5_first_5 hown hK hP 0 rfl rfl 3 (by decide) (hts (.fieldLink RX5 13 "BedHouseModel" "plan" "[I") (by decide +kernel)) (fun _ h9 => h9) rfl dX5_first_63 ?_
    refine lv_iconst (v := zI 0) hx hb dX5_first_66 rfl ?_
    refine z_iald hx hb hK hP 1 1 rfl rfl (Nat.le_of_ble_eq_true rfl) dX5_first_67 (by omega) ?_
    refine z_icmp_ge (tgt := 214) hx hb dX5_first_68 (by decide) (by omega) (fun c_68 => ?_) (fun c_68 => ?_)
    · skip
      obtain rfl : n0 = 0 := by omega
      refine lv_iload hx hb dX5_first_214 (lv_at hl 4 rfl) ?_
      exact wr_reti M dX5_first_216 (u := S) ⟨(congrArg zI (by rw [if_pos c5, if_neg (fun q => q.elim hc9.1 (fun q => q hc9.2)), ← hv]; rfl)), (by trivial)⟩ hP hD hS
    obtain ⟨n0, rfl⟩ : ∃ x : Nat, n0 = x + 1 := ⟨n0 - 1, by omega⟩
    refine lv_aload_n hx hb dX5_first_71 rfl (lv_at hl 0 rfl) ?_
    refine lv_iload_n hx hb dX5_first_72 rfl (lv_at hl 2 rfl) ?_
    refine lv_iload hx hb dX5_first_73 (lv_at hl 6 rfl) ?_
    refine pc_V (As := [.int (zI (f6 0)), .int (zI p)]) (rest := []) M (c_X5_slotIn l D cB cI cZ cM _ o0 o1 o2 o3 o4 o5 o6 o7 o8 o9 oz tr td g1 g2 g3 g4 g5 g6 S.2.1 f2 (f6 0) p (by first | assumption | omega) (by first | assumption | omega) (by first | assumption | omega)) gX5_first_X5_slotIn rfl ⟨rfl, hd_X5_slotIn⟩ ⟨Nat.le_of_ble_eq_true rfl, Nat.le_of_ble_eq_true rfl⟩ hK hP [0, 1] rfl 0 5 rfl rfl rfl hl.1 rfl rfl (Nat.le_of_ble_eq_true rfl) dX5_first_75 ⟨Nat.le_of_ble_eq_true rfl, Nat.le_of_ble_eq_true rfl⟩ (fun r_75 h_75 => ?_)
    subst h_75
    have hsl := slI_rng (f2 0) p hhm.1
    refine lv_bipush (v := zI 8) hx hb dX5_first_78 (by decide) ?_
    refine z_icmp_ne (tgt := 87) hx hb dX5_first_80 (by decide) (by omega) (fun c_80 => ?_) (fun c_80 => ?_)
    · skip
      refine lv_iconst (v := zI 0) hx hb dX5_first_87 rfl ?_
      refine lv_istore (lv' := [(7, .int (zI 0)), (0, .ref o0), (1, .int (zI g)), (2, .int (zI (f6 0))), (3, .int (zI (f6 (21 * (1 + g) + 0)))), (4, .int (zI s.1)), (5, .int (zI s.2)), (6, .int (zI p))]) hx hb dX5_first_88 hl (by decide) rfl (fun ls hl => ?_)
      refine lv_iconst (v := zI 0) hx hb dX5_first_90 rfl ?_
      refine lv_istore (lv' := [(8, .int (zI 0)), (7, .int (zI 0)), (0, .ref o0), (1, .int (zI g)), (2, .int (zI (f6 0))), (3, .int (zI (f6 (21 * (1 + g) + 0)))), (4, .int (zI s.1)), (5, .int (zI s.2)), (6, .int (zI p))]) hx hb dX5_first_91 hl (by decide) rfl (fun ls hl => ?_)
      exact lp_X5_first_93 l D cB cI cZ cM o0 o1 o2 o3 o4 o5 o6 o7 o8 o9 oz tr td g1 g2 g3 g4 g5 g6 g7 f2 f3 f5 f6 f7 f8 f9 g hp2 hn6 h71 hki hg0 M hK hA (9 + 1) 9 0 p s n0 0 S (Nat.lt_succ_self _) (by assumption) (by assumption) (by omega) (by omega) (by assumption) (by omega) (by exact Or.inr (And.intro rfl c_80)) (by assumption) (by rw [← hv, fpM]) (fun n0 p s S hg hg1 c5 hp hS5 hs hc9 hv H locs hP hD hS ls hl => ih n0 p s S (by omega) hg1 c5 hp hS5 hs hc9 hv H locs hP hD hS ls hl) _ _ hP hD hS _ (lv_sub hl [2, 3, 4, 5, 6, 7, 8, 1, 0] rfl)
    refine lv_iconst (v := zI 1) hx hb dX5_first_83 rfl ?_
    refine lv_goto (tgt := 88) hx hb dX5_first_84 (by decide) ?_
    refine lv_istore (lv' := [(7, .int (zI 1)), (0, .ref o0), (1, .int (zI g)), (2, .int (zI (f6 0))), (3, .int (zI (f6 (21 * (1 + g) + 0)))), (4, .int (zI s.1)), (5, .int (zI s.2)), (6, .int (zI p))]) hx hb dX5_first_88 hl (by decide) rfl (fun ls hl => ?_)
    refine lv_iconst (v := zI 0) hx hb dX5_first_90 rfl ?_
    refine lv_istore (lv' := [(8, .int (zI 0)), (7, .int (zI 1)), (0, .ref o0), (1, .int (zI g)), (2, .int (zI (f6 0))), (3, .int (zI (f6 (21 * (1 + g) + 0)))), (4, .int (zI s.1)), (5, .int (zI s.2)), (6, .int (zI p))]) hx hb dX5_first_91 hl (by decide) rfl (fun ls hl => ?_)
    exact lp_X5_first_93 l D cB cI cZ cM o0 o1 o2 o3 o4 o5 o6 o7 o8 o9 oz tr td g1 g2 g3 g4 g5 g6 g7 f2 f3 f5 f6 f7 f8 f9 g hp2 hn6 h71 hki hg0 M hK hA (9 + 1) 9 0 p s n0 1 S (Nat.lt_succ_self _) (by assumption) (by assumption) (by omega) (by omega) (by assumption) (by omega) (by exact Or.inl (And.intro rfl c_80)) (by assumption) (by rw [← hv, fpM]) (fun n0 p s S hg hg1 c5 hp hS5 hs hc9 hv H locs hP hD hS ls hl => ih n0 p s S (by omega) hg1 c5 hp hS5 hs hc9 hv H locs hP hD hS ls hl) _ _ hP hD hS _ (lv_sub hl [2, 3, 4, 5, 6, 7, 8, 1, 0] rfl)
set_option maxHeartbeats 4000000 in
set_option maxRecDepth 100000 in
theorem c_X5_first (l : Launch) (D : va_G) (cB cI cZ cM : ClassId) (Hp : Heap) (o0 : Nat) (o1 : Nat) (o2 : Nat) (o3 : Nat) (o4 : Nat) (o5 : Nat) (o6 : Nat) (o7 : Nat) (o8 : Nat) (o9 : Nat) (oz : Nat) (tr : Int64) (td : Int) (g1 : Int) (g2 : Int) (g3 : Int) (g4 : Int) (g5 : Int) (g6 : Int) (g7 : Int) (f2 : Int → Int) (f3 : Int → Int) (f5 : Int → Int) (f6 : Int → Int) (f7 : Int → Int) (f8 : Int → Int) (f9 : Int → Int) (g : Int) (hp2 : okR f2 f3 f5) (hn6 : okN f2 f6) (h71 : ∀ i : Int, 0 ≤ i → i < 2 → f7 i = 0 ∨ f7 i = 1) (hki : ∀ g : Int, 0 ≤ g → g ≤ 1 → f7 g ≠ 0 → 0 ≤ f6 (21 * (1 + g) + 0) ∧ f6 (21 * (1 + g) + 0) < pw9 (f2 0)) (hg0 : -2147483648 ≤ g ∧ g < 2147483648) : cWi l yX5_first wsX5_first (rmW 6 0 0 142) D (TYS cB cI cZ cM) [.ref o0, .int (zI g)] [(o0, .inr (5, [.long tr, .ref o1, .int (zI td), .ref o2, .ref o3, .ref o4, .ref o5, .int (zI g1), .int (zI g2), .int (zI g3), .int (zI g4), .int (zI g5), .int (zI g6), .ref o6, .ref o7, .ref o8, .ref o9, .int (zI g7), .ref oz])), (o2, .inl (cI, 16, .inl (zia f2))), (o3, .inl (cI, 8, .inl (zia f3))), (o5, .inl (cI, 4, .inl (zia f5))), (o6, .inl (cI, 63, .inl (zia f6))), (o7, .inl (cZ, 2, .inl (zia f7))), (o8, .inl (cI, 6561, .inl (zia f8))), (o9, .inl (cI, 6561, .inl (zia f9)))] Hp (fun (r : Int32) (u : BQ) => r = zI (if reM f7 g = 0 then (if f6 0 = f6 (21 * (1 + g) + 0) ∨ ¬ lwM f2 f3 f5 (f6 (21 * (1 + g) + 0)) = true then -9 else (fpM f2 f3 f5 (sgM f2 f3 f5 f9 (f6 (21 * (1 + g) + 0)) 9999).2.2 (f6 0) (f2 0).toNat 0 (-9, 9999)).1) else reM f7 g) ∧ (True)) (fun (u : BQ) => [(o0, .inr (5, [.long tr, .ref o1, .int (zI td), .ref o2, .ref o3, .ref o4, .ref o5, .int (zI g1), .int (zI g2), .int (zI g3), .int (zI g4), .int (zI g5), .int (zI g6), .ref o6, .ref o7, .ref o8, .ref o9, .int (zI u.2.1), .ref oz])), (o2, .inl (cI, 16, .inl (zia f2))), (o3, .inl (cI, 8, .inl (zia f3))), (o5, .inl (cI, 4, .inl (zia f5))), (o6, .inl (cI, 63, .inl (zia f6))), (o7, .inl (cZ, 2, .inl (zia f7))), (o8, .inl (cI, 6561, .inl (zia u.2.2))), (o9, .inl (cI, 6561, .inl (zia u.1)))]) 0 0 := by
  refine wr_starti (by decide) rfl (Nat.le_of_ble_eq_true rfl) ?_
  intro pg ev sx mm args below meth cd ls A M hP hD hS hA hK hl
  obtain ⟨hx, hb, hr, hml, hown, hts, hlk, hN0⟩ := id M
  have hl : lv_has ls 11 [(0, .ref o0), (1, .int (zI g))] := hl
  refine W.widen (k := 0) (n := 0) (Nat.zero_le _) (Nat.zero_le _) ?_
  obtain ⟨hPm, hB1, hra, hsu, hvw, hno, hdn6, hha7, hso, hbm⟩ := id hp2
  obtain ⟨hhm, hdy, hac, hlk, hmn, hcl⟩ := id hn6
  have h9r := pw9_rng (n := f2 0) (by omega)
  refine lv_aload_n hx hb dX5_first_0 rfl (lv_at hl 0 rfl) ?_
  refine lv_iload_n hx hb dX5_first_1 rfl (lv_at hl 1 rfl) ?_
  refine pc_V (As := [.int (zI g)]) (rest := []) M (c_X5_refuses l D cB cI cZ cM _ o0 o1 o2 o3 o4 o5 o6 o7 o8 o9 oz tr td g1 g2 g3 g4 g5 g6 g7 f7 g (by first | assumption | omega) (by first | assumption | omega)) gX5_first_X5_refuses rfl ⟨rfl, hd_X5_refuses⟩ ⟨Nat.le_of_ble_eq_true rfl, Nat.le_of_ble_eq_true rfl⟩ hK hP [0, 5] rfl 0 5 rfl rfl rfl hl.1 rfl rfl (Nat.le_of_ble_eq_true rfl) dX5_first_2 ⟨Nat.le_of_ble_eq_true rfl, Nat.le_of_ble_eq_true rfl⟩ (fun r_2 h_2 => ?_)
  subst h_2
  have hre := reM_rng f7 g
  refine z_if_eq (tgt := 14) hx hb dX5_first_5 (by decide) (by omega) (fun c_5 => ?_) (fun c_5 => ?_)
  · skip
    have hg1 := reM_0 c_5
    have hki5 := hki g hg1.1 hg1.2 (reM_k c_5)
    have c5 := c_5
    refine lv_aload_n hx hb dX5_first_14 rfl (lv_at hl 0 rfl) ?_
    refine va_get (D := D) (ci := 5) (C := RX5) (T := TX5) (N := 19) hx hb hts inc_X5_first_5 hown hK hP 0 rfl rfl 13 (by decide) (hts (.fieldLink RX5 26 "BedHouseModel" "now" "[I") (by decide +kernel)) (fun _ h9 => h9) rfl dX5_first_15 ?_
    refine lv_iconst (v := zI 0) hx hb dX5_first_18 rfl ?_
    refine z_iald hx hb hK hP 4 1 rfl rfl (Nat.le_of_ble_eq_true rfl) dX5_first_19 (by omega) ?_
    refine lv_istore_n (lv' := [(2, .int (zI (f6 0))), (0, .ref o0), (1, .int (zI g))]) hx hb dX5_first_20 rfl hl (by decide) rfl (fun ls hl => ?_)
    refine lv_aload_n hx hb dX5_first_21 rfl (lv_at hl 1 rfl) ?_
    refine lv_iload_n hx hb dX5_first_22 rfl (lv_at hl 2 rfl) ?_
    refine pc_V (As := [.int (zI g)]) (rest := []) M (c_X5_houseOf l D cB cI cZ cM _ o0 o1 o2 o3 o4 o5 o6 o7 o8 o9 oz tr td g1 g2 g3 g4 g5 g6 g7 f6 g (by first | assumption | omega)) gX5_first_X5_houseOf rfl ⟨rfl, hd_X5_houseOf⟩ ⟨Nat.le_of_ble_eq_true rfl, Nat.le_of_ble_eq_true rfl⟩ hK hP [0, 4] rfl 0 5 rfl rfl rfl hl.1 rfl rfl (Nat.le_of_ble_eq_true rfl) dX5_first_23 ⟨Nat.le_of_ble_eq_true rfl, Nat.le_of_ble_eq_true rfl⟩ (fun r_23 h_23 => ?_)
    subst h_23
    refine lv_istore_n (lv' := [(3, .int (zI (f6 (21 * (1 + g) + 0)))), (2, .int (zI (f6 0))), (0, .ref o0), (1, .int (zI g))]) hx hb dX5_first_26 rfl hl (by decide) rfl (fun ls hl => ?_)
    refine lv_iload_n hx hb dX5_first_27 rfl (lv_at hl 1 rfl) ?_
    refine lv_iload_n hx hb dX5_first_28 rfl (lv_at hl 0 rfl) ?_
    refine z_icmp_eq (tgt := 40) hx hb dX5_first_29 (by decide) (by omega) (fun c_29 => ?_) (fun c_29 => ?_)
    · skip
      refine lv_bipush (v := zI (-9)) hx hb dX5_first_40 (by decide) ?_
      exact wr_reti M dX5_first_42 (u := (f9, g7, f8)) ⟨(congrArg zI (by rw [if_pos c_5, if_pos (Or.inl c_29)])), (by trivial)⟩ hP hD hS
    refine lv_aload_n hx hb dX5_first_32 rfl (lv_at hl 2 rfl) ?_
    refine lv_iload_n hx hb dX5_first_33 rfl (lv_at hl 0 rfl) ?_
    refine pc_V (As := [.int (zI (f6 (21 * (1 + g) + 0)))]) (rest := []) M (c_X5_isLawful l D cB cI cZ cM _ o0 o1 o2 o3 o4 o5 o6 o7 o8 o9 oz tr td g1 g2 g3 g4 g5 g6 g7 f2 f3 f5 (f6 (21 * (1 + g) + 0)) (by first | assumption | omega) (by first | assumption | omega) (by first | assumption | omega) (hki5) (by first | assumption | omega) (by first | assumption | omega)) gX5_first_X5_isLawful rfl ⟨rfl, hd_X5_isLawful⟩ ⟨Nat.le_of_ble_eq_true rfl, Nat.le_of_ble_eq_true rfl⟩ hK hP [0, 1, 2, 3] rfl 0 5 rfl rfl rfl hl.1 rfl rfl (Nat.le_of_ble_eq_true rfl) dX5_first_34 ⟨Nat.le_of_ble_eq_true rfl, Nat.le_of_ble_eq_true rfl⟩ (fun r_34 h_34 => ?_)
    subst h_34
    refine z_if_ne (tgt := 43) hx hb dX5_first_37 (by decide) (zb_bd _) (fun c_37 => ?_) (fun c_37 => ?_)
    · skip
      have c_37 := zb_t c_37
      refine lv_aload_n hx hb dX5_first_43 rfl (lv_at hl 2 rfl) ?_
      refine lv_iload_n hx hb dX5_first_44 rfl (lv_at hl 0 rfl) ?_
      refine wc_Vv (As := [.int (zI (f6 (21 * (1 + g) + 0)))]) (rest := []) (wr := [(o6, .inl (cI, 63, .inl (zia f6))), (o7, .inl (cZ, 2, .inl (zia f7)))]) (ws' := (fun u_45 : BQ => [(o0, .inr (5, [.long tr, .ref o1, .int (zI td), .ref o2, .ref o3, .ref o4, .ref o5, .int (zI g1), .int (zI g2), .int (zI g3), .int (zI g4), .int (zI g5), .int (zI g6), .ref o6, .ref o7, .ref o8, .ref o9, .int (zI u_45.2.1), .ref oz])), (o2, .inl (cI, 16, .inl (zia f2))), (o3, .inl (cI, 8, .inl (zia f3))), (o5, .inl (cI, 4, .inl (zia f5))), (o6, .inl (cI, 63, .inl (zia f6))), (o7, .inl (cZ, 2, .inl (zia f7))), (o8, .inl (cI, 6561, .inl (zia u_45.2.2))), (o9, .inl (cI, 6561, .inl (zia u_45.1)))])) M (c_X5_goFrom l D cB cI cZ cM _ o0 o1 o2 o3 o4 o5 o6 o7 o8 o9 oz tr td g1 g2 g3 g4 g5 g6 g7 f2 f3 f5 f8 f9 (f6 (21 * (1 + g) + 0)) (by first | assumption | omega) (hki5)) gX5_first_X5_goFrom rfl ⟨rfl, hd_X5_goFrom⟩ ⟨Nat.le_of_ble_eq_true rfl, Nat.le_of_ble_eq_true rfl⟩ hK hP hD hS hA [0, 1, 2, 3, 6, 7] [4, 5] [2, 3, 4, 5, 0, 1, 6, 7] rfl rfl (by decide) (by decide) (by decide) (fun _ => rfl) 0 5 rfl rfl rfl hl.1 rfl rfl (Nat.le_of_ble_eq_true rfl) dX5_first_45 ⟨Nat.le_of_ble_eq_true rfl, Nat.le_of_ble_eq_true rfl⟩ (by decide) (fun u_45 H locs h_45 hP hD hS => ?_)
      refine lv_bipush (v := zI (-9)) hx hb dX5_first_48 (by decide) ?_
      refine lv_istore (lv' := [(4, .int (zI (-9))), (3, .int (zI (f6 (21 * (1 + g) + 0)))), (2, .int (zI (f6 0))), (0, .ref o0), (1, .int (zI g))]) hx hb dX5_first_50 hl (by decide) rfl (fun ls hl => ?_)
      refine lv_sipush (v := zI 9999) hx hb dX5_first_52 (by decide) ?_
      refine lv_istore (lv' := [(5, .int (zI 9999)), (4, .int (zI (-9))), (3, .int (zI (f6 (21 * (1 + g) + 0)))), (2, .int (zI (f6 0))), (0, .ref o0), (1, .int (zI g))]) hx hb dX5_first_55 hl (by decide) rfl (fun ls hl => ?_)
      refine lv_iconst (v := zI 0) hx hb dX5_first_57 rfl ?_
      refine lv_istore (lv' := [(6, .int (zI 0)), (5, .int (zI 9999)), (4, .int (zI (-9))), (3, .int (zI (f6 (21 * (1 + g) + 0)))), (2, .int (zI (f6 0))), (0, .ref o0), (1, .int (zI g))]) hx hb dX5_first_58 hl (by decide) rfl (fun ls hl => ?_)
      exact lp_X5_first_60 l D cB cI cZ cM o0 o1 o2 o3 o4 o5 o6 o7 o8 o9 oz tr td g1 g2 g3 g4 g5 g6 g7 f2 f3 f5 f6 f7 f8 f9 g hp2 hn6 h71 hki hg0 M hK hA (((f2 0).toNat) + 1) ((f2 0).toNat) 0 (-9, 9999) u_45 (Nat.lt_succ_self _) (by assumption) (by assumption) (by omega) (by exact h_45) (by dsimp only; omega) (by exact And.intro c_29 c_37) (by rw [h_45]) _ _ hP hD hS _ (lv_sub hl [5, 6, 4, 3, 2, 1, 0] rfl)
    have c_37 := zb_f c_37
    refine lv_bipush (v := zI (-9)) hx hb dX5_first_40 (by decide) ?_
    exact wr_reti M dX5_first_42 (u := (f9, g7, f8)) ⟨(congrArg zI (by rw [if_pos c_5, if_pos (Or.inr (show ¬ lwM f2 f3 f5 (f6 (21 * (1 + g) + 0)) = true from c_37))])), (by trivial)⟩ hP hD hS
  refine lv_aload_n hx hb dX5_first_8 rfl (lv_at hl 0 rfl) ?_
  refine lv_iload_n hx hb dX5_first_9 rfl (lv_at hl 1 rfl) ?_
  refine pc_V (As := [.int (zI g)]) (rest := []) M (c_X5_refuses l D cB cI cZ cM _ o0 o1 o2 o3 o4 o5 o6 o7 o8 o9 oz tr td g1 g2 g3 g4 g5 g6 g7 f7 g (by first | assumption | omega) (by first | assumption | omega)) gX5_first_X5_refuses rfl ⟨rfl, hd_X5_refuses⟩ ⟨Nat.le_of_ble_eq_true rfl, Nat.le_of_ble_eq_true rfl⟩ hK hP [0, 5] rfl 0 5 rfl rfl rfl hl.1 rfl rfl (Nat.le_of_ble_eq_true rfl) dX5_first_10 ⟨Nat.le_of_ble_eq_true rfl, Nat.le_of_ble_eq_true rfl⟩ (fun r_10 h_10 => ?_)
  subst h_10
  exact wr_reti M dX5_first_13 (u := (f9, g7, f8)) ⟨(congrArg zI (by rw [if_neg c_5])), (by trivial)⟩ hP hD hS
set_option maxHeartbeats 4000000 in
set_option maxRecDepth 100000 in
theorem lp_X5_piano_24 (l : Launch) (D : va_G) (cB cI cZ cM : ClassId) (o0 : Nat) (o1 : Nat) (o2 : Nat) (o3 : Nat) (o4 : Nat) (o5 : Nat) (o6 : Nat) (o7 : Nat) (o8 : Nat) (o9 : Nat) (oz : Nat) (tr : Int64) (td : Int) (g1 : Int) (g2 : Int) (g3 : Int) (g4 : Int) (g5 : Int) (g6 : Int) (g7 : Int) (f2 : Int → Int) (f3 : Int → Int) (f5 : Int → Int) (f6 : Int → Int) (f8 : Int → Int) (f9 : Int → Int) (k : Int) (hp2 : okR f2 f3 f5) (hn6 : okN f2 f6) (hk0 : -2147483648 ≤ k ∧ k < 2147483648) {pg : Program} {ev : Env} {sx : State} {mm : MethodId} {args : Array Value} {below : List Frame} {meth : Method} {cd : Code} (M : MX pg sx mm args meth cd cX5_piano 4 (some .int) RX5 wsX5_piano) (hK : va_K D vwCl (TYS cB cI cZ cM) sx) {A : Nat → Prop} (hA : ∀ q : Nat, sx.heap.size ≤ q → A q) : ∀ (N : Nat) (n : Nat) (i : Int) (S : BQ), (n < N) → (0 ≤ k ∧ k ≤ 7) → (S = sgM f2 f3 f5 f9 (f6 0) 9999) → (0 ≤ i ∧ i + n = S.2.1) → (tiM f2 k S n i = tiM f2 k (sgM f2 f3 f5 f9 (f6 0) 9999) (sgM f2 f3 f5 f9 (f6 0) 9999).2.1.toNat 0) → ∀ (H : Heap) (locs : List Loc), va_P D vwCl [(o0, .inr (5, [.long tr, .ref o1, .int (zI td), .ref o2, .ref o3, .ref o4, .ref o5, .int (zI g1), .int (zI g2), .int (zI g3), .int (zI g4), .int (zI g5), .int (zI g6), .ref o6, .ref o7, .ref o8, .ref o9, .int (zI S.2.1), .ref oz])), (o2, .inl (cI, 16, .inl (zia f2))), (o3, .inl (cI, 8, .inl (zia f3))), (o5, .inl (cI, 4, .inl (zia f5))), (o6, .inl (cI, 63, .inl (zia f6))), (o8, .inl (cI, 6561, .inl (zia S.2.2))), (o9, .inl (cI, 6561, .inl (zia S.1)))] H → va_D A [(o0, .inr (5, [.long tr, .ref o1, .int (zI td), .ref o2, .ref o3, .ref o4, .ref o5, .int (zI g1), .int (zI g2), .int (zI g3), .int (zI g4), .int (zI g5), .int (zI g6), .ref o6, .ref o7, .ref o8, .ref o9, .int (zI S.2.1), .ref oz])), (o2, .inl (cI, 16, .inl (zia f2))), (o3, .inl (cI, 8, .inl (zia f3))), (o5, .inl (cI, 4, .inl (zia f5))), (o6, .inl (cI, 63, .inl (zia f6))), (o8, .inl (cI, 6561, .inl (zia S.2.2))), (o9, .inl (cI, 6561, .inl (zia S.1)))] → va_S A sx.heap H locs → ∀ ls : Array Slot, lv_has ls 4 [(0, .ref o0), (1, .int (zI k)), (2, .int (zI i))] → W pg l ev (rmW 6 0 0 142) sx mm args below meth cd H locs 0 0 (QWi below args sx A D (fun (r : Int32) (u : BQ) => r = zI (if 0 ≤ k ∧ k ≤ 7 then tiM f2 k (sgM f2 f3 f5 f9 (f6 0) 9999) (sgM f2 f3 f5 f9 (f6 0) 9999).2.1.toNat 0 else -1) ∧ (True)) (fun (u : BQ) => [(o0, .inr (5, [.long tr, .ref o1, .int (zI td), .ref o2, .ref o3, .ref o4, .ref o5, .int (zI g1), .int (zI g2), .int (zI g3), .int (zI g4), .int (zI g5), .int (zI g6), .ref o6, .ref o7, .ref o8, .ref o9, .int (zI u.2.1), .ref oz])), (o2, .inl (cI, 16, .inl (zia f2))), (o3, .inl (cI, 8, .inl (zia f3))), (o5, .inl (cI, 4, .inl (zia f5))), (o6, .inl (cI, 63, .inl (zia f6))), (o8, .inl (cI, 6561, .inl (zia u.2.2))), (o9, .inl (cI, 6561, .inl (zia u.1)))]) 0 0) (F0 mm 24 ls []) := by
  intro N
  induction N with
  | zero => intro n i S hN; exact absurd hN (Nat.not_lt_zero _)
  | succ N ih =>
    intro n i S hN hk1 hS5 hi hv H locs hP hD hS ls hl
    obtain ⟨hx, hb, hr, hml, hown, hts, hlk, hN0⟩ := id M
    obtain ⟨hPm, hB1, hra, hsu, hvw, hno, hdn6, hha7, hso, hbm⟩ := id hp2
    obtain ⟨hhm, hdy, hac, hlk, hmn, hcl⟩ := id hn6
    have h9r := pw9_rng (n := f2 0) (by omega)
    have hr21 : qkM (f2 0) S := by rw [hS5]; exact sgM_ok hPm hhm
    have hmm := qkM_m hr21
    refine lv_iload_n hx hb dX5_piano_24 rfl (lv_at hl 2 rfl) ?_
    refine lv_aload_n hx hb dX5_piano_25 rfl (lv_at hl 0 rfl) ?_
    refine va_get (D := D) (ci := 5) (C := RX5) (T := TX5) (N := 19) hx hb hts inc_X5_piano_5 hown hK hP 0 rfl rfl 17 (by decide) (hts (.fieldLink RX5 152 "BedHouseModel" "reachedMany" "I") (by decide +kernel)) (fun _ h9 => h9) rfl dX5_piano_26 ?_
    refine z_icmp_ge (tgt := 79) hx hb dX5_piano_29 (by decide) (by omega) (fun c_29 => ?_) (fun c_29 => ?_)
    · skip
      obtain rfl : n = 0 := by omega
      refine lv_bipush (v := zI (-9)) hx hb dX5_piano_79 (by decide) ?_
      exact wr_reti M dX5_piano_81 (u := S) ⟨(congrArg zI (by rw [if_pos hk1, ← hv, tiM])), (by trivial)⟩ hP hD hS
    obtain ⟨n, rfl⟩ : ∃ j : Nat, n = j + 1 := ⟨n - 1, by omega⟩
    refine lv_aload_n hx hb dX5_piano_32 rfl (lv_at hl 0 rfl) ?_
    refine va_get (D := D) (ci := 5) (C := RX5) (T := TX5) (N := 19) hx hb hts inc_X5_piano_5 hown hK hP 0 rfl rfl 16 (by decide) (hts (.fieldLink RX5 36 "BedHouseModel" "reached" "[I") (by decide +kernel)) (fun _ h9 => h9) rfl dX5_piano_33 ?_
    refine lv_iload_n hx hb dX5_piano_36 rfl (lv_at hl 2 rfl) ?_
    refine z_iald hx hb hK hP 6 1 rfl rfl (Nat.le_of_ble_eq_true rfl) dX5_piano_37 (by omega) ?_
    refine lv_istore_n (lv' := [(3, .int (zI (S.1 i))), (0, .ref o0), (1, .int (zI k)), (2, .int (zI i))]) hx hb dX5_piano_38 rfl hl (by decide) rfl (fun ls hl => ?_)
    obtain ⟨b1, b2, b3, b4⟩ := hr21.2.1 i hi.1 (by omega)
    refine lv_aload_n hx hb dX5_piano_39 rfl (lv_at hl 1 rfl) ?_
    refine lv_iload_n hx hb dX5_piano_40 rfl (lv_at hl 0 rfl) ?_
    refine lv_iload_n hx hb dX5_piano_41 rfl (lv_at hl 2 rfl) ?_
    refine pc_V (As := [.int (zI (S.1 i)), .int (zI k)]) (rest := []) M (c_X5_panelAt l D cB cI cZ cM _ o0 o1 o2 o3 o4 o5 o6 o7 o8 o9 oz tr td g1 g2 g3 g4 g5 g6 S.2.1 f2 (S.1 i) k (by first | assumption | omega) (⟨b1, b2⟩) (by first | assumption | omega)) gX5_piano_X5_panelAt rfl ⟨rfl, hd_X5_panelAt⟩ ⟨Nat.le_of_ble_eq_true rfl, Nat.le_of_ble_eq_true rfl⟩ hK hP [0, 1] rfl 0 5 rfl rfl rfl hl.1 rfl rfl (Nat.le_of_ble_eq_true rfl) dX5_piano_42 ⟨Nat.le_of_ble_eq_true rfl, Nat.le_of_ble_eq_true rfl⟩ (fun r_42 h_42 => ?_)
    subst h_42
    have hpf := patF_rng (slI (f2 0) (S.1 i)) k (f2 0).toNat 0 (by omega)
    refine lv_bipush (v := zI (-9)) hx hb dX5_piano_45 (by decide) ?_
    refine z_icmp_ne (tgt := 73) hx hb dX5_piano_47 (by decide) (by omega) (fun c_47 => ?_) (fun c_47 => ?_)
    · skip
      refine z_iinc (a := i) (k := 3) (lv' := [(2, .int (zI (i + 1))), (3, .int (zI (S.1 i))), (0, .ref o0), (1, .int (zI k))]) hx hb dX5_piano_73 hl rfl (by decide) rfl (fun ls hl => ?_)
      refine lv_goto (tgt := 24) hx hb dX5_piano_76 (by decide) ?_
      exact ih n (i + 1) S (by omega) (by assumption) (by assumption) (by omega) (by rw [← hv, tiM, if_neg (fun q => c_47 q.1)]) _ _ hP hD hS _ (lv_sub hl [2, 3, 0] rfl)
    refine lv_aload_n hx hb dX5_piano_50 rfl (lv_at hl 1 rfl) ?_
    refine lv_iload_n hx hb dX5_piano_51 rfl (lv_at hl 0 rfl) ?_
    refine lv_iload_n hx hb dX5_piano_52 rfl (lv_at hl 2 rfl) ?_
    refine lv_iconst (v := zI 1) hx hb dX5_piano_53 rfl ?_
    refine z_iadd hx hb dX5_piano_54 ?_
    refine lv_bipush (v := zI 8) hx hb dX5_piano_55 (by decide) ?_
    refine z_irem hx hb dX5_piano_57 (by omega) ?_
    refine pc_V (As := [.int (zI (S.1 i)), .int (zI ((k + 1) % 8))]) (rest := []) M (c_X5_panelAt l D cB cI cZ cM _ o0 o1 o2 o3 o4 o5 o6 o7 o8 o9 oz tr td g1 g2 g3 g4 g5 g6 S.2.1 f2 (S.1 i) ((k + 1) % 8) (by first | assumption | omega) (⟨b1, b2⟩) (by first | assumption | omega)) gX5_piano_X5_panelAt rfl ⟨rfl, hd_X5_panelAt⟩ ⟨Nat.le_of_ble_eq_true rfl, Nat.le_of_ble_eq_true rfl⟩ hK hP [0, 1] rfl 0 5 rfl rfl rfl hl.1 rfl rfl (Nat.le_of_ble_eq_true rfl) dX5_piano_58 ⟨Nat.le_of_ble_eq_true rfl, Nat.le_of_ble_eq_true rfl⟩ (fun r_58 h_58 => ?_)
    subst h_58
    have hpf2 := patF_rng (slI (f2 0) (S.1 i)) ((k + 1) % 8) (f2 0).toNat 0 (by omega)
    refine lv_bipush (v := zI (-9)) hx hb dX5_piano_61 (by decide) ?_
    refine z_icmp_ne (tgt := 73) hx hb dX5_piano_63 (by decide) (by omega) (fun c_63 => ?_) (fun c_63 => ?_)
    · skip
      refine z_iinc (a := i) (k := 3) (lv' := [(2, .int (zI (i + 1))), (3, .int (zI (S.1 i))), (0, .ref o0), (1, .int (zI k))]) hx hb dX5_piano_73 hl rfl (by decide) rfl (fun ls hl => ?_)
      refine lv_goto (tgt := 24) hx hb dX5_piano_76 (by decide) ?_
      exact ih n (i + 1) S (by omega) (by assumption) (by assumption) (by omega) (by rw [← hv, tiM, if_neg (fun q => c_63 q.2)]) _ _ hP hD hS _ (lv_sub hl [2, 3, 0] rfl)
    refine lv_aload_n hx hb dX5_piano_66 rfl (lv_at hl 1 rfl) ?_
    refine va_get (D := D) (ci := 5) (C := RX5) (T := TX5) (N := 19) hx hb hts inc_X5_piano_5 hown hK hP 0 rfl rfl 15 (by decide) (hts (.fieldLink RX5 33 "BedHouseModel" "off" "[I") (by decide +kernel)) (fun _ h9 => h9) rfl dX5_piano_67 ?_
    refine lv_iload_n hx hb dX5_piano_70 rfl (lv_at hl 0 rfl) ?_
    refine z_iald hx hb hK hP 5 1 rfl rfl (Nat.le_of_ble_eq_true rfl) dX5_piano_71 (by omega) ?_
    exact wr_reti M dX5_piano_72 (u := S) ⟨(congrArg zI (by rw [if_pos hk1, ← hv, tiM, if_pos (And.intro c_47 c_63)])), (by trivial)⟩ hP hD hS
set_option maxHeartbeats 4000000 in
set_option maxRecDepth 100000 in
theorem c_X5_piano (l : Launch) (D : va_G) (cB cI cZ cM : ClassId) (Hp : Heap) (o0 : Nat) (o1 : Nat) (o2 : Nat) (o3 : Nat) (o4 : Nat) (o5 : Nat) (o6 : Nat) (o7 : Nat) (o8 : Nat) (o9 : Nat) (oz : Nat) (tr : Int64) (td : Int) (g1 : Int) (g2 : Int) (g3 : Int) (g4 : Int) (g5 : Int) (g6 : Int) (g7 : Int) (f2 : Int → Int) (f3 : Int → Int) (f5 : Int → Int) (f6 : Int → Int) (f8 : Int → Int) (f9 : Int → Int) (k : Int) (hp2 : okR f2 f3 f5) (hn6 : okN f2 f6) (hk0 : -2147483648 ≤ k ∧ k < 2147483648) : cWi l yX5_piano wsX5_piano (rmW 6 0 0 142) D (TYS cB cI cZ cM) [.ref o0, .int (zI k)] [(o0, .inr (5, [.long tr, .ref o1, .int (zI td), .ref o2, .ref o3, .ref o4, .ref o5, .int (zI g1), .int (zI g2), .int (zI g3), .int (zI g4), .int (zI g5), .int (zI g6), .ref o6, .ref o7, .ref o8, .ref o9, .int (zI g7), .ref oz])), (o2, .inl (cI, 16, .inl (zia f2))), (o3, .inl (cI, 8, .inl (zia f3))), (o5, .inl (cI, 4, .inl (zia f5))), (o6, .inl (cI, 63, .inl (zia f6))), (o8, .inl (cI, 6561, .inl (zia f8))), (o9, .inl (cI, 6561, .inl (zia f9)))] Hp (fun (r : Int32) (u : BQ) => r = zI (if 0 ≤ k ∧ k ≤ 7 then tiM f2 k (sgM f2 f3 f5 f9 (f6 0) 9999) (sgM f2 f3 f5 f9 (f6 0) 9999).2.1.toNat 0 else -1) ∧ (True)) (fun (u : BQ) => [(o0, .inr (5, [.long tr, .ref o1, .int (zI td), .ref o2, .ref o3, .ref o4, .ref o5, .int (zI g1), .int (zI g2), .int (zI g3), .int (zI g4), .int (zI g5), .int (zI g6), .ref o6, .ref o7, .ref o8, .ref o9, .int (zI u.2.1), .ref oz])), (o2, .inl (cI, 16, .inl (zia f2))), (o3, .inl (cI, 8, .inl (zia f3))), (o5, .inl (cI, 4, .inl (zia f5))), (o6, .inl (cI, 63, .inl (zia f6))), (o8, .inl (cI, 6561, .inl (zia u.2.2))), (o9, .inl (cI, 6561, .inl (zia u.1)))]) 0 0 := by
  refine wr_starti (by decide) rfl (Nat.le_of_ble_eq_true rfl) ?_
  intro pg ev sx mm args below meth cd ls A M hP hD hS hA hK hl
  obtain ⟨hx, hb, hr, hml, hown, hts, hlk, hN0⟩ := id M
  have hl : lv_has ls 4 [(0, .ref o0), (1, .int (zI k))] := hl
  refine W.widen (k := 0) (n := 0) (Nat.zero_le _) (Nat.zero_le _) ?_
  obtain ⟨hPm, hB1, hra, hsu, hvw, hno, hdn6, hha7, hso, hbm⟩ := id hp2
  obtain ⟨hhm, hdy, hac, hlk, hmn, hcl⟩ := id hn6
  have h9r := pw9_rng (n := f2 0) (by omega)
  refine lv_iload_n hx hb dX5_piano_0 rfl (lv_at hl 1 rfl) ?_
  refine lv_iconst (v := zI 0) hx hb dX5_piano_1 rfl ?_
  refine lv_bipush (v := zI 7) hx hb dX5_piano_2 (by decide) ?_
  refine pc_J (As := [.int (zI k), .int (zI 0), .int (zI 7)]) (rest := []) M (c_X5_in l D cB cI cZ cM _ k 0 7 (by first | assumption | omega) (by first | assumption | omega) (by first | assumption | omega)) gX5_piano_X5_in rfl hd_X5_in ⟨Nat.le_of_ble_eq_true rfl, Nat.le_of_ble_eq_true rfl⟩ hK hP [] rfl hl.1 rfl rfl (Nat.le_of_ble_eq_true rfl) dX5_piano_4 ⟨Nat.le_of_ble_eq_true rfl, Nat.le_of_ble_eq_true rfl⟩ (fun r_4 h_4 => ?_)
  subst h_4
  refine z_if_ne (tgt := 12) hx hb dX5_piano_7 (by decide) (zb_bd _) (fun c_7 => ?_) (fun c_7 => ?_)
  · skip
    have c_7 := zb_t c_7
    refine lv_aload_n hx hb dX5_piano_12 rfl (lv_at hl 0 rfl) ?_
    refine lv_aload_n hx hb dX5_piano_13 rfl (lv_at hl 0 rfl) ?_
    refine va_get (D := D) (ci := 5) (C := RX5) (T := TX5) (N := 19) hx hb hts inc_X5_piano_5 hown hK hP 0 rfl rfl 13 (by decide) (hts (.fieldLink RX5 26 "BedHouseModel" "now" "[I") (by decide +kernel)) (fun _ h9 => h9) rfl dX5_piano_14 ?_
    refine lv_iconst (v := zI 0) hx hb dX5_piano_17 rfl ?_
    refine z_iald hx hb hK hP 4 1 rfl rfl (Nat.le_of_ble_eq_true rfl) dX5_piano_18 (by omega) ?_
    refine wc_Vv (As := [.int (zI (f6 0))]) (rest := []) (wr := [(o6, .inl (cI, 63, .inl (zia f6)))]) (ws' := (fun u_19 : BQ => [(o0, .inr (5, [.long tr, .ref o1, .int (zI td), .ref o2, .ref o3, .ref o4, .ref o5, .int (zI g1), .int (zI g2), .int (zI g3), .int (zI g4), .int (zI g5), .int (zI g6), .ref o6, .ref o7, .ref o8, .ref o9, .int (zI u_19.2.1), .ref oz])), (o2, .inl (cI, 16, .inl (zia f2))), (o3, .inl (cI, 8, .inl (zia f3))), (o5, .inl (cI, 4, .inl (zia f5))), (o6, .inl (cI, 63, .inl (zia f6))), (o8, .inl (cI, 6561, .inl (zia u_19.2.2))), (o9, .inl (cI, 6561, .inl (zia u_19.1)))])) M (c_X5_goFrom l D cB cI cZ cM _ o0 o1 o2 o3 o4 o5 o6 o7 o8 o9 oz tr td g1 g2 g3 g4 g5 g6 g7 f2 f3 f5 f8 f9 (f6 0) (by first | assumption | omega) (by first | assumption | omega)) gX5_piano_X5_goFrom rfl ⟨rfl, hd_X5_goFrom⟩ ⟨Nat.le_of_ble_eq_true rfl, Nat.le_of_ble_eq_true rfl⟩ hK hP hD hS hA [0, 1, 2, 3, 5, 6] [4] [1, 2, 3, 4, 0, 5, 6] rfl rfl (by decide) (by decide) (by decide) (fun _ => rfl) 0 5 rfl rfl rfl hl.1 rfl rfl (Nat.le_of_ble_eq_true rfl) dX5_piano_19 ⟨Nat.le_of_ble_eq_true rfl, Nat.le_of_ble_eq_true rfl⟩ (by decide) (fun u_19 H locs h_19 hP hD hS => ?_)
    have hr19 : qkM (f2 0) u_19 := by rw [h_19]; exact sgM_ok hPm hhm
    refine lv_iconst (v := zI 0) hx hb dX5_piano_22 rfl ?_
    refine lv_istore_n (lv' := [(2, .int (zI 0)), (0, .ref o0), (1, .int (zI k))]) hx hb dX5_piano_23 rfl hl (by decide) rfl (fun ls hl => ?_)
    exact lp_X5_piano_24 l D cB cI cZ cM o0 o1 o2 o3 o4 o5 o6 o7 o8 o9 oz tr td g1 g2 g3 g4 g5 g6 g7 f2 f3 f5 f6 f8 f9 k hp2 hn6 hk0 M hK hA (u_19.2.1.toNat + 1) u_19.2.1.toNat 0 u_19 (Nat.lt_succ_self _) (by exact c_7) (by exact h_19) (by have hmm := qkM_m hr19; omega) (by rw [h_19]) _ _ hP hD hS _ (lv_sub hl [1, 2, 0] rfl)
  have c_7 := zb_f c_7
  refine lv_iconst (v := zI (-1)) hx hb dX5_piano_10 rfl ?_
  exact wr_reti M dX5_piano_11 (u := (f9, g7, f8)) ⟨(congrArg zI (by rw [if_neg c_7])), (by trivial)⟩ hP hD hS
set_option maxHeartbeats 4000000 in
set_option maxRecDepth 100000 in
theorem lp_X5_nights_134 (l : Launch) (D : va_G) (cB cI cZ cM : ClassId) (o0 : Nat) (o1 : Nat) (o2 : Nat) (o3 : Nat) (o4 : Nat) (o5 : Nat) (o6 : Nat) (o7 : Nat) (o8 : Nat) (o9 : Nat) (oz : Nat) (tr : Int64) (td : Int) (g1 : Int) (g2 : Int) (g3 : Int) (g4 : Int) (g5 : Int) (g6 : Int) (g7 : Int) (f2 : Int → Int) (f3 : Int → Int) (f5 : Int → Int) (f6 : Int → Int) (f7 : Int → Int) (f8 : Int → Int) (f9 : Int → Int) (fz : Int → Int) (g : Int) (hp2 : okR f2 f3 f5) (hn6 : okN f2 f6) (h71 : ∀ i : Int, 0 ≤ i → i < 2 → f7 i = 0 ∨ f7 i = 1) (hki : ∀ g : Int, 0 ≤ g → g ≤ 1 → f7 g ≠ 0 → 0 ≤ f6 (21 * (1 + g) + 0) ∧ f6 (21 * (1 + g) + 0) < pw9 (f2 0)) (hg0 : -2147483648 ≤ g ∧ g < 2147483648) {pg : Program} {ev : Env} {sx : State} {mm : MethodId} {args : Array Value} {below : List Frame} {meth : Method} {cd : Code} (M : MX pg sx mm args meth cd cX5_nights 5 (some .int) RX5 wsX5_nights) (hK : va_K D vwCl (TYS cB cI cZ cM) sx) {A : Nat → Prop} (hA : ∀ q : Nat, sx.heap.size ≤ q → A q) : ∀ (N : Nat) (m : Nat) (h : Int) (S : BQ) (z : Int → Int) (n1 : Nat) (j : Int), (m < N) → (0 ≤ g ∧ g ≤ 1) → (reM f7 g = 0) → (0 ≤ j ∧ j + (n1 + 1 : Nat) = 21) → (0 ≤ h ∧ h + m = pw9 (f2 0)) → (qkM (f2 0) S) → (∀ x : Int, 0 ≤ x → x < pw9 (f2 0) → z x = 0 ∨ z x = 1) → (nyM f2 f3 f5 (f6 (21 * (1 + g) + 0)) n1 (j + 1) (gfM f2 f3 f5 (f2 7) 6562 0 (rsM z m h S)) = nyM f2 f3 f5 (f6 (21 * (1 + g) + 0)) 21 0 (gfM f2 f3 f5 (f2 7 - f6 2) 6562 0 (rcM (f6 0) 0 (f9, 0, fun _ => 9999)))) → (k_55 : ∀ (n0 : Nat) (j : Int) (S : BQ) (z : Int → Int), (n0 = n1) → (0 ≤ g ∧ g ≤ 1) → (reM f7 g = 0) → (0 ≤ j ∧ j + n0 = 21) → (qkM (f2 0) S) → (nyM f2 f3 f5 (f6 (21 * (1 + g) + 0)) n0 j S = nyM f2 f3 f5 (f6 (21 * (1 + g) + 0)) 21 0 (gfM f2 f3 f5 (f2 7 - f6 2) 6562 0 (rcM (f6 0) 0 (f9, 0, fun _ => 9999)))) → ∀ (H : Heap) (locs : List Loc), va_P D vwCl [(o0, .inr (5, [.long tr, .ref o1, .int (zI td), .ref o2, .ref o3, .ref o4, .ref o5, .int (zI g1), .int (zI g2), .int (zI g3), .int (zI g4), .int (zI g5), .int (zI g6), .ref o6, .ref o7, .ref o8, .ref o9, .int (zI S.2.1), .ref oz])), (o2, .inl (cI, 16, .inl (zia f2))), (o3, .inl (cI, 8, .inl (zia f3))), (o5, .inl (cI, 4, .inl (zia f5))), (o6, .inl (cI, 63, .inl (zia f6))), (o7, .inl (cZ, 2, .inl (zia f7))), (o8, .inl (cI, 6561, .inl (zia S.2.2))), (o9, .inl (cI, 6561, .inl (zia S.1))), (oz, .inl (cZ, 6561, .inl (zia z)))] H → va_D A [(o0, .inr (5, [.long tr, .ref o1, .int (zI td), .ref o2, .ref o3, .ref o4, .ref o5, .int (zI g1), .int (zI g2), .int (zI g3), .int (zI g4), .int (zI g5), .int (zI g6), .ref o6, .ref o7, .ref o8, .ref o9, .int (zI S.2.1), .ref oz])), (o2, .inl (cI, 16, .inl (zia f2))), (o3, .inl (cI, 8, .inl (zia f3))), (o5, .inl (cI, 4, .inl (zia f5))), (o6, .inl (cI, 63, .inl (zia f6))), (o7, .inl (cZ, 2, .inl (zia f7))), (o8, .inl (cI, 6561, .inl (zia S.2.2))), (o9, .inl (cI, 6561, .inl (zia S.1))), (oz, .inl (cZ, 6561, .inl (zia z)))] → va_S A sx.heap H locs → ∀ ls : Array Slot, lv_has ls 5 [(0, .ref o0), (1, .int (zI g)), (2, .int (zI (f6 (21 * (1 + g) + 0)))), (3, .int (zI j))] → W pg l ev (rmW 5 0 0 121) sx mm args below meth cd H locs 0 0 (QWi below args sx A D (fun (r : Int32) (u : BQ × (Int → Int)) => r = zI (if reM f7 g = 0 then nyM f2 f3 f5 (f6 (21 * (1 + g) + 0)) 21 0 (gfM f2 f3 f5 (f2 7 - f6 2) 6562 0 (rcM (f6 0) 0 (f9, 0, fun _ => 9999))) else reM f7 g) ∧ (True)) (fun (u : BQ × (Int → Int)) => [(o0, .inr (5, [.long tr, .ref o1, .int (zI td), .ref o2, .ref o3, .ref o4, .ref o5, .int (zI g1), .int (zI g2), .int (zI g3), .int (zI g4), .int (zI g5), .int (zI g6), .ref o6, .ref o7, .ref o8, .ref o9, .int (zI u.1.2.1), .ref oz])), (o2, .inl (cI, 16, .inl (zia f2))), (o3, .inl (cI, 8, .inl (zia f3))), (o5, .inl (cI, 4, .inl (zia f5))), (o6, .inl (cI, 63, .inl (zia f6))), (o7, .inl (cZ, 2, .inl (zia f7))), (o8, .inl (cI, 6561, .inl (zia u.1.2.2))), (o9, .inl (cI, 6561, .inl (zia u.1.1))), (oz, .inl (cZ, 6561, .inl (zia u.2)))]) 0 0) (F0 mm 55 ls [])) → ∀ (H : Heap) (locs : List Loc), va_P D vwCl [(o0, .inr (5, [.long tr, .ref o1, .int (zI td), .ref o2, .ref o3, .ref o4, .ref o5, .int (zI g1), .int (zI g2), .int (zI g3), .int (zI g4), .int (zI g5), .int (zI g6), .ref o6, .ref o7, .ref o8, .ref o9, .int (zI S.2.1), .ref oz])), (o2, .inl (cI, 16, .inl (zia f2))), (o3, .inl (cI, 8, .inl (zia f3))), (o5, .inl (cI, 4, .inl (zia f5))), (o6, .inl (cI, 63, .inl (zia f6))), (o7, .inl (cZ, 2, .inl (zia f7))), (o8, .inl (cI, 6561, .inl (zia S.2.2))), (o9, .inl (cI, 6561, .inl (zia S.1))), (oz, .inl (cZ, 6561, .inl (zia z)))] H → va_D A [(o0, .inr (5, [.long tr, .ref o1, .int (zI td), .ref o2, .ref o3, .ref o4, .ref o5, .int (zI g1), .int (zI g2), .int (zI g3), .int (zI g4), .int (zI g5), .int (zI g6), .ref o6, .ref o7, .ref o8, .ref o9, .int (zI S.2.1), .ref oz])), (o2, .inl (cI, 16, .inl (zia f2))), (o3, .inl (cI, 8, .inl (zia f3))), (o5, .inl (cI, 4, .inl (zia f5))), (o6, .inl (cI, 63, .inl (zia f6))), (o7, .inl (cZ, 2, .inl (zia f7))), (o8, .inl (cI, 6561, .inl (zia S.2.2))), (o9, .inl (cI, 6561, .inl (zia S.1))), (oz, .inl (cZ, 6561, .inl (zia z)))] → va_S A sx.heap H locs → ∀ ls : Array Slot, lv_has ls 5 [(0, .ref o0), (1, .int (zI g)), (2, .int (zI (f6 (21 * (1 + g) + 0)))), (3, .int (zI j)), (4, .int (zI h))] → W pg l ev (rmW 5 0 0 121) sx mm args below meth cd H locs 0 0 (QWi below args sx A D (fun (r : Int32) (u : BQ × (Int → Int)) => r = zI (if reM f7 g = 0 then nyM f2 f3 f5 (f6 (21 * (1 + g) + 0)) 21 0 (gfM f2 f3 f5 (f2 7 - f6 2) 6562 0 (rcM (f6 0) 0 (f9, 0, fun _ => 9999))) else reM f7 g) ∧ (True)) (fun (u : BQ × (Int → Int)) => [(o0, .inr (5, [.long tr, .ref o1, .int (zI td), .ref o2, .ref o3, .ref o4, .ref o5, .int (zI g1), .int (zI g2), .int (zI g3), .int (zI g4), .int (zI g5), .int (zI g6), .ref o6, .ref o7, .ref o8, .ref o9, .int (zI u.1.2.1), .ref oz])), (o2, .inl (cI, 16, .inl (zia f2))), (o3, .inl (cI, 8, .inl (zia f3))), (o5, .inl (cI, 4, .inl (zia f5))), (o6, .inl (cI, 63, .inl (zia f6))), (o7, .inl (cZ, 2, .inl (zia f7))), (o8, .inl (cI, 6561, .inl (zia u.1.2.2))), (o9, .inl (cI, 6561, .inl (zia u.1.1))), (oz, .inl (cZ, 6561, .inl (zia u.2)))]) 0 0) (F0 mm 134 ls []) := by
  intro N
  induction N with
  | zero => intro m h S z n1 j hN; exact absurd hN (Nat.not_lt_zero _)
  | succ N ih =>
    intro m h S z n1 j hN hg1 c5 hj hi hs hz hv k_55 H locs hP hD hS ls hl
    obtain ⟨hx, hb, hr, hml, hown, hts, hlk, hN0⟩ := id M
    obtain ⟨hPm, hB1, hra, hsu, hvw, hno, hdn6, hha7, hso, hbm⟩ := id hp2
    obtain ⟨hhm, hdy, hac, hlk, hmn, hcl⟩ := id hn6
    have h9r := pw9_rng (n := f2 0) (by omega)
    have hki5 := hki g hg1.1 hg1.2 (reM_k c5)
    refine lv_iload hx hb dX5_nights_134 (lv_at hl 4 rfl) ?_
    refine lv_aload_n hx hb dX5_nights_136 rfl (lv_at hl 0 rfl) ?_
    refine pc_V (As := []) (rest := [.int (zI h)]) M (c_X5_houses l D cB cI cZ cM _ o0 o1 o2 o3 o4 o5 o6 o7 o8 o9 oz tr td g1 g2 g3 g4 g5 g6 S.2.1 f2 (by first | assumption | omega)) gX5_nights_X5_houses rfl ⟨rfl, hd_X5_houses⟩ ⟨Nat.le_of_ble_eq_true rfl, Nat.le_of_ble_eq_true rfl⟩ hK hP [0, 1] rfl 0 5 rfl rfl rfl hl.1 rfl rfl (Nat.le_of_ble_eq_true rfl) dX5_nights_137 ⟨Nat.le_of_ble_eq_true rfl, Nat.le_of_ble_eq_true rfl⟩ (fun r_137 h_137 => ?_)
    subst h_137
    refine z_icmp_ge (tgt := 166) hx hb dX5_nights_140 (by decide) (by omega) (fun c_140 => ?_) (fun c_140 => ?_)
    · skip
      refine lv_aload_n hx hb dX5_nights_166 rfl (lv_at hl 0 rfl) ?_
      refine lv_aload_n hx hb dX5_nights_167 rfl (lv_at hl 0 rfl) ?_
      refine va_get (D := D) (ci := 5) (C := RX5) (T := TX5) (N := 19) hx hb hts inc_X5_nights_5 hown hK hP 0 rfl rfl 3 (by decide) (hts (.fieldLink RX5 13 "BedHouseModel" "plan" "[I") (by decide +kernel)) (fun _ h9 => h9) rfl dX5_nights_168 ?_
      refine lv_bipush (v := zI 7) hx hb dX5_nights_171 (by decide) ?_
      refine z_iald hx hb hK hP 1 1 rfl rfl (Nat.le_of_ble_eq_true rfl) dX5_nights_173 (by omega) ?_
      refine wc_Vv (As := [.int (zI (f2 7))]) (rest := []) (wr := [(o6, .inl (cI, 63, .inl (zia f6))), (o7, .inl (cZ, 2, .inl (zia f7))), (oz, .inl (cZ, 6561, .inl (zia z)))]) (ws' := (fun u_174 : BQ => [(o0, .inr (5, [.long tr, .ref o1, .int (zI td), .ref o2, .ref o3, .ref o4, .ref o5, .int (zI g1), .int (zI g2), .int (zI g3), .int (zI g4), .int (zI g5), .int (zI g6), .ref o6, .ref o7, .ref o8, .ref o9, .int (zI u_174.2.1), .ref oz])), (o2, .inl (cI, 16, .inl (zia f2))), (o3, .inl (cI, 8, .inl (zia f3))), (o5, .inl (cI, 4, .inl (zia f5))), (o6, .inl (cI, 63, .inl (zia f6))), (o7, .inl (cZ, 2, .inl (zia f7))), (o8, .inl (cI, 6561, .inl (zia u_174.2.2))), (o9, .inl (cI, 6561, .inl (zia u_174.1))), (oz, .inl (cZ, 6561, .inl (zia z)))])) M (c_X5_go l D cB cI cZ cM _ o0 o1 o2 o3 o4 o5 o6 o7 o8 o9 oz tr td g1 g2 g3 g4 g5 g6 S.2.1 f2 f3 f5 S.2.2 S.1 (f2 7) (by first | assumption | omega) (hs) (by omega)) gX5_nights_X5_go rfl ⟨rfl, hd_X5_go⟩ ⟨Nat.le_of_ble_eq_true rfl, Nat.le_of_ble_eq_true rfl⟩ hK hP hD hS hA [0, 1, 2, 3, 6, 7] [4, 5, 8] [3, 4, 5, 6, 0, 1, 7, 8, 2] rfl rfl (by decide) (by decide) (by decide) (fun _ => rfl) 0 5 rfl rfl rfl hl.1 rfl rfl (Nat.le_of_ble_eq_true rfl) dX5_nights_174 ⟨Nat.le_of_ble_eq_true rfl, Nat.le_of_ble_eq_true rfl⟩ (by decide) (fun u_174 H locs h_174 hP hD hS => ?_)
      refine z_iinc (a := j) (k := 3) (lv' := [(3, .int (zI (j + 1))), (0, .ref o0), (1, .int (zI g)), (2, .int (zI (f6 (21 * (1 + g) + 0)))), (4, .int (zI h))]) hx hb dX5_nights_177 hl rfl (by decide) rfl (fun ls hl => ?_)
      refine lv_goto (tgt := 55) hx hb dX5_nights_180 (by decide) ?_
      exact k_55 n1 (j + 1) u_174 z rfl (by assumption) (by assumption) (by omega) (by rw [h_174]; exact gfM_ok hPm _ _ _ (by omega) hs) (by rw [← hv, h_174, show m = 0 by omega, rsM]) _ _ hP hD hS _ (lv_sub hl [1, 2, 3, 0] rfl)
    obtain ⟨m, rfl⟩ : ∃ x : Nat, m = x + 1 := ⟨m - 1, by omega⟩
    refine lv_aload_n hx hb dX5_nights_143 rfl (lv_at hl 0 rfl) ?_
    refine va_get (D := D) (ci := 5) (C := RX5) (T := TX5) (N := 19) hx hb hts inc_X5_nights_5 hown hK hP 0 rfl rfl 18 (by decide) (hts (.fieldLink RX5 39 "BedHouseModel" "isSlept" "[Z") (by decide +kernel)) (fun _ h9 => h9) rfl dX5_nights_144 ?_
    refine lv_iload hx hb dX5_nights_147 (lv_at hl 4 rfl) ?_
    refine z_zald hx hb hK hP 8 2 rfl rfl (Nat.le_of_ble_eq_true rfl) dX5_nights_149 (by omega) ?_
    have hz7 := hz h hi.1 (by omega)
    refine z_if_eq (tgt := 160) hx hb dX5_nights_150 (by decide) (by omega) (fun c_150 => ?_) (fun c_150 => ?_)
    · skip
      refine z_iinc (a := h) (k := 4) (lv' := [(4, .int (zI (h + 1))), (0, .ref o0), (1, .int (zI g)), (2, .int (zI (f6 (21 * (1 + g) + 0)))), (3, .int (zI j))]) hx hb dX5_nights_160 hl rfl (by decide) rfl (fun ls hl => ?_)
      refine lv_goto (tgt := 134) hx hb dX5_nights_163 (by decide) ?_
      exact ih m (h + 1) S z n1 j (by omega) (by assumption) (by assumption) (by assumption) (by omega) (by assumption) (by assumption) (by rw [← hv, rsM, if_pos c_150]) k_55 _ _ hP hD hS _ (lv_sub hl [1, 2, 3, 4, 0] rfl)
    refine lv_aload_n hx hb dX5_nights_153 rfl (lv_at hl 0 rfl) ?_
    refine lv_iload hx hb dX5_nights_154 (lv_at hl 4 rfl) ?_
    refine lv_iconst (v := zI 0) hx hb dX5_nights_156 rfl ?_
    refine wc_Vv (As := [.int (zI h), .int (zI 0)]) (rest := []) (wr := [(o2, .inl (cI, 16, .inl (zia f2))), (o3, .inl (cI, 8, .inl (zia f3))), (o5, .inl (cI, 4, .inl (zia f5))), (o6, .inl (cI, 63, .inl (zia f6))), (o7, .inl (cZ, 2, .inl (zia f7))), (oz, .inl (cZ, 6561, .inl (zia z)))]) (ws' := (fun u_157 : BQ => [(o0, .inr (5, [.long tr, .ref o1, .int (zI td), .ref o2, .ref o3, .ref o4, .ref o5, .int (zI g1), .int (zI g2), .int (zI g3), .int (zI g4), .int (zI g5), .int (zI g6), .ref o6, .ref o7, .ref o8, .ref o9, .int (zI u_157.2.1), .ref oz])), (o2, .inl (cI, 16, .inl (zia f2))), (o3, .inl (cI, 8, .inl (zia f3))), (o5, .inl (cI, 4, .inl (zia f5))), (o6, .inl (cI, 63, .inl (zia f6))), (o7, .inl (cZ, 2, .inl (zia f7))), (o8, .inl (cI, 6561, .inl (zia u_157.2.2))), (o9, .inl (cI, 6561, .inl (zia u_157.1))), (oz, .inl (cZ, 6561, .inl (zia z)))])) M (c_X5_reach l D cB cI cZ cM _ o0 o1 o2 o3 o4 o5 o6 o7 o8 o9 oz tr td g1 g2 g3 g4 g5 g6 S.2.1 f2 S.2.2 S.1 h 0 (by first | assumption | omega) (hs) (⟨hi.1, by omega⟩) (⟨by omega, (qkM_m hs).1⟩)) gX5_nights_X5_reach rfl ⟨rfl, hd_X5_reach⟩ ⟨Nat.le_of_ble_eq_true rfl, Nat.le_of_ble_eq_true rfl⟩ hK hP hD hS hA [0, 6, 7] [1, 2, 3, 4, 5, 8] [6, 0, 1, 2, 3, 4, 7, 8, 5] rfl rfl (by decide) (by decide) (by decide) (fun _ => rfl) 0 5 rfl rfl rfl hl.1 rfl rfl (Nat.le_of_ble_eq_true rfl) dX5_nights_157 ⟨Nat.le_of_ble_eq_true rfl, Nat.le_of_ble_eq_true rfl⟩ (by decide) (fun u_157 H locs h_157 hP hD hS => ?_)
    obtain ⟨hr1, hr3, hr4⟩ := rcM_ok (h := h) (n := 0) hPm.2 hs ⟨hi.1, by omega⟩ ⟨by omega, (qkM_m hs).1⟩
    rw [show rcM h 0 S = u_157 from h_157.symm] at hr1 hr3 hr4
    refine z_iinc (a := h) (k := 4) (lv' := [(4, .int (zI (h + 1))), (0, .ref o0), (1, .int (zI g)), (2, .int (zI (f6 (21 * (1 + g) + 0)))), (3, .int (zI j))]) hx hb dX5_nights_160 hl rfl (by decide) rfl (fun ls hl => ?_)
    refine lv_goto (tgt := 134) hx hb dX5_nights_163 (by decide) ?_
    exact ih m (h + 1) u_157 z n1 j (by omega) (by assumption) (by assumption) (by assumption) (by omega) (by exact hr1) (by assumption) (by rw [← hv, rsM, if_neg c_150, h_157]) k_55 _ _ hP hD hS _ (lv_sub hl [1, 2, 3, 4, 0] rfl)
set_option maxHeartbeats 4000000 in
set_option maxRecDepth 100000 in
theorem lp_X5_nights_78 (l : Launch) (D : va_G) (cB cI cZ cM : ClassId) (o0 : Nat) (o1 : Nat) (o2 : Nat) (o3 : Nat) (o4 : Nat) (o5 : Nat) (o6 : Nat) (o7 : Nat) (o8 : Nat) (o9 : Nat) (oz : Nat) (tr : Int64) (td : Int) (g1 : Int) (g2 : Int) (g3 : Int) (g4 : Int) (g5 : Int) (g6 : Int) (g7 : Int) (f2 : Int → Int) (f3 : Int → Int) (f5 : Int → Int) (f6 : Int → Int) (f7 : Int → Int) (f8 : Int → Int) (f9 : Int → Int) (fz : Int → Int) (g : Int) (hp2 : okR f2 f3 f5) (hn6 : okN f2 f6) (h71 : ∀ i : Int, 0 ≤ i → i < 2 → f7 i = 0 ∨ f7 i = 1) (hki : ∀ g : Int, 0 ≤ g → g ≤ 1 → f7 g ≠ 0 → 0 ≤ f6 (21 * (1 + g) + 0) ∧ f6 (21 * (1 + g) + 0) < pw9 (f2 0)) (hg0 : -2147483648 ≤ g ∧ g < 2147483648) {pg : Program} {ev : Env} {sx : State} {mm : MethodId} {args : Array Value} {below : List Frame} {meth : Method} {cd : Code} (M : MX pg sx mm args meth cd cX5_nights 5 (some .int) RX5 wsX5_nights) (hK : va_K D vwCl (TYS cB cI cZ cM) sx) {A : Nat → Prop} (hA : ∀ q : Nat, sx.heap.size ≤ q → A q) : ∀ (N : Nat) (m : Nat) (h : Int) (S : BQ) (z : Int → Int) (n1 : Nat) (j : Int), (m < N) → (0 ≤ g ∧ g ≤ 1) → (reM f7 g = 0) → (0 ≤ j ∧ j + (n1 + 1 : Nat) = 21) → (0 ≤ h ∧ h + m = pw9 (f2 0)) → (qkM (f2 0) S) → (∀ x : Int, 0 ≤ x → x < h → z x = slM f2 f3 S x) → (nyM f2 f3 f5 (f6 (21 * (1 + g) + 0)) n1 (j + 1) (gfM f2 f3 f5 (f2 7) 6562 0 (rsM (slM f2 f3 S) (pw9 (f2 0)).toNat 0 (S.1, 0, fun _ => 9999))) = nyM f2 f3 f5 (f6 (21 * (1 + g) + 0)) 21 0 (gfM f2 f3 f5 (f2 7 - f6 2) 6562 0 (rcM (f6 0) 0 (f9, 0, fun _ => 9999)))) → (k_55 : ∀ (n0 : Nat) (j : Int) (S : BQ) (z : Int → Int), (n0 = n1) → (0 ≤ g ∧ g ≤ 1) → (reM f7 g = 0) → (0 ≤ j ∧ j + n0 = 21) → (qkM (f2 0) S) → (nyM f2 f3 f5 (f6 (21 * (1 + g) + 0)) n0 j S = nyM f2 f3 f5 (f6 (21 * (1 + g) + 0)) 21 0 (gfM f2 f3 f5 (f2 7 - f6 2) 6562 0 (rcM (f6 0) 0 (f9, 0, fun _ => 9999)))) → ∀ (H : Heap) (locs : List Loc), va_P D vwCl [(o0, .inr (5, [.long tr, .ref o1, .int (zI td), .ref o2, .ref o3, .ref o4, .ref o5, .int (zI g1), .int (zI g2), .int (zI g3), .int (zI g4), .int (zI g5), .int (zI g6), .ref o6, .ref o7, .ref o8, .ref o9, .int (zI S.2.1), .ref oz])), (o2, .inl (cI, 16, .inl (zia f2))), (o3, .inl (cI, 8, .inl (zia f3))), (o5, .inl (cI, 4, .inl (zia f5))), (o6, .inl (cI, 63, .inl (zia f6))), (o7, .inl (cZ, 2, .inl (zia f7))), (o8, .inl (cI, 6561, .inl (zia S.2.2))), (o9, .inl (cI, 6561, .inl (zia S.1))), (oz, .inl (cZ, 6561, .inl (zia z)))] H → va_D A [(o0, .inr (5, [.long tr, .ref o1, .int (zI td), .ref o2, .ref o3, .ref o4, .ref o5, .int (zI g1), .int (zI g2), .int (zI g3), .int (zI g4), .int (zI g5), .int (zI g6), .ref o6, .ref o7, .ref o8, .ref o9, .int (zI S.2.1), .ref oz])), (o2, .inl (cI, 16, .inl (zia f2))), (o3, .inl (cI, 8, .inl (zia f3))), (o5, .inl (cI, 4, .inl (zia f5))), (o6, .inl (cI, 63, .inl (zia f6))), (o7, .inl (cZ, 2, .inl (zia f7))), (o8, .inl (cI, 6561, .inl (zia S.2.2))), (o9, .inl (cI, 6561, .inl (zia S.1))), (oz, .inl (cZ, 6561, .inl (zia z)))] → va_S A sx.heap H locs → ∀ ls : Array Slot, lv_has ls 5 [(0, .ref o0), (1, .int (zI g)), (2, .int (zI (f6 (21 * (1 + g) + 0)))), (3, .int (zI j))] → W pg l ev (rmW 5 0 0 121) sx mm args below meth cd H locs 0 0 (QWi below args sx A D (fun (r : Int32) (u : BQ × (Int → Int)) => r = zI (if reM f7 g = 0 then nyM f2 f3 f5 (f6 (21 * (1 + g) + 0)) 21 0 (gfM f2 f3 f5 (f2 7 - f6 2) 6562 0 (rcM (f6 0) 0 (f9, 0, fun _ => 9999))) else reM f7 g) ∧ (True)) (fun (u : BQ × (Int → Int)) => [(o0, .inr (5, [.long tr, .ref o1, .int (zI td), .ref o2, .ref o3, .ref o4, .ref o5, .int (zI g1), .int (zI g2), .int (zI g3), .int (zI g4), .int (zI g5), .int (zI g6), .ref o6, .ref o7, .ref o8, .ref o9, .int (zI u.1.2.1), .ref oz])), (o2, .inl (cI, 16, .inl (zia f2))), (o3, .inl (cI, 8, .inl (zia f3))), (o5, .inl (cI, 4, .inl (zia f5))), (o6, .inl (cI, 63, .inl (zia f6))), (o7, .inl (cZ, 2, .inl (zia f7))), (o8, .inl (cI, 6561, .inl (zia u.1.2.2))), (o9, .inl (cI, 6561, .inl (zia u.1.1))), (oz, .inl (cZ, 6561, .inl (zia u.2)))]) 0 0) (F0 mm 55 ls [])) → ∀ (H : Heap) (locs : List Loc), va_P D vwCl [(o0, .inr (5, [.long tr, .ref o1, .int (zI td), .ref o2, .ref o3, .ref o4, .ref o5, .int (zI g1), .int (zI g2), .int (zI g3), .int (zI g4), .int (zI g5), .int (zI g6), .ref o6, .ref o7, .ref o8, .ref o9, .int (zI S.2.1), .ref oz])), (o2, .inl (cI, 16, .inl (zia f2))), (o3, .inl (cI, 8, .inl (zia f3))), (o5, .inl (cI, 4, .inl (zia f5))), (o6, .inl (cI, 63, .inl (zia f6))), (o7, .inl (cZ, 2, .inl (zia f7))), (o8, .inl (cI, 6561, .inl (zia S.2.2))), (o9, .inl (cI, 6561, .inl (zia S.1))), (oz, .inl (cZ, 6561, .inl (zia z)))] H → va_D A [(o0, .inr (5, [.long tr, .ref o1, .int (zI td), .ref o2, .ref o3, .ref o4, .ref o5, .int (zI g1), .int (zI g2), .int (zI g3), .int (zI g4), .int (zI g5), .int (zI g6), .ref o6, .ref o7, .ref o8, .ref o9, .int (zI S.2.1), .ref oz])), (o2, .inl (cI, 16, .inl (zia f2))), (o3, .inl (cI, 8, .inl (zia f3))), (o5, .inl (cI, 4, .inl (zia f5))), (o6, .inl (cI, 63, .inl (zia f6))), (o7, .inl (cZ, 2, .inl (zia f7))), (o8, .inl (cI, 6561, .inl (zia S.2.2))), (o9, .inl (cI, 6561, .inl (zia S.1))), (oz, .inl (cZ, 6561, .inl (zia z)))] → va_S A sx.heap H locs → ∀ ls : Array Slot, lv_has ls 5 [(0, .ref o0), (1, .int (zI g)), (2, .int (zI (f6 (21 * (1 + g) + 0)))), (3, .int (zI j)), (4, .int (zI h))] → W pg l ev (rmW 5 0 0 121) sx mm args below meth cd H locs 0 0 (QWi below args sx A D (fun (r : Int32) (u : BQ × (Int → Int)) => r = zI (if reM f7 g = 0 then nyM f2 f3 f5 (f6 (21 * (1 + g) + 0)) 21 0 (gfM f2 f3 f5 (f2 7 - f6 2) 6562 0 (rcM (f6 0) 0 (f9, 0, fun _ => 9999))) else reM f7 g) ∧ (True)) (fun (u : BQ × (Int → Int)) => [(o0, .inr (5, [.long tr, .ref o1, .int (zI td), .ref o2, .ref o3, .ref o4, .ref o5, .int (zI g1), .int (zI g2), .int (zI g3), .int (zI g4), .int (zI g5), .int (zI g6), .ref o6, .ref o7, .ref o8, .ref o9, .int (zI u.1.2.1), .ref oz])), (o2, .inl (cI, 16, .inl (zia f2))), (o3, .inl (cI, 8, .inl (zia f3))), (o5, .inl (cI, 4, .inl (zia f5))), (o6, .inl (cI, 63, .inl (zia f6))), (o7, .inl (cZ, 2, .inl (zia f7))), (o8, .inl (cI, 6561, .inl (zia u.1.2.2))), (o9, .inl (cI, 6561, .inl (zia u.1.1))), (oz, .inl (cZ, 6561, .inl (zia u.2)))]) 0 0) (F0 mm 78 ls []) := by
  intro N
  induction N with
  | zero => intro m h S z n1 j hN; exact absurd hN (Nat.not_lt_zero _)
  | succ N ih =>
    intro m h S z n1 j hN hg1 c5 hj hi hs hz hv k_55 H locs hP hD hS ls hl
    obtain ⟨hx, hb, hr, hml, hown, hts, hlk, hN0⟩ := id M
    obtain ⟨hPm, hB1, hra, hsu, hvw, hno, hdn6, hha7, hso, hbm⟩ := id hp2
    obtain ⟨hhm, hdy, hac, hlk, hmn, hcl⟩ := id hn6
    have h9r := pw9_rng (n := f2 0) (by omega)
    have hki5 := hki g hg1.1 hg1.2 (reM_k c5)
    refine lv_iload hx hb dX5_nights_78 (lv_at hl 4 rfl) ?_
    refine lv_aload_n hx hb dX5_nights_80 rfl (lv_at hl 0 rfl) ?_
    refine pc_V (As := []) (rest := [.int (zI h)]) M (c_X5_houses l D cB cI cZ cM _ o0 o1 o2 o3 o4 o5 o6 o7 o8 o9 oz tr td g1 g2 g3 g4 g5 g6 S.2.1 f2 (by first | assumption | omega)) gX5_nights_X5_houses rfl ⟨rfl, hd_X5_houses⟩ ⟨Nat.le_of_ble_eq_true rfl, Nat.le_of_ble_eq_true rfl⟩ hK hP [0, 1] rfl 0 5 rfl rfl rfl hl.1 rfl rfl (Nat.le_of_ble_eq_true rfl) dX5_nights_81 ⟨Nat.le_of_ble_eq_true rfl, Nat.le_of_ble_eq_true rfl⟩ (fun r_81 h_81 => ?_)
    subst h_81
    refine z_icmp_ge (tgt := 127) hx hb dX5_nights_84 (by decide) (by omega) (fun c_84 => ?_) (fun c_84 => ?_)
    · skip
      refine lv_aload_n hx hb dX5_nights_127 rfl (lv_at hl 0 rfl) ?_
      refine wc_Vv (As := []) (rest := []) (wr := [(o2, .inl (cI, 16, .inl (zia f2))), (o3, .inl (cI, 8, .inl (zia f3))), (o5, .inl (cI, 4, .inl (zia f5))), (o6, .inl (cI, 63, .inl (zia f6))), (o7, .inl (cZ, 2, .inl (zia f7))), (o9, .inl (cI, 6561, .inl (zia S.1))), (oz, .inl (cZ, 6561, .inl (zia z)))]) (ws' := (fun _u : Unit => [(o0, .inr (5, [.long tr, .ref o1, .int (zI td), .ref o2, .ref o3, .ref o4, .ref o5, .int (zI g1), .int (zI g2), .int (zI g3), .int (zI g4), .int (zI g5), .int (zI g6), .ref o6, .ref o7, .ref o8, .ref o9, .int (zI 0), .ref oz])), (o2, .inl (cI, 16, .inl (zia f2))), (o3, .inl (cI, 8, .inl (zia f3))), (o5, .inl (cI, 4, .inl (zia f5))), (o6, .inl (cI, 63, .inl (zia f6))), (o7, .inl (cZ, 2, .inl (zia f7))), (o8, .inl (cI, 6561, .inl (zia (fun _ => 9999)))), (o9, .inl (cI, 6561, .inl (zia S.1))), (oz, .inl (cZ, 6561, .inl (zia z)))])) M (c_X5_none l D cB cI cZ cM _ o0 o1 o2 o3 o4 o5 o6 o7 o8 o9 oz tr td g1 g2 g3 g4 g5 g6 S.2.1 S.2.2 ) gX5_nights_X5_none rfl ⟨rfl, hd_X5_none⟩ ⟨Nat.le_of_ble_eq_true rfl, Nat.le_of_ble_eq_true rfl⟩ hK hP hD hS hA [0, 6] [1, 2, 3, 4, 5, 7, 8] [7, 0, 1, 2, 3, 4, 8, 5, 6] rfl rfl (by decide) (by decide) (by decide) (fun _ => rfl) 0 5 rfl rfl rfl hl.1 rfl rfl (Nat.le_of_ble_eq_true rfl) dX5_nights_128 ⟨Nat.le_of_ble_eq_true rfl, Nat.le_of_ble_eq_true rfl⟩ (by decide) (fun _u H locs h_128 hP hD hS => ?_)
      refine lv_iconst (v := zI 0) hx hb dX5_nights_131 rfl ?_
      refine lv_istore (lv' := [(4, .int (zI 0)), (0, .ref o0), (1, .int (zI g)), (2, .int (zI (f6 (21 * (1 + g) + 0)))), (3, .int (zI j))]) hx hb dX5_nights_132 hl (by decide) rfl (fun ls hl => ?_)
      exact lp_X5_nights_134 l D cB cI cZ cM o0 o1 o2 o3 o4 o5 o6 o7 o8 o9 oz tr td g1 g2 g3 g4 g5 g6 g7 f2 f3 f5 f6 f7 f8 f9 fz g hp2 hn6 h71 hki hg0 M hK hA (((pw9 (f2 0)).toNat) + 1) ((pw9 (f2 0)).toNat) 0 (S.1, 0, fun _ => 9999) z n1 j (Nat.lt_succ_self _) (by assumption) (by assumption) (by assumption) (by omega) (by exact qkM_0 (f2 0) S.1) (by exact fun x h1 h2 => by rw [hz x h1 (by omega)]; exact slM_01 f2 f3 S x) (by rw [← hv, rsM_congr (y := slM f2 f3 S) (by exact fun x h1 h2 => hz x h1 (by omega))]) k_55 _ _ hP hD hS _ (lv_sub hl [1, 2, 3, 4, 0] rfl)
    obtain ⟨m, rfl⟩ : ∃ x : Nat, m = x + 1 := ⟨m - 1, by omega⟩
    refine lv_aload_n hx hb dX5_nights_87 rfl (lv_at hl 0 rfl) ?_
    refine va_get (D := D) (ci := 5) (C := RX5) (T := TX5) (N := 19) hx hb hts inc_X5_nights_5 hown hK hP 0 rfl rfl 18 (by decide) (hts (.fieldLink RX5 39 "BedHouseModel" "isSlept" "[Z") (by decide +kernel)) (fun _ h9 => h9) rfl dX5_nights_88 ?_
    refine lv_iload hx hb dX5_nights_91 (lv_at hl 4 rfl) ?_
    refine lv_aload_n hx hb dX5_nights_93 rfl (lv_at hl 0 rfl) ?_
    refine va_get (D := D) (ci := 5) (C := RX5) (T := TX5) (N := 19) hx hb hts inc_X5_nights_5 hown hK hP 0 rfl rfl 15 (by decide) (hts (.fieldLink RX5 33 "BedHouseModel" "off" "[I") (by decide +kernel)) (fun _ h9 => h9) rfl dX5_nights_94 ?_
    refine lv_iload hx hb dX5_nights_97 (lv_at hl 4 rfl) ?_
    refine z_iald hx hb hK hP 6 1 rfl rfl (Nat.le_of_ble_eq_true rfl) dX5_nights_99 (by omega) ?_
    have hd5 := hs.2.2 h hi.1 (by omega)
    refine lv_sipush (v := zI 9999) hx hb dX5_nights_100 (by decide) ?_
    refine z_icmp_ge (tgt := 119) hx hb dX5_nights_103 (by decide) (by omega) (fun c_103 => ?_) (fun c_103 => ?_)
    · skip
      refine lv_iconst (v := zI 0) hx hb dX5_nights_119 rfl ?_
      refine z_zast (ws' := [(o0, .inr (5, [.long tr, .ref o1, .int (zI td), .ref o2, .ref o3, .ref o4, .ref o5, .int (zI g1), .int (zI g2), .int (zI g3), .int (zI g4), .int (zI g5), .int (zI g6), .ref o6, .ref o7, .ref o8, .ref o9, .int (zI S.2.1), .ref oz])), (o2, .inl (cI, 16, .inl (zia f2))), (o3, .inl (cI, 8, .inl (zia f3))), (o5, .inl (cI, 4, .inl (zia f5))), (o6, .inl (cI, 63, .inl (zia f6))), (o7, .inl (cZ, 2, .inl (zia f7))), (o8, .inl (cI, 6561, .inl (zia S.2.2))), (o9, .inl (cI, 6561, .inl (zia S.1))), (oz, .inl (cZ, 6561, .inl (zia (zup z h 0))))]) hx hb hK hP hD hS 8 2 rfl rfl (Nat.le_of_ble_eq_true rfl) dX5_nights_120 rfl (by omega) (rfl) (fun H locs hP hD hS => ?_)
      refine z_iinc (a := h) (k := 4) (lv' := [(4, .int (zI (h + 1))), (0, .ref o0), (1, .int (zI g)), (2, .int (zI (f6 (21 * (1 + g) + 0)))), (3, .int (zI j))]) hx hb dX5_nights_121 hl rfl (by decide) rfl (fun ls hl => ?_)
      refine lv_goto (tgt := 78) hx hb dX5_nights_124 (by decide) ?_
      exact ih m (h + 1) S (zup z h 0) n1 j (by omega) (by assumption) (by assumption) (by assumption) (by omega) (by assumption) (by exact zst hz (by unfold slM; rw [if_neg (fun q => absurd q.1 (by omega))])) (by exact hv) k_55 _ _ hP hD hS _ (lv_sub hl [1, 2, 3, 4, 0] rfl)
    refine lv_aload_n hx hb dX5_nights_106 rfl (lv_at hl 0 rfl) ?_
    refine lv_iload hx hb dX5_nights_107 (lv_at hl 4 rfl) ?_
    refine pc_V (As := [.int (zI h)]) (rest := [.int (zI h), .ref oz]) M (c_X5_leaksIn l D cB cI cZ cM _ o0 o1 o2 o3 o4 o5 o6 o7 o8 o9 oz tr td g1 g2 g3 g4 g5 g6 S.2.1 f2 f3 h (by first | assumption | omega) (by first | assumption | omega) (⟨hi.1, by omega⟩) (by first | assumption | omega)) gX5_nights_X5_leaksIn rfl ⟨rfl, hd_X5_leaksIn⟩ ⟨Nat.le_of_ble_eq_true rfl, Nat.le_of_ble_eq_true rfl⟩ hK hP [0, 1, 2] rfl 0 5 rfl rfl rfl hl.1 rfl rfl (Nat.le_of_ble_eq_true rfl) dX5_nights_109 ⟨Nat.le_of_ble_eq_true rfl, Nat.le_of_ble_eq_true rfl⟩ (fun r_109 h_109 => ?_)
    subst h_109
    have hlk5 := lkM_rng (slI (f2 0) h) f3 (f2 0) (f2 2) 8 0
    refine z_if_ne (tgt := 119) hx hb dX5_nights_112 (by decide) (by omega) (fun c_112 => ?_) (fun c_112 => ?_)
    · skip
      refine lv_iconst (v := zI 0) hx hb dX5_nights_119 rfl ?_
      refine z_zast (ws' := [(o0, .inr (5, [.long tr, .ref o1, .int (zI td), .ref o2, .ref o3, .ref o4, .ref o5, .int (zI g1), .int (zI g2), .int (zI g3), .int (zI g4), .int (zI g5), .int (zI g6), .ref o6, .ref o7, .ref o8, .ref o9, .int (zI S.2.1), .ref oz])), (o2, .inl (cI, 16, .inl (zia f2))), (o3, .inl (cI, 8, .inl (zia f3))), (o5, .inl (cI, 4, .inl (zia f5))), (o6, .inl (cI, 63, .inl (zia f6))), (o7, .inl (cZ, 2, .inl (zia f7))), (o8, .inl (cI, 6561, .inl (zia S.2.2))), (o9, .inl (cI, 6561, .inl (zia S.1))), (oz, .inl (cZ, 6561, .inl (zia (zup z h 0))))]) hx hb hK hP hD hS 8 2 rfl rfl (Nat.le_of_ble_eq_true rfl) dX5_nights_120 rfl (by omega) (rfl) (fun H locs hP hD hS => ?_)
      refine z_iinc (a := h) (k := 4) (lv' := [(4, .int (zI (h + 1))), (0, .ref o0), (1, .int (zI g)), (2, .int (zI (f6 (21 * (1 + g) + 0)))), (3, .int (zI j))]) hx hb dX5_nights_121 hl rfl (by decide) rfl (fun ls hl => ?_)
      refine lv_goto (tgt := 78) hx hb dX5_nights_124 (by decide) ?_
      exact ih m (h + 1) S (zup z h 0) n1 j (by omega) (by assumption) (by assumption) (by assumption) (by omega) (by assumption) (by exact zst hz (by unfold slM; rw [if_neg (fun q => c_112 q.2)])) (by exact hv) k_55 _ _ hP hD hS _ (lv_sub hl [1, 2, 3, 4, 0] rfl)
    refine lv_iconst (v := zI 1) hx hb dX5_nights_115 rfl ?_
    refine lv_goto (tgt := 120) hx hb dX5_nights_116 (by decide) ?_
    refine z_zast (ws' := [(o0, .inr (5, [.long tr, .ref o1, .int (zI td), .ref o2, .ref o3, .ref o4, .ref o5, .int (zI g1), .int (zI g2), .int (zI g3), .int (zI g4), .int (zI g5), .int (zI g6), .ref o6, .ref o7, .ref o8, .ref o9, .int (zI S.2.1), .ref oz])), (o2, .inl (cI, 16, .inl (zia f2))), (o3, .inl (cI, 8, .inl (zia f3))), (o5, .inl (cI, 4, .inl (zia f5))), (o6, .inl (cI, 63, .inl (zia f6))), (o7, .inl (cZ, 2, .inl (zia f7))), (o8, .inl (cI, 6561, .inl (zia S.2.2))), (o9, .inl (cI, 6561, .inl (zia S.1))), (oz, .inl (cZ, 6561, .inl (zia (zup z h 1))))]) hx hb hK hP hD hS 8 2 rfl rfl (Nat.le_of_ble_eq_true rfl) dX5_nights_120 rfl (by omega) (rfl) (fun H locs hP hD hS => ?_)
    refine z_iinc (a := h) (k := 4) (lv' := [(4, .int (zI (h + 1))), (0, .ref o0), (1, .int (zI g)), (2, .int (zI (f6 (21 * (1 + g) + 0)))), (3, .int (zI j))]) hx hb dX5_nights_121 hl rfl (by decide) rfl (fun ls hl => ?_)
    refine lv_goto (tgt := 78) hx hb dX5_nights_124 (by decide) ?_
    exact ih m (h + 1) S (zup z h 1) n1 j (by omega) (by assumption) (by assumption) (by assumption) (by omega) (by assumption) (by exact zst hz (by unfold slM; rw [if_pos (And.intro (by omega) c_112)])) (by exact hv) k_55 _ _ hP hD hS _ (lv_sub hl [1, 2, 3, 4, 0] rfl)
set_option maxHeartbeats 4000000 in
set_option maxRecDepth 100000 in
theorem lp_X5_nights_55 (l : Launch) (D : va_G) (cB cI cZ cM : ClassId) (o0 : Nat) (o1 : Nat) (o2 : Nat) (o3 : Nat) (o4 : Nat) (o5 : Nat) (o6 : Nat) (o7 : Nat) (o8 : Nat) (o9 : Nat) (oz : Nat) (tr : Int64) (td : Int) (g1 : Int) (g2 : Int) (g3 : Int) (g4 : Int) (g5 : Int) (g6 : Int) (g7 : Int) (f2 : Int → Int) (f3 : Int → Int) (f5 : Int → Int) (f6 : Int → Int) (f7 : Int → Int) (f8 : Int → Int) (f9 : Int → Int) (fz : Int → Int) (g : Int) (hp2 : okR f2 f3 f5) (hn6 : okN f2 f6) (h71 : ∀ i : Int, 0 ≤ i → i < 2 → f7 i = 0 ∨ f7 i = 1) (hki : ∀ g : Int, 0 ≤ g → g ≤ 1 → f7 g ≠ 0 → 0 ≤ f6 (21 * (1 + g) + 0) ∧ f6 (21 * (1 + g) + 0) < pw9 (f2 0)) (hg0 : -2147483648 ≤ g ∧ g < 2147483648) {pg : Program} {ev : Env} {sx : State} {mm : MethodId} {args : Array Value} {below : List Frame} {meth : Method} {cd : Code} (M : MX pg sx mm args meth cd cX5_nights 5 (some .int) RX5 wsX5_nights) (hK : va_K D vwCl (TYS cB cI cZ cM) sx) {A : Nat → Prop} (hA : ∀ q : Nat, sx.heap.size ≤ q → A q) : ∀ (N : Nat) (n0 : Nat) (j : Int) (S : BQ) (z : Int → Int), (n0 < N) → (0 ≤ g ∧ g ≤ 1) → (reM f7 g = 0) → (0 ≤ j ∧ j + n0 = 21) → (qkM (f2 0) S) → (nyM f2 f3 f5 (f6 (21 * (1 + g) + 0)) n0 j S = nyM f2 f3 f5 (f6 (21 * (1 + g) + 0)) 21 0 (gfM f2 f3 f5 (f2 7 - f6 2) 6562 0 (rcM (f6 0) 0 (f9, 0, fun _ => 9999)))) → ∀ (H : Heap) (locs : List Loc), va_P D vwCl [(o0, .inr (5, [.long tr, .ref o1, .int (zI td), .ref o2, .ref o3, .ref o4, .ref o5, .int (zI g1), .int (zI g2), .int (zI g3), .int (zI g4), .int (zI g5), .int (zI g6), .ref o6, .ref o7, .ref o8, .ref o9, .int (zI S.2.1), .ref oz])), (o2, .inl (cI, 16, .inl (zia f2))), (o3, .inl (cI, 8, .inl (zia f3))), (o5, .inl (cI, 4, .inl (zia f5))), (o6, .inl (cI, 63, .inl (zia f6))), (o7, .inl (cZ, 2, .inl (zia f7))), (o8, .inl (cI, 6561, .inl (zia S.2.2))), (o9, .inl (cI, 6561, .inl (zia S.1))), (oz, .inl (cZ, 6561, .inl (zia z)))] H → va_D A [(o0, .inr (5, [.long tr, .ref o1, .int (zI td), .ref o2, .ref o3, .ref o4, .ref o5, .int (zI g1), .int (zI g2), .int (zI g3), .int (zI g4), .int (zI g5), .int (zI g6), .ref o6, .ref o7, .ref o8, .ref o9, .int (zI S.2.1), .ref oz])), (o2, .inl (cI, 16, .inl (zia f2))), (o3, .inl (cI, 8, .inl (zia f3))), (o5, .inl (cI, 4, .inl (zia f5))), (o6, .inl (cI, 63, .inl (zia f6))), (o7, .inl (cZ, 2, .inl (zia f7))), (o8, .inl (cI, 6561, .inl (zia S.2.2))), (o9, .inl (cI, 6561, .inl (zia S.1))), (oz, .inl (cZ, 6561, .inl (zia z)))] → va_S A sx.heap H locs → ∀ ls : Array Slot, lv_has ls 5 [(0, .ref o0), (1, .int (zI g)), (2, .int (zI (f6 (21 * (1 + g) + 0)))), (3, .int (zI j))] → W pg l ev (rmW 5 0 0 121) sx mm args below meth cd H locs 0 0 (QWi below args sx A D (fun (r : Int32) (u : BQ × (Int → Int)) => r = zI (if reM f7 g = 0 then nyM f2 f3 f5 (f6 (21 * (1 + g) + 0)) 21 0 (gfM f2 f3 f5 (f2 7 - f6 2) 6562 0 (rcM (f6 0) 0 (f9, 0, fun _ => 9999))) else reM f7 g) ∧ (True)) (fun (u : BQ × (Int → Int)) => [(o0, .inr (5, [.long tr, .ref o1, .int (zI td), .ref o2, .ref o3, .ref o4, .ref o5, .int (zI g1), .int (zI g2), .int (zI g3), .int (zI g4), .int (zI g5), .int (zI g6), .ref o6, .ref o7, .ref o8, .ref o9, .int (zI u.1.2.1), .ref oz])), (o2, .inl (cI, 16, .inl (zia f2))), (o3, .inl (cI, 8, .inl (zia f3))), (o5, .inl (cI, 4, .inl (zia f5))), (o6, .inl (cI, 63, .inl (zia f6))), (o7, .inl (cZ, 2, .inl (zia f7))), (o8, .inl (cI, 6561, .inl (zia u.1.2.2))), (o9, .inl (cI, 6561, .inl (zia u.1.1))), (oz, .inl (cZ, 6561, .inl (zia u.2)))]) 0 0) (F0 mm 55 ls []) := by
  intro N
  induction N with
  | zero => intro n0 j S z hN; exact absurd hN (Nat.not_lt_zero _)
  | succ N ih =>
    intro n0 j S z hN hg1 c5 hj hs hv H locs hP hD hS ls hl
    obtain ⟨hx, hb, hr, hml, hown, hts, hlk, hN0⟩ := id M
    obtain ⟨hPm, hB1, hra, hsu, hvw, hno, hdn6, hha7, hso, hbm⟩ := id hp2
    obtain ⟨hhm, hdy, hac, hlk, hmn, hcl⟩ := id hn6
    have h9r := pw9_rng (n := f2 0) (by omega)
    have hki5 := hki g hg1.1 hg1.2 (reM_k c5)
    refine lv_iload_n hx hb dX5_nights_55 rfl (lv_at hl 3 rfl) ?_
    refine lv_bipush (v := zI 20) hx hb dX5_nights_56 (by decide) ?_
    refine z_icmp_gt (tgt := 183) hx hb dX5_nights_58 (by decide) (by omega) (fun c_58 => ?_) (fun c_58 => ?_)
    · skip
      obtain rfl : n0 = 0 := by omega
      refine lv_bipush (v := zI (-9)) hx hb dX5_nights_183 (by decide) ?_
      exact wr_reti M dX5_nights_185 (u := (S, z)) ⟨(congrArg zI (by rw [if_pos c5, ← hv, nyM])), (by trivial)⟩ hP hD hS
    obtain ⟨n0, rfl⟩ : ∃ x : Nat, n0 = x + 1 := ⟨n0 - 1, by omega⟩
    refine lv_aload_n hx hb dX5_nights_61 rfl (lv_at hl 0 rfl) ?_
    refine va_get (D := D) (ci := 5) (C := RX5) (T := TX5) (N := 19) hx hb hts inc_X5_nights_5 hown hK hP 0 rfl rfl 15 (by decide) (hts (.fieldLink RX5 33 "BedHouseModel" "off" "[I") (by decide +kernel)) (fun _ h9 => h9) rfl dX5_nights_62 ?_
    refine lv_iload_n hx hb dX5_nights_65 rfl (lv_at hl 2 rfl) ?_
    have hz5 := hs.2.2 (f6 (21 * (1 + g) + 0)) hki5.1 (by omega)
    refine z_iald hx hb hK hP 6 1 rfl rfl (Nat.le_of_ble_eq_true rfl) dX5_nights_66 (by omega) ?_
    refine lv_sipush (v := zI 9999) hx hb dX5_nights_67 (by decide) ?_
    refine z_icmp_ge (tgt := 75) hx hb dX5_nights_70 (by decide) (by omega) (fun c_70 => ?_) (fun c_70 => ?_)
    · skip
      refine lv_iconst (v := zI 0) hx hb dX5_nights_75 rfl ?_
      refine lv_istore (lv' := [(4, .int (zI 0)), (0, .ref o0), (1, .int (zI g)), (2, .int (zI (f6 (21 * (1 + g) + 0)))), (3, .int (zI j))]) hx hb dX5_nights_76 hl (by decide) rfl (fun ls hl => ?_)
      exact lp_X5_nights_78 l D cB cI cZ cM o0 o1 o2 o3 o4 o5 o6 o7 o8 o9 oz tr td g1 g2 g3 g4 g5 g6 g7 f2 f3 f5 f6 f7 f8 f9 fz g hp2 hn6 h71 hki hg0 M hK hA (((pw9 (f2 0)).toNat) + 1) ((pw9 (f2 0)).toNat) 0 S z n0 j (Nat.lt_succ_self _) (by assumption) (by assumption) (by omega) (by omega) (by assumption) (by exact fun x h1 h2 => by omega) (by rw [← hv, nyM, if_neg (by omega)]) (fun n0 j S z hg hg1 c5 hj hs hv H locs hP hD hS ls hl => ih n0 j S z (by omega) hg1 c5 hj hs hv H locs hP hD hS ls hl) _ _ hP hD hS _ (lv_sub hl [1, 2, 3, 4, 0] rfl)
    refine lv_iload_n hx hb dX5_nights_73 rfl (lv_at hl 3 rfl) ?_
    exact wr_reti M dX5_nights_74 (u := (S, z)) ⟨(congrArg zI (by rw [if_pos c5, ← hv, nyM, if_pos (by omega)])), (by trivial)⟩ hP hD hS
set_option maxHeartbeats 4000000 in
set_option maxRecDepth 100000 in
theorem c_X5_nights (l : Launch) (D : va_G) (cB cI cZ cM : ClassId) (Hp : Heap) (o0 : Nat) (o1 : Nat) (o2 : Nat) (o3 : Nat) (o4 : Nat) (o5 : Nat) (o6 : Nat) (o7 : Nat) (o8 : Nat) (o9 : Nat) (oz : Nat) (tr : Int64) (td : Int) (g1 : Int) (g2 : Int) (g3 : Int) (g4 : Int) (g5 : Int) (g6 : Int) (g7 : Int) (f2 : Int → Int) (f3 : Int → Int) (f5 : Int → Int) (f6 : Int → Int) (f7 : Int → Int) (f8 : Int → Int) (f9 : Int → Int) (fz : Int → Int) (g : Int) (hp2 : okR f2 f3 f5) (hn6 : okN f2 f6) (h71 : ∀ i : Int, 0 ≤ i → i < 2 → f7 i = 0 ∨ f7 i = 1) (hki : ∀ g : Int, 0 ≤ g → g ≤ 1 → f7 g ≠ 0 → 0 ≤ f6 (21 * (1 + g) + 0) ∧ f6 (21 * (1 + g) + 0) < pw9 (f2 0)) (hg0 : -2147483648 ≤ g ∧ g < 2147483648) : cWi l yX5_nights wsX5_nights (rmW 5 0 0 121) D (TYS cB cI cZ cM) [.ref o0, .int (zI g)] [(o0, .inr (5, [.long tr, .ref o1, .int (zI td), .ref o2, .ref o3, .ref o4, .ref o5, .int (zI g1), .int (zI g2), .int (zI g3), .int (zI g4), .int (zI g5), .int (zI g6), .ref o6, .ref o7, .ref o8, .ref o9, .int (zI g7), .ref oz])), (o2, .inl (cI, 16, .inl (zia f2))), (o3, .inl (cI, 8, .inl (zia f3))), (o5, .inl (cI, 4, .inl (zia f5))), (o6, .inl (cI, 63, .inl (zia f6))), (o7, .inl (cZ, 2, .inl (zia f7))), (o8, .inl (cI, 6561, .inl (zia f8))), (o9, .inl (cI, 6561, .inl (zia f9))), (oz, .inl (cZ, 6561, .inl (zia fz)))] Hp (fun (r : Int32) (u : BQ × (Int → Int)) => r = zI (if reM f7 g = 0 then nyM f2 f3 f5 (f6 (21 * (1 + g) + 0)) 21 0 (gfM f2 f3 f5 (f2 7 - f6 2) 6562 0 (rcM (f6 0) 0 (f9, 0, fun _ => 9999))) else reM f7 g) ∧ (True)) (fun (u : BQ × (Int → Int)) => [(o0, .inr (5, [.long tr, .ref o1, .int (zI td), .ref o2, .ref o3, .ref o4, .ref o5, .int (zI g1), .int (zI g2), .int (zI g3), .int (zI g4), .int (zI g5), .int (zI g6), .ref o6, .ref o7, .ref o8, .ref o9, .int (zI u.1.2.1), .ref oz])), (o2, .inl (cI, 16, .inl (zia f2))), (o3, .inl (cI, 8, .inl (zia f3))), (o5, .inl (cI, 4, .inl (zia f5))), (o6, .inl (cI, 63, .inl (zia f6))), (o7, .inl (cZ, 2, .inl (zia f7))), (o8, .inl (cI, 6561, .inl (zia u.1.2.2))), (o9, .inl (cI, 6561, .inl (zia u.1.1))), (oz, .inl (cZ, 6561, .inl (zia u.2)))]) 0 0 := by
  refine wr_starti (by decide) rfl (Nat.le_of_ble_eq_true rfl) ?_
  intro pg ev sx mm args below meth cd ls A M hP hD hS hA hK hl
  obtain ⟨hx, hb, hr, hml, hown, hts, hlk, hN0⟩ := id M
  have hl : lv_has ls 5 [(0, .ref o0), (1, .int (zI g))] := hl
  refine W.widen (k := 0) (n := 0) (Nat.zero_le _) (Nat.zero_le _) ?_
  obtain ⟨hPm, hB1, hra, hsu, hvw, hno, hdn6, hha7, hso, hbm⟩ := id hp2
  obtain ⟨hhm, hdy, hac, hlk, hmn, hcl⟩ := id hn6
  have h9r := pw9_rng (n := f2 0) (by omega)
  refine lv_aload_n hx hb dX5_nights_0 rfl (lv_at hl 0 rfl) ?_
  refine lv_iload_n hx hb dX5_nights_1 rfl (lv_at hl 1 rfl) ?_
  refine pc_V (As := [.int (zI g)]) (rest := []) M (c_X5_refuses l D cB cI cZ cM _ o0 o1 o2 o3 o4 o5 o6 o7 o8 o9 oz tr td g1 g2 g3 g4 g5 g6 g7 f7 g (by first | assumption | omega) (by first | assumption | omega)) gX5_nights_X5_refuses rfl ⟨rfl, hd_X5_refuses⟩ ⟨Nat.le_of_ble_eq_true rfl, Nat.le_of_ble_eq_true rfl⟩ hK hP [0, 5] rfl 0 5 rfl rfl rfl hl.1 rfl rfl (Nat.le_of_ble_eq_true rfl) dX5_nights_2 ⟨Nat.le_of_ble_eq_true rfl, Nat.le_of_ble_eq_true rfl⟩ (fun r_2 h_2 => ?_)
  subst h_2
  have hre := reM_rng f7 g
  refine z_if_eq (tgt := 14) hx hb dX5_nights_5 (by decide) (by omega) (fun c_5 => ?_) (fun c_5 => ?_)
  · skip
    have hg1 := reM_0 c_5
    have hki5 := hki g hg1.1 hg1.2 (reM_k c_5)
    have c5 := c_5
    refine lv_aload_n hx hb dX5_nights_14 rfl (lv_at hl 0 rfl) ?_
    refine lv_iload_n hx hb dX5_nights_15 rfl (lv_at hl 1 rfl) ?_
    refine pc_V (As := [.int (zI g)]) (rest := []) M (c_X5_houseOf l D cB cI cZ cM _ o0 o1 o2 o3 o4 o5 o6 o7 o8 o9 oz tr td g1 g2 g3 g4 g5 g6 g7 f6 g (by first | assumption | omega)) gX5_nights_X5_houseOf rfl ⟨rfl, hd_X5_houseOf⟩ ⟨Nat.le_of_ble_eq_true rfl, Nat.le_of_ble_eq_true rfl⟩ hK hP [0, 4] rfl 0 5 rfl rfl rfl hl.1 rfl rfl (Nat.le_of_ble_eq_true rfl) dX5_nights_16 ⟨Nat.le_of_ble_eq_true rfl, Nat.le_of_ble_eq_true rfl⟩ (fun r_16 h_16 => ?_)
    subst h_16
    refine lv_istore_n (lv' := [(2, .int (zI (f6 (21 * (1 + g) + 0)))), (0, .ref o0), (1, .int (zI g))]) hx hb dX5_nights_19 rfl hl (by decide) rfl (fun ls hl => ?_)
    refine lv_aload_n hx hb dX5_nights_20 rfl (lv_at hl 1 rfl) ?_
    refine wc_Vv (As := []) (rest := []) (wr := [(o2, .inl (cI, 16, .inl (zia f2))), (o3, .inl (cI, 8, .inl (zia f3))), (o5, .inl (cI, 4, .inl (zia f5))), (o6, .inl (cI, 63, .inl (zia f6))), (o7, .inl (cZ, 2, .inl (zia f7))), (o9, .inl (cI, 6561, .inl (zia f9))), (oz, .inl (cZ, 6561, .inl (zia fz)))]) (ws' := (fun _u : Unit => [(o0, .inr (5, [.long tr, .ref o1, .int (zI td), .ref o2, .ref o3, .ref o4, .ref o5, .int (zI g1), .int (zI g2), .int (zI g3), .int (zI g4), .int (zI g5), .int (zI g6), .ref o6, .ref o7, .ref o8, .ref o9, .int (zI 0), .ref oz])), (o2, .inl (cI, 16, .inl (zia f2))), (o3, .inl (cI, 8, .inl (zia f3))), (o5, .inl (cI, 4, .inl (zia f5))), (o6, .inl (cI, 63, .inl (zia f6))), (o7, .inl (cZ, 2, .inl (zia f7))), (o8, .inl (cI, 6561, .inl (zia (fun _ => 9999)))), (o9, .inl (cI, 6561, .inl (zia f9))), (oz, .inl (cZ, 6561, .inl (zia fz)))])) M (c_X5_none l D cB cI cZ cM _ o0 o1 o2 o3 o4 o5 o6 o7 o8 o9 oz tr td g1 g2 g3 g4 g5 g6 g7 f8 ) gX5_nights_X5_none rfl ⟨rfl, hd_X5_none⟩ ⟨Nat.le_of_ble_eq_true rfl, Nat.le_of_ble_eq_true rfl⟩ hK hP hD hS hA [0, 6] [1, 2, 3, 4, 5, 7, 8] [7, 0, 1, 2, 3, 4, 8, 5, 6] rfl rfl (by decide) (by decide) (by decide) (fun _ => rfl) 0 5 rfl rfl rfl hl.1 rfl rfl (Nat.le_of_ble_eq_true rfl) dX5_nights_21 ⟨Nat.le_of_ble_eq_true rfl, Nat.le_of_ble_eq_true rfl⟩ (by decide) (fun _u H locs h_21 hP hD hS => ?_)
    refine lv_aload_n hx hb dX5_nights_24 rfl (lv_at hl 1 rfl) ?_
    refine lv_aload_n hx hb dX5_nights_25 rfl (lv_at hl 1 rfl) ?_
    refine va_get (D := D) (ci := 5) (C := RX5) (T := TX5) (N := 19) hx hb hts inc_X5_nights_5 hown hK hP 0 rfl rfl 13 (by decide) (hts (.fieldLink RX5 26 "BedHouseModel" "now" "[I") (by decide +kernel)) (fun _ h9 => h9) rfl dX5_nights_26 ?_
    refine lv_iconst (v := zI 0) hx hb dX5_nights_29 rfl ?_
    refine z_iald hx hb hK hP 4 1 rfl rfl (Nat.le_of_ble_eq_true rfl) dX5_nights_30 (by omega) ?_
    refine lv_iconst (v := zI 0) hx hb dX5_nights_31 rfl ?_
    refine wc_Vv (As := [.int (zI (f6 0)), .int (zI 0)]) (rest := []) (wr := [(o2, .inl (cI, 16, .inl (zia f2))), (o3, .inl (cI, 8, .inl (zia f3))), (o5, .inl (cI, 4, .inl (zia f5))), (o6, .inl (cI, 63, .inl (zia f6))), (o7, .inl (cZ, 2, .inl (zia f7))), (oz, .inl (cZ, 6561, .inl (zia fz)))]) (ws' := (fun u_32 : BQ => [(o0, .inr (5, [.long tr, .ref o1, .int (zI td), .ref o2, .ref o3, .ref o4, .ref o5, .int (zI g1), .int (zI g2), .int (zI g3), .int (zI g4), .int (zI g5), .int (zI g6), .ref o6, .ref o7, .ref o8, .ref o9, .int (zI u_32.2.1), .ref oz])), (o2, .inl (cI, 16, .inl (zia f2))), (o3, .inl (cI, 8, .inl (zia f3))), (o5, .inl (cI, 4, .inl (zia f5))), (o6, .inl (cI, 63, .inl (zia f6))), (o7, .inl (cZ, 2, .inl (zia f7))), (o8, .inl (cI, 6561, .inl (zia u_32.2.2))), (o9, .inl (cI, 6561, .inl (zia u_32.1))), (oz, .inl (cZ, 6561, .inl (zia fz)))])) M (c_X5_reach l D cB cI cZ cM _ o0 o1 o2 o3 o4 o5 o6 o7 o8 o9 oz tr td g1 g2 g3 g4 g5 g6 0 f2 (fun _ => 9999) f9 (f6 0) 0 (by first | assumption | omega) (qkM_0 (f2 0) f9) (hhm) (⟨by omega, by omega⟩)) gX5_nights_X5_reach rfl ⟨rfl, hd_X5_reach⟩ ⟨Nat.le_of_ble_eq_true rfl, Nat.le_of_ble_eq_true rfl⟩ hK hP hD hS hA [0, 6, 7] [1, 2, 3, 4, 5, 8] [6, 0, 1, 2, 3, 4, 7, 8, 5] rfl rfl (by decide) (by decide) (by decide) (fun _ => rfl) 0 5 rfl rfl rfl hl.1 rfl rfl (Nat.le_of_ble_eq_true rfl) dX5_nights_32 ⟨Nat.le_of_ble_eq_true rfl, Nat.le_of_ble_eq_true rfl⟩ (by decide) (fun u_32 H locs h_32 hP hD hS => ?_)
    have hr32 : qkM (f2 0) u_32 := by rw [h_32]; exact rc0_ok hPm.2 hhm
    refine lv_aload_n hx hb dX5_nights_35 rfl (lv_at hl 1 rfl) ?_
    refine lv_aload_n hx hb dX5_nights_36 rfl (lv_at hl 1 rfl) ?_
    refine va_get (D := D) (ci := 5) (C := RX5) (T := TX5) (N := 19) hx hb hts inc_X5_nights_5 hown hK hP 0 rfl rfl 3 (by decide) (hts (.fieldLink RX5 13 "BedHouseModel" "plan" "[I") (by decide +kernel)) (fun _ h9 => h9) rfl dX5_nights_37 ?_
    refine lv_bipush (v := zI 7) hx hb dX5_nights_40 (by decide) ?_
    refine z_iald hx hb hK hP 1 1 rfl rfl (Nat.le_of_ble_eq_true rfl) dX5_nights_42 (by omega) ?_
    refine lv_aload_n hx hb dX5_nights_43 rfl (lv_at hl 1 rfl) ?_
    refine va_get (D := D) (ci := 5) (C := RX5) (T := TX5) (N := 19) hx hb hts inc_X5_nights_5 hown hK hP 0 rfl rfl 13 (by decide) (hts (.fieldLink RX5 26 "BedHouseModel" "now" "[I") (by decide +kernel)) (fun _ h9 => h9) rfl dX5_nights_44 ?_
    refine lv_iconst (v := zI 2) hx hb dX5_nights_47 rfl ?_
    refine z_iald hx hb hK hP 4 1 rfl rfl (Nat.le_of_ble_eq_true rfl) dX5_nights_48 (by omega) ?_
    refine z_isub hx hb dX5_nights_49 ?_
    refine wc_Vv (As := [.int (zI ((f2 7) - (f6 2)))]) (rest := []) (wr := [(o6, .inl (cI, 63, .inl (zia f6))), (o7, .inl (cZ, 2, .inl (zia f7))), (oz, .inl (cZ, 6561, .inl (zia fz)))]) (ws' := (fun u_50 : BQ => [(o0, .inr (5, [.long tr, .ref o1, .int (zI td), .ref o2, .ref o3, .ref o4, .ref o5, .int (zI g1), .int (zI g2), .int (zI g3), .int (zI g4), .int (zI g5), .int (zI g6), .ref o6, .ref o7, .ref o8, .ref o9, .int (zI u_50.2.1), .ref oz])), (o2, .inl (cI, 16, .inl (zia f2))), (o3, .inl (cI, 8, .inl (zia f3))), (o5, .inl (cI, 4, .inl (zia f5))), (o6, .inl (cI, 63, .inl (zia f6))), (o7, .inl (cZ, 2, .inl (zia f7))), (o8, .inl (cI, 6561, .inl (zia u_50.2.2))), (o9, .inl (cI, 6561, .inl (zia u_50.1))), (oz, .inl (cZ, 6561, .inl (zia fz)))])) M (c_X5_go l D cB cI cZ cM _ o0 o1 o2 o3 o4 o5 o6 o7 o8 o9 oz tr td g1 g2 g3 g4 g5 g6 u_32.2.1 f2 f3 f5 u_32.2.2 u_32.1 ((f2 7) - (f6 2)) (by first | assumption | omega) (hr32) (by omega)) gX5_nights_X5_go rfl ⟨rfl, hd_X5_go⟩ ⟨Nat.le_of_ble_eq_true rfl, Nat.le_of_ble_eq_true rfl⟩ hK hP hD hS hA [0, 1, 2, 3, 6, 7] [4, 5, 8] [3, 4, 5, 6, 0, 1, 7, 8, 2] rfl rfl (by decide) (by decide) (by decide) (fun _ => rfl) 0 5 rfl rfl rfl hl.1 rfl rfl (Nat.le_of_ble_eq_true rfl) dX5_nights_50 ⟨Nat.le_of_ble_eq_true rfl, Nat.le_of_ble_eq_true rfl⟩ (by decide) (fun u_50 H locs h_50 hP hD hS => ?_)
    have hr50 : qkM (f2 0) u_50 := by rw [h_50]; exact gfM_ok hPm _ _ _ (by omega) hr32
    refine lv_iconst (v := zI 0) hx hb dX5_nights_53 rfl ?_
    refine lv_istore_n (lv' := [(3, .int (zI 0)), (2, .int (zI (f6 (21 * (1 + g) + 0)))), (0, .ref o0), (1, .int (zI g))]) hx hb dX5_nights_54 rfl hl (by decide) rfl (fun ls hl => ?_)
    exact lp_X5_nights_55 l D cB cI cZ cM o0 o1 o2 o3 o4 o5 o6 o7 o8 o9 oz tr td g1 g2 g3 g4 g5 g6 g7 f2 f3 f5 f6 f7 f8 f9 fz g hp2 hn6 h71 hki hg0 M hK hA (21 + 1) 21 0 u_50 fz (Nat.lt_succ_self _) (by assumption) (by assumption) (by omega) (by exact hr50) (by rw [h_50, show (u_32.1, u_32.2.1, u_32.2.2) = u_32 from rfl, h_32]) _ _ hP hD hS _ (lv_sub hl [2, 3, 1, 0] rfl)
  refine lv_aload_n hx hb dX5_nights_8 rfl (lv_at hl 0 rfl) ?_
  refine lv_iload_n hx hb dX5_nights_9 rfl (lv_at hl 1 rfl) ?_
  refine pc_V (As := [.int (zI g)]) (rest := []) M (c_X5_refuses l D cB cI cZ cM _ o0 o1 o2 o3 o4 o5 o6 o7 o8 o9 oz tr td g1 g2 g3 g4 g5 g6 g7 f7 g (by first | assumption | omega) (by first | assumption | omega)) gX5_nights_X5_refuses rfl ⟨rfl, hd_X5_refuses⟩ ⟨Nat.le_of_ble_eq_true rfl, Nat.le_of_ble_eq_true rfl⟩ hK hP [0, 5] rfl 0 5 rfl rfl rfl hl.1 rfl rfl (Nat.le_of_ble_eq_true rfl) dX5_nights_10 ⟨Nat.le_of_ble_eq_true rfl, Nat.le_of_ble_eq_true rfl⟩ (fun r_10 h_10 => ?_)
  subst h_10
  exact wr_reti M dX5_nights_13 (u := ((f9, g7, f8), fz)) ⟨(congrArg zI (by rw [if_neg c_5])), (by trivial)⟩ hP hD hS
