theorem inc_X1_init_1 : ∀ w ∈ wsX10, w ∈ wsX1_init := by decide +kernel
set_option maxHeartbeats 4000000 in
set_option maxRecDepth 100000 in
theorem c_X1_init (l : Launch) (D : va_G) (cB cI cZ cM : ClassId) (Hp : Heap) (pa : Nat) : cCv l yX1_init wsX1_init (rmW 1 2 6 20) D (TYS cB cI cZ cM) [.ref pa] [(pa, .inr (1, [.null, .int (zI 0), .int (zI 0), .null, .int (zI 0), .int (zI 0), .int (zI 0), .int (zI 0), .int (zI 0), .int (zI 0), .int (zI 0)]))] Hp (fun _ : Nat → Nat => True) (fun u : Nat → Nat => [(pa, .inr (1, [.ref (u 0), .int (zI 0), .int (zI 0), .ref (u 1), .int (zI 0), .int (zI 0), .int (zI 0), .int (zI (-9)), .int (zI (-9)), .int (zI 3), .int (zI 2)])), (u 0, .inl (cI, 4, .inl (zia (fun _ => 0)))), (u 1, .inl (cI, 2, .inl (zia (fun _ => 0))))]) 2 6 := by
  refine wr_startC (by decide) rfl (Nat.le_of_ble_eq_true rfl) rfl ?_
  intro pg ev sx mm args below meth cd ls A M hin hO hP hD hS hA hK hl
  obtain ⟨hx, hb, hr, hml, hown, hts, hlk, hN0⟩ := id M
  have hl : lv_has ls 1 [(0, .ref pa)] := hl
  refine lv_aload_n hx hb dX1_init_0 rfl (lv_at hl 0 rfl) ?_
  refine W.objInit hx hb hown (hts (.methodLink RX1 3 objectInit) (by decide +kernel)) (hts (.instanceMethod objectInit) (by decide +kernel)) (hts (.code objectInit ⟨#[0xb1]⟩ 1 none) (List.mem_of_getElem? (i := 3) rfl)) rfl (by rw [hml]; exact hl.1) rfl dX1_init_1 (Nat.le_of_ble_eq_true rfl) (Nat.le_of_ble_eq_true rfl) ?_
  refine W.eq (g2 := F0 mm 4 ls []) rfl ?_
  refine lv_aload_n hx hb dX1_init_4 rfl (lv_at hl 0 rfl) ?_
  refine lv_iconst (v := zI 4) hx hb dX1_init_5 rfl ?_
  refine z_newT (atype := .int) (ty := .int) (N' := 4) hx hb (hts (.arrayClass .int) (by decide +kernel)) rfl rfl hK hP hD hS hA 1 rfl (fun _ h9 => h9) (by omega) rfl (by show 4 * 4 ≤ 536870912; omega) (by show (_ : Nat) ≤ 2; omega) (by show (_ : Nat) ≤ 6; omega) dX1_init_6 (fun q6 H hP hD hS => ?_)
  have hP : va_P D vwCl [(pa, .inr (1, [.null, .int (zI 0), .int (zI 0), .null, .int (zI 0), .int (zI 0), .int (zI 0), .int (zI 0), .int (zI 0), .int (zI 0), .int (zI 0)])), (q6, .inl (cI, 4, .inl (zia (fun _ => 0))))] H := hP
  have hD : va_D A [(pa, .inr (1, [.null, .int (zI 0), .int (zI 0), .null, .int (zI 0), .int (zI 0), .int (zI 0), .int (zI 0), .int (zI 0), .int (zI 0), .int (zI 0)])), (q6, .inl (cI, 4, .inl (zia (fun _ => 0))))] := hD
  refine va_putF (D := D) (ci := 1) (v := .ref q6) (ty := .array .int) (C := RX1) (T := TX1) (N := 11) hx hb hts inc_X1_init_1 tyX1 tyX1_ok nmX1 hown hK hP hD hS 0 rfl rfl 0 (by decide) (hts (.fieldLink RX1 9 "BedHouse$Plan" "sorts" "[I") (by decide +kernel)) (fun _ h9 => h9) rfl hin rfl (by decide +kernel) rfl rfl (Nat.le_of_ble_eq_true rfl) dX1_init_8 (fun H locs hP hD hS => ?_)
  have hP : va_P D vwCl [(pa, .inr (1, [.ref q6, .int (zI 0), .int (zI 0), .null, .int (zI 0), .int (zI 0), .int (zI 0), .int (zI 0), .int (zI 0), .int (zI 0), .int (zI 0)])), (q6, .inl (cI, 4, .inl (zia (fun _ => 0))))] H := hP
  have hD : va_D A [(pa, .inr (1, [.ref q6, .int (zI 0), .int (zI 0), .null, .int (zI 0), .int (zI 0), .int (zI 0), .int (zI 0), .int (zI 0), .int (zI 0), .int (zI 0)])), (q6, .inl (cI, 4, .inl (zia (fun _ => 0))))] := hD
  refine lv_aload_n hx hb dX1_init_11 rfl (lv_at hl 0 rfl) ?_
  refine lv_iconst (v := zI 2) hx hb dX1_init_12 rfl ?_
  refine z_newT (atype := .int) (ty := .int) (N' := 2) hx hb (hts (.arrayClass .int) (by decide +kernel)) rfl rfl hK hP hD hS hA 1 rfl (fun _ h9 => h9) (by omega) rfl (by show 2 * 4 ≤ 536870912; omega) (by show (_ : Nat) ≤ 2; omega) (by show (_ : Nat) ≤ 6; omega) dX1_init_13 (fun q13 H hP hD hS => ?_)
  have hP : va_P D vwCl [(pa, .inr (1, [.ref q6, .int (zI 0), .int (zI 0), .null, .int (zI 0), .int (zI 0), .int (zI 0), .int (zI 0), .int (zI 0), .int (zI 0), .int (zI 0)])), (q6, .inl (cI, 4, .inl (zia (fun _ => 0)))), (q13, .inl (cI, 2, .inl (zia (fun _ => 0))))] H := hP
  have hD : va_D A [(pa, .inr (1, [.ref q6, .int (zI 0), .int (zI 0), .null, .int (zI 0), .int (zI 0), .int (zI 0), .int (zI 0), .int (zI 0), .int (zI 0), .int (zI 0)])), (q6, .inl (cI, 4, .inl (zia (fun _ => 0)))), (q13, .inl (cI, 2, .inl (zia (fun _ => 0))))] := hD
  refine va_putF (D := D) (ci := 1) (v := .ref q13) (ty := .array .int) (C := RX1) (T := TX1) (N := 11) hx hb hts inc_X1_init_1 tyX1 tyX1_ok nmX1 hown hK hP hD hS 0 rfl rfl 3 (by decide) (hts (.fieldLink RX1 15 "BedHouse$Plan" "beamSlots" "[I") (by decide +kernel)) (fun _ h9 => h9) rfl hin rfl (by decide +kernel) rfl rfl (Nat.le_of_ble_eq_true rfl) dX1_init_15 (fun H locs hP hD hS => ?_)
  have hP : va_P D vwCl [(pa, .inr (1, [.ref q6, .int (zI 0), .int (zI 0), .ref q13, .int (zI 0), .int (zI 0), .int (zI 0), .int (zI 0), .int (zI 0), .int (zI 0), .int (zI 0)])), (q6, .inl (cI, 4, .inl (zia (fun _ => 0)))), (q13, .inl (cI, 2, .inl (zia (fun _ => 0))))] H := hP
  have hD : va_D A [(pa, .inr (1, [.ref q6, .int (zI 0), .int (zI 0), .ref q13, .int (zI 0), .int (zI 0), .int (zI 0), .int (zI 0), .int (zI 0), .int (zI 0), .int (zI 0)])), (q6, .inl (cI, 4, .inl (zia (fun _ => 0)))), (q13, .inl (cI, 2, .inl (zia (fun _ => 0))))] := hD
  refine lv_aload_n hx hb dX1_init_18 rfl (lv_at hl 0 rfl) ?_
  refine wc_Vv (As := []) (rest := []) (wr := []) (ws' := (fun _u : Unit => [(pa, .inr (1, [.ref q6, .int (zI 0), .int (zI 0), .ref q13, .int (zI 0), .int (zI 0), .int (zI 0), .int (zI (-9)), .int (zI (-9)), .int (zI 3), .int (zI 2)])), (q6, .inl (cI, 4, .inl (zia (fun _ => 0)))), (q13, .inl (cI, 2, .inl (zia (fun _ => 0))))])) M (c_X1_startAnew l D cB cI cZ cM _ pa q6 q13 (fun _ => 0) (fun _ => 0) 0 0 0 0 0 0 0 0 0 ) gX1_init_X1_startAnew rfl ⟨rfl, hd_X1_startAnew⟩ ⟨Nat.le_of_ble_eq_true rfl, Nat.le_of_ble_eq_true rfl⟩ hK hP hD hS hA [0, 1, 2] [] [0, 1, 2] rfl rfl (by decide) (by decide) (by decide) (fun _ => rfl) 0 1 rfl rfl rfl hl.1 rfl rfl (Nat.le_of_ble_eq_true rfl) dX1_init_19 ⟨Nat.le_of_ble_eq_true rfl, Nat.le_of_ble_eq_true rfl⟩ (by decide) (fun _u H locs h_19 hP hD hS => ?_)
  exact wr_retv M dX1_init_22 (u := fun k => [q6, q13].getD k 0) trivial hP hD hS
