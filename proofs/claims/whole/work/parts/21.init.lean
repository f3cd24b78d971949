theorem inc_X2_init_2 : ∀ w ∈ wsX20, w ∈ wsX2_init := by decide +kernel
theorem inc_X3_init_3 : ∀ w ∈ wsX30, w ∈ wsX3_init := by decide +kernel
set_option maxHeartbeats 4000000 in
set_option maxRecDepth 100000 in
theorem c_X0_init (l : Launch) (D : va_G) (cB cI cZ cM : ClassId) (Hp : Heap) (ma : Nat) : cCv l yX0_init wsX0_init (rmW 1 0 0 20) D (TYS cB cI cZ cM) [.ref ma] [(ma, .inr (0, [.int (zI 0), .int (zI 0), .int (zI 0), .int (zI 0), .int (zI 0), .int (zI 0), .int (zI 0), .int (zI 0)]))] Hp (fun _ : Nat → Nat => True) (fun u : Nat → Nat => [(ma, .inr (0, [.int (zI 0), .int (zI 0), .int (zI 0), .int (zI 0), .int (zI 0), .int (zI 0), .int (zI 0), .int (zI 0)]))]) 0 0 := by
  refine wr_startC (by decide) rfl (Nat.le_of_ble_eq_true rfl) rfl ?_
  intro pg ev sx mm args below meth cd ls A M hin hO hP hD hS hA hK hl
  obtain ⟨hx, hb, hr, hml, hown, hts, hlk, hN0⟩ := id M
  have hl : lv_has ls 1 [(0, .ref ma)] := hl
  refine lv_aload_n hx hb dX0_init_0 rfl (lv_at hl 0 rfl) ?_
  refine W.objInit hx hb hown (hts (.methodLink RX0 1 objectInit) (by decide +kernel)) (hts (.instanceMethod objectInit) (by decide +kernel)) (hts (.code objectInit ⟨#[0xb1]⟩ 1 none) (List.mem_of_getElem? (i := 3) rfl)) rfl (by rw [hml]; exact hl.1) rfl dX0_init_1 (Nat.le_of_ble_eq_true rfl) (Nat.le_of_ble_eq_true rfl) ?_
  refine W.eq (g2 := F0 mm 4 ls []) rfl ?_
  exact wr_retv M dX0_init_4 (u := fun k => [].getD k 0) trivial hP hD hS
set_option maxHeartbeats 4000000 in
set_option maxRecDepth 100000 in
theorem c_X2_init (l : Launch) (D : va_G) (cB cI cZ cM : ClassId) (Hp : Heap) (ga : Nat) : cCv l yX2_init wsX2_init (rmW 1 3 16516 20) D (TYS cB cI cZ cM) [.ref ga] [(ga, .inr (2, [.null, .null, .null, .int (zI 0), .int (zI 0)]))] Hp (fun _ : Nat → Nat => True) (fun u : Nat → Nat => [(ga, .inr (2, [.ref (u 0), .ref (u 1), .ref (u 2), .int (zI 0), .int (zI 0)])), (u 0, .inl (cB, 6561, .inl (zia (fun _ => 0)))), (u 1, .inl (cI, 6561, .inl (zia (fun _ => 0)))), (u 2, .inl (cI, 3394, .inl (zia (fun _ => 0))))]) 3 16516 := by
  refine wr_startC (by decide) rfl (Nat.le_of_ble_eq_true rfl) rfl ?_
  intro pg ev sx mm args below meth cd ls A M hin hO hP hD hS hA hK hl
  obtain ⟨hx, hb, hr, hml, hown, hts, hlk, hN0⟩ := id M
  have hl : lv_has ls 1 [(0, .ref ga)] := hl
  refine lv_aload_n hx hb dX2_init_0 rfl (lv_at hl 0 rfl) ?_
  refine W.objInit hx hb hown (hts (.methodLink RX2 3 objectInit) (by decide +kernel)) (hts (.instanceMethod objectInit) (by decide +kernel)) (hts (.code objectInit ⟨#[0xb1]⟩ 1 none) (List.mem_of_getElem? (i := 3) rfl)) rfl (by rw [hml]; exact hl.1) rfl dX2_init_1 (Nat.le_of_ble_eq_true rfl) (Nat.le_of_ble_eq_true rfl) ?_
  refine W.eq (g2 := F0 mm 4 ls []) rfl ?_
  refine lv_aload_n hx hb dX2_init_4 rfl (lv_at hl 0 rfl) ?_
  refine lv_sipush (v := zI 6561) hx hb dX2_init_5 (by decide) ?_
  refine z_newT (atype := .byte) (ty := .byte) (N' := 6561) hx hb (hts (.arrayClass .byte) (by decide +kernel)) rfl rfl hK hP hD hS hA 0 rfl (fun _ h9 => h9) (by omega) rfl (by show 6561 * 1 ≤ 536870912; omega) (by show (_ : Nat) ≤ 3; omega) (by show (_ : Nat) ≤ 16516; omega) dX2_init_8 (fun q8 H hP hD hS => ?_)
  have hP : va_P D vwCl [(ga, .inr (2, [.null, .null, .null, .int (zI 0), .int (zI 0)])), (q8, .inl (cB, 6561, .inl (zia (fun _ => 0))))] H := hP
  have hD : va_D A [(ga, .inr (2, [.null, .null, .null, .int (zI 0), .int (zI 0)])), (q8, .inl (cB, 6561, .inl (zia (fun _ => 0))))] := hD
  refine va_putF (D := D) (ci := 2) (v := .ref q8) (ty := .array .byte) (C := RX2) (T := TX2) (N := 5) hx hb hts inc_X2_init_2 tyX2 tyX2_ok nmX2 hown hK hP hD hS 0 rfl rfl 0 (by decide) (hts (.fieldLink RX2 11 "BedHouse$Search" "lawful" "[B") (by decide +kernel)) (fun _ h9 => h9) rfl hin rfl (by decide +kernel) rfl rfl (Nat.le_of_ble_eq_true rfl) dX2_init_10 (fun H locs hP hD hS => ?_)
  have hP : va_P D vwCl [(ga, .inr (2, [.ref q8, .null, .null, .int (zI 0), .int (zI 0)])), (q8, .inl (cB, 6561, .inl (zia (fun _ => 0))))] H := hP
  have hD : va_D A [(ga, .inr (2, [.ref q8, .null, .null, .int (zI 0), .int (zI 0)])), (q8, .inl (cB, 6561, .inl (zia (fun _ => 0))))] := hD
  refine lv_aload_n hx hb dX2_init_13 rfl (lv_at hl 0 rfl) ?_
  refine lv_sipush (v := zI 6561) hx hb dX2_init_14 (by decide) ?_
  refine z_newT (atype := .int) (ty := .int) (N' := 6561) hx hb (hts (.arrayClass .int) (by decide +kernel)) rfl rfl hK hP hD hS hA 1 rfl (fun _ h9 => h9) (by omega) rfl (by show 6561 * 4 ≤ 536870912; omega) (by show (_ : Nat) ≤ 3; omega) (by show (_ : Nat) ≤ 16516; omega) dX2_init_17 (fun q17 H hP hD hS => ?_)
  have hP : va_P D vwCl [(ga, .inr (2, [.ref q8, .null, .null, .int (zI 0), .int (zI 0)])), (q8, .inl (cB, 6561, .inl (zia (fun _ => 0)))), (q17, .inl (cI, 6561, .inl (zia (fun _ => 0))))] H := hP
  have hD : va_D A [(ga, .inr (2, [.ref q8, .null, .null, .int (zI 0), .int (zI 0)])), (q8, .inl (cB, 6561, .inl (zia (fun _ => 0)))), (q17, .inl (cI, 6561, .inl (zia (fun _ => 0))))] := hD
  refine va_putF (D := D) (ci := 2) (v := .ref q17) (ty := .array .int) (C := RX2) (T := TX2) (N := 5) hx hb hts inc_X2_init_2 tyX2 tyX2_ok nmX2 hown hK hP hD hS 0 rfl rfl 1 (by decide) (hts (.fieldLink RX2 15 "BedHouse$Search" "far" "[I") (by decide +kernel)) (fun _ h9 => h9) rfl hin rfl (by decide +kernel) rfl rfl (Nat.le_of_ble_eq_true rfl) dX2_init_19 (fun H locs hP hD hS => ?_)
  have hP : va_P D vwCl [(ga, .inr (2, [.ref q8, .ref q17, .null, .int (zI 0), .int (zI 0)])), (q8, .inl (cB, 6561, .inl (zia (fun _ => 0)))), (q17, .inl (cI, 6561, .inl (zia (fun _ => 0))))] H := hP
  have hD : va_D A [(ga, .inr (2, [.ref q8, .ref q17, .null, .int (zI 0), .int (zI 0)])), (q8, .inl (cB, 6561, .inl (zia (fun _ => 0)))), (q17, .inl (cI, 6561, .inl (zia (fun _ => 0))))] := hD
  refine lv_aload_n hx hb dX2_init_22 rfl (lv_at hl 0 rfl) ?_
  refine lv_sipush (v := zI 3394) hx hb dX2_init_23 (by decide) ?_
  refine z_newT (atype := .int) (ty := .int) (N' := 3394) hx hb (hts (.arrayClass .int) (by decide +kernel)) rfl rfl hK hP hD hS hA 1 rfl (fun _ h9 => h9) (by omega) rfl (by show 3394 * 4 ≤ 536870912; omega) (by show (_ : Nat) ≤ 3; omega) (by show (_ : Nat) ≤ 16516; omega) dX2_init_26 (fun q26 H hP hD hS => ?_)
  have hP : va_P D vwCl [(ga, .inr (2, [.ref q8, .ref q17, .null, .int (zI 0), .int (zI 0)])), (q8, .inl (cB, 6561, .inl (zia (fun _ => 0)))), (q17, .inl (cI, 6561, .inl (zia (fun _ => 0)))), (q26, .inl (cI, 3394, .inl (zia (fun _ => 0))))] H := hP
  have hD : va_D A [(ga, .inr (2, [.ref q8, .ref q17, .null, .int (zI 0), .int (zI 0)])), (q8, .inl (cB, 6561, .inl (zia (fun _ => 0)))), (q17, .inl (cI, 6561, .inl (zia (fun _ => 0)))), (q26, .inl (cI, 3394, .inl (zia (fun _ => 0))))] := hD
  refine va_putF (D := D) (ci := 2) (v := .ref q26) (ty := .array .int) (C := RX2) (T := TX2) (N := 5) hx hb hts inc_X2_init_2 tyX2 tyX2_ok nmX2 hown hK hP hD hS 0 rfl rfl 2 (by decide) (hts (.fieldLink RX2 19 "BedHouse$Search" "queue" "[I") (by decide +kernel)) (fun _ h9 => h9) rfl hin rfl (by decide +kernel) rfl rfl (Nat.le_of_ble_eq_true rfl) dX2_init_28 (fun H locs hP hD hS => ?_)
  have hP : va_P D vwCl [(ga, .inr (2, [.ref q8, .ref q17, .ref q26, .int (zI 0), .int (zI 0)])), (q8, .inl (cB, 6561, .inl (zia (fun _ => 0)))), (q17, .inl (cI, 6561, .inl (zia (fun _ => 0)))), (q26, .inl (cI, 3394, .inl (zia (fun _ => 0))))] H := hP
  have hD : va_D A [(ga, .inr (2, [.ref q8, .ref q17, .ref q26, .int (zI 0), .int (zI 0)])), (q8, .inl (cB, 6561, .inl (zia (fun _ => 0)))), (q17, .inl (cI, 6561, .inl (zia (fun _ => 0)))), (q26, .inl (cI, 3394, .inl (zia (fun _ => 0))))] := hD
  exact wr_retv M dX2_init_31 (u := fun k => [q8, q17, q26].getD k 0) trivial hP hD hS
set_option maxHeartbeats 4000000 in
set_option maxRecDepth 100000 in
theorem c_X3_init (l : Launch) (D : va_G) (cB cI cZ cM : ClassId) (Hp : Heap) (ta : Nat) : cCv l yX3_init wsX3_init (rmW 1 1 200 20) D (TYS cB cI cZ cM) [.ref ta] [(ta, .inr (3, [.null, .int (zI 0), .int (zI 0), .int (zI 0), .int (zI 0), .int (zI 0), .int (zI 0), .int (zI 0)]))] Hp (fun _ : Nat → Nat => True) (fun u : Nat → Nat => [(ta, .inr (3, [.ref (u 0), .int (zI 0), .int (zI 0), .int (zI 0), .int (zI 0), .int (zI 0), .int (zI 0), .int (zI 0)])), (u 0, .inl (cI, 200, .inl (zia (fun _ => 0))))]) 1 200 := by
  refine wr_startC (by decide) rfl (Nat.le_of_ble_eq_true rfl) rfl ?_
  intro pg ev sx mm args below meth cd ls A M hin hO hP hD hS hA hK hl
  obtain ⟨hx, hb, hr, hml, hown, hts, hlk, hN0⟩ := id M
  have hl : lv_has ls 1 [(0, .ref ta)] := hl
  refine lv_aload_n hx hb dX3_init_0 rfl (lv_at hl 0 rfl) ?_
  refine W.objInit hx hb hown (hts (.methodLink RX3 3 objectInit) (by decide +kernel)) (hts (.instanceMethod objectInit) (by decide +kernel)) (hts (.code objectInit ⟨#[0xb1]⟩ 1 none) (List.mem_of_getElem? (i := 3) rfl)) rfl (by rw [hml]; exact hl.1) rfl dX3_init_1 (Nat.le_of_ble_eq_true rfl) (Nat.le_of_ble_eq_true rfl) ?_
  refine W.eq (g2 := F0 mm 4 ls []) rfl ?_
  refine lv_aload_n hx hb dX3_init_4 rfl (lv_at hl 0 rfl) ?_
  refine lv_sipush (v := zI 200) hx hb dX3_init_5 (by decide) ?_
  refine z_newT (atype := .int) (ty := .int) (N' := 200) hx hb (hts (.arrayClass .int) (by decide +kernel)) rfl rfl hK hP hD hS hA 1 rfl (fun _ h9 => h9) (by omega) rfl (by show 200 * 4 ≤ 536870912; omega) (by show (_ : Nat) ≤ 1; omega) (by show (_ : Nat) ≤ 200; omega) dX3_init_8 (fun q8 H hP hD hS => ?_)
  have hP : va_P D vwCl [(ta, .inr (3, [.null, .int (zI 0), .int (zI 0), .int (zI 0), .int (zI 0), .int (zI 0), .int (zI 0), .int (zI 0)])), (q8, .inl (cI, 200, .inl (zia (fun _ => 0))))] H := hP
  have hD : va_D A [(ta, .inr (3, [.null, .int (zI 0), .int (zI 0), .int (zI 0), .int (zI 0), .int (zI 0), .int (zI 0), .int (zI 0)])), (q8, .inl (cI, 200, .inl (zia (fun _ => 0))))] := hD
  refine va_putF (D := D) (ci := 3) (v := .ref q8) (ty := .array .int) (C := RX3) (T := TX3) (N := 8) hx hb hts inc_X3_init_3 tyX3 tyX3_ok nmX3 hown hK hP hD hS 0 rfl rfl 0 (by decide) (hts (.fieldLink RX3 11 "BedHouse$Text" "bytes" "[I") (by decide +kernel)) (fun _ h9 => h9) rfl hin rfl (by decide +kernel) rfl rfl (Nat.le_of_ble_eq_true rfl) dX3_init_10 (fun H locs hP hD hS => ?_)
  have hP : va_P D vwCl [(ta, .inr (3, [.ref q8, .int (zI 0), .int (zI 0), .int (zI 0), .int (zI 0), .int (zI 0), .int (zI 0), .int (zI 0)])), (q8, .inl (cI, 200, .inl (zia (fun _ => 0))))] H := hP
  have hD : va_D A [(ta, .inr (3, [.ref q8, .int (zI 0), .int (zI 0), .int (zI 0), .int (zI 0), .int (zI 0), .int (zI 0), .int (zI 0)])), (q8, .inl (cI, 200, .inl (zia (fun _ => 0))))] := hD
  exact wr_retv M dX3_init_13 (u := fun k => [q8].getD k 0) trivial hP hD hS
