theorem inc_X0_begin_0 : ∀ w ∈ wsX00, w ∈ wsX0_begin := by decide +kernel
theorem inc_X0_copyFrom_0 : ∀ w ∈ wsX00, w ∈ wsX0_copyFrom := by decide +kernel
theorem inc_X4_act_0 : ∀ w ∈ wsX00, w ∈ wsX4_act := by decide +kernel
theorem inc_X4_act_1 : ∀ w ∈ wsX10, w ∈ wsX4_act := by decide +kernel
theorem inc_X4_act_4 : ∀ w ∈ wsX40, w ∈ wsX4_act := by decide +kernel
theorem inc_X4_beam_0 : ∀ w ∈ wsX00, w ∈ wsX4_beam := by decide +kernel
theorem inc_X4_beam_4 : ∀ w ∈ wsX40, w ∈ wsX4_beam := by decide +kernel
theorem inc_X4_best_4 : ∀ w ∈ wsX40, w ∈ wsX4_best := by decide +kernel
theorem inc_X4_clue_0 : ∀ w ∈ wsX00, w ∈ wsX4_clue := by decide +kernel
theorem inc_X4_clue_4 : ∀ w ∈ wsX40, w ∈ wsX4_clue := by decide +kernel
theorem inc_X4_down_0 : ∀ w ∈ wsX00, w ∈ wsX4_down := by decide +kernel
theorem inc_X4_down_4 : ∀ w ∈ wsX40, w ∈ wsX4_down := by decide +kernel
theorem inc_X4_fit_4 : ∀ w ∈ wsX40, w ∈ wsX4_fit := by decide +kernel
theorem inc_X4_forget_0 : ∀ w ∈ wsX00, w ∈ wsX4_forget := by decide +kernel
theorem inc_X4_forget_4 : ∀ w ∈ wsX40, w ∈ wsX4_forget := by decide +kernel
theorem inc_X4_isImage_4 : ∀ w ∈ wsX40, w ∈ wsX4_isImage := by decide +kernel
theorem inc_X4_lit_0 : ∀ w ∈ wsX00, w ∈ wsX4_lit := by decide +kernel
theorem inc_X4_lit_4 : ∀ w ∈ wsX40, w ∈ wsX4_lit := by decide +kernel
theorem inc_X4_night_0 : ∀ w ∈ wsX00, w ∈ wsX4_night := by decide +kernel
theorem inc_X4_night_4 : ∀ w ∈ wsX40, w ∈ wsX4_night := by decide +kernel
theorem inc_X4_now_0 : ∀ w ∈ wsX00, w ∈ wsX4_now := by decide +kernel
theorem inc_X4_now_4 : ∀ w ∈ wsX40, w ∈ wsX4_now := by decide +kernel
theorem inc_X4_panel_0 : ∀ w ∈ wsX00, w ∈ wsX4_panel := by decide +kernel
theorem inc_X4_panel_4 : ∀ w ∈ wsX40, w ∈ wsX4_panel := by decide +kernel
theorem inc_X4_piano_0 : ∀ w ∈ wsX00, w ∈ wsX4_piano := by decide +kernel
theorem inc_X4_piano_4 : ∀ w ∈ wsX40, w ∈ wsX4_piano := by decide +kernel
theorem inc_X4_slot_0 : ∀ w ∈ wsX00, w ∈ wsX4_slot := by decide +kernel
theorem inc_X4_slot_1 : ∀ w ∈ wsX10, w ∈ wsX4_slot := by decide +kernel
theorem inc_X4_slot_4 : ∀ w ∈ wsX40, w ∈ wsX4_slot := by decide +kernel
theorem inc_X4_sure_4 : ∀ w ∈ wsX40, w ∈ wsX4_sure := by decide +kernel
theorem inc_X4_told_1 : ∀ w ∈ wsX10, w ∈ wsX4_told := by decide +kernel
theorem inc_X4_told_4 : ∀ w ∈ wsX40, w ∈ wsX4_told := by decide +kernel
theorem inc_X4_up_0 : ∀ w ∈ wsX00, w ∈ wsX4_up := by decide +kernel
theorem inc_X4_up_4 : ∀ w ∈ wsX40, w ∈ wsX4_up := by decide +kernel
theorem hd_X1_sortOf : yX1_sortOf.cls ≠ "java/lang/invoke/MethodHandle" ∧ yX1_sortOf.cls ≠ "java/lang/invoke/VarHandle" ∧ (parseMethodDescriptor yX1_sortOf.desc).map (fun d => d.parameters.length) = some 1 := by decide +kernel
theorem hd_X2_actsToEmpty : yX2_actsToEmpty.cls ≠ "java/lang/invoke/MethodHandle" ∧ yX2_actsToEmpty.cls ≠ "java/lang/invoke/VarHandle" ∧ (parseMethodDescriptor yX2_actsToEmpty.desc).map (fun d => d.parameters.length) = some 3 := by decide +kernel
theorem hd_X2_bestHome : yX2_bestHome.cls ≠ "java/lang/invoke/MethodHandle" ∧ yX2_bestHome.cls ≠ "java/lang/invoke/VarHandle" ∧ (parseMethodDescriptor yX2_bestHome.desc).map (fun d => d.parameters.length) = some 1 := by decide +kernel
theorem hd_X2_countFitting : yX2_countFitting.cls ≠ "java/lang/invoke/MethodHandle" ∧ yX2_countFitting.cls ≠ "java/lang/invoke/VarHandle" ∧ (parseMethodDescriptor yX2_countFitting.desc).map (fun d => d.parameters.length) = some 2 := by decide +kernel
theorem hd_X2_surePlace : yX2_surePlace.cls ≠ "java/lang/invoke/MethodHandle" ∧ yX2_surePlace.cls ≠ "java/lang/invoke/VarHandle" ∧ (parseMethodDescriptor yX2_surePlace.desc).map (fun d => d.parameters.length) = some 3 := by decide +kernel
theorem hd_X4_act : yX4_act.cls ≠ "java/lang/invoke/MethodHandle" ∧ yX4_act.cls ≠ "java/lang/invoke/VarHandle" ∧ (parseMethodDescriptor yX4_act.desc).map (fun d => d.parameters.length) = some 2 := by decide +kernel
theorem hd_X4_asNumber : yX4_asNumber.cls ≠ "java/lang/invoke/MethodHandle" ∧ yX4_asNumber.cls ≠ "java/lang/invoke/VarHandle" ∧ (parseMethodDescriptor yX4_asNumber.desc).map (fun d => d.parameters.length) = some 1 := by decide +kernel
set_option maxHeartbeats 4000000 in
set_option maxRecDepth 100000 in
theorem c_X0_begin (l : Launch) (D : va_G) (cB cI cZ cM : ClassId) (Hp : Heap) (ma : Nat) (hm : Int) (dy : Int) (ac : Int) (lk : Int) (cl : Int) (li : Int) (da : Int) (kp : Int) (h : Int)  : cWv l yX0_begin wsX0_begin (rmW 0 0 0 0) D (TYS cB cI cZ cM) [.ref ma, .int (zI h)] [(ma, .inr (0, [.int (zI hm), .int (zI dy), .int (zI ac), .int (zI lk), .int (zI cl), .int (zI li), .int (zI da), .int (zI kp)]))] Hp (fun (_u : Unit) => True) (fun (_u : Unit) => [(ma, .inr (0, [.int (zI h), .int (zI 0), .int (zI 0), .int (zI 0), .int (zI 0), .int (zI 0), .int (zI 0), .int (zI kp)]))]) 0 0 := by
  refine wr_startv (by decide) rfl (Nat.le_of_ble_eq_true rfl) ?_
  intro pg ev sx mm args below meth cd ls A M hP hD hS hA hK hl
  obtain ⟨hx, hb, hr, hml, hown, hts, hlk, hN0⟩ := id M
  have hl : lv_has ls 2 [(0, .ref ma), (1, .int (zI h))] := hl
  refine W.widen (k := 0) (n := 0) (Nat.zero_le _) (Nat.zero_le _) ?_
  refine lv_aload_n hx hb dX0_begin_0 rfl (lv_at hl 0 rfl) ?_
  refine lv_iload_n hx hb dX0_begin_1 rfl (lv_at hl 1 rfl) ?_
  refine va_put (D := D) (ci := 0) (v := .int (zI h)) (ty := .int) (C := RX0) (T := TX0) (N := 8) hx hb hts inc_X0_begin_0 tyX0 tyX0_ok nmX0 hown hK hP hD hS 0 rfl rfl 0 (by decide) (hts (.fieldLink RX0 7 "BedHouse$Moment" "home" "I") (by decide +kernel)) (fun _ h9 => h9) rfl (by decide +kernel) rfl rfl (Nat.le_of_ble_eq_true rfl) dX0_begin_2 (fun H locs hP hD hS => ?_)
  have hP : va_P D vwCl [(ma, .inr (0, [.int (zI h), .int (zI dy), .int (zI ac), .int (zI lk), .int (zI cl), .int (zI li), .int (zI da), .int (zI kp)]))] H := hP
  have hD : va_D A [(ma, .inr (0, [.int (zI h), .int (zI dy), .int (zI ac), .int (zI lk), .int (zI cl), .int (zI li), .int (zI da), .int (zI kp)]))] := hD
  refine lv_aload_n hx hb dX0_begin_5 rfl (lv_at hl 0 rfl) ?_
  refine lv_iconst (v := zI 0) hx hb dX0_begin_6 rfl ?_
  refine va_put (D := D) (ci := 0) (v := .int (zI 0)) (ty := .int) (C := RX0) (T := TX0) (N := 8) hx hb hts inc_X0_begin_0 tyX0 tyX0_ok nmX0 hown hK hP hD hS 0 rfl rfl 1 (by decide) (hts (.fieldLink RX0 13 "BedHouse$Moment" "day" "I") (by decide +kernel)) (fun _ h9 => h9) rfl (by decide +kernel) rfl rfl (Nat.le_of_ble_eq_true rfl) dX0_begin_7 (fun H locs hP hD hS => ?_)
  have hP : va_P D vwCl [(ma, .inr (0, [.int (zI h), .int (zI 0), .int (zI ac), .int (zI lk), .int (zI cl), .int (zI li), .int (zI da), .int (zI kp)]))] H := hP
  have hD : va_D A [(ma, .inr (0, [.int (zI h), .int (zI 0), .int (zI ac), .int (zI lk), .int (zI cl), .int (zI li), .int (zI da), .int (zI kp)]))] := hD
  refine lv_aload_n hx hb dX0_begin_10 rfl (lv_at hl 0 rfl) ?_
  refine lv_iconst (v := zI 0) hx hb dX0_begin_11 rfl ?_
  refine va_put (D := D) (ci := 0) (v := .int (zI 0)) (ty := .int) (C := RX0) (T := TX0) (N := 8) hx hb hts inc_X0_begin_0 tyX0 tyX0_ok nmX0 hown hK hP hD hS 0 rfl rfl 2 (by decide) (hts (.fieldLink RX0 16 "BedHouse$Moment" "acts" "I") (by decide +kernel)) (fun _ h9 => h9) rfl (by decide +kernel) rfl rfl (Nat.le_of_ble_eq_true rfl) dX0_begin_12 (fun H locs hP hD hS => ?_)
  have hP : va_P D vwCl [(ma, .inr (0, [.int (zI h), .int (zI 0), .int (zI 0), .int (zI lk), .int (zI cl), .int (zI li), .int (zI da), .int (zI kp)]))] H := hP
  have hD : va_D A [(ma, .inr (0, [.int (zI h), .int (zI 0), .int (zI 0), .int (zI lk), .int (zI cl), .int (zI li), .int (zI da), .int (zI kp)]))] := hD
  refine lv_aload_n hx hb dX0_begin_15 rfl (lv_at hl 0 rfl) ?_
  refine lv_iconst (v := zI 0) hx hb dX0_begin_16 rfl ?_
  refine va_put (D := D) (ci := 0) (v := .int (zI 0)) (ty := .int) (C := RX0) (T := TX0) (N := 8) hx hb hts inc_X0_begin_0 tyX0 tyX0_ok nmX0 hown hK hP hD hS 0 rfl rfl 3 (by decide) (hts (.fieldLink RX0 19 "BedHouse$Moment" "leaks" "I") (by decide +kernel)) (fun _ h9 => h9) rfl (by decide +kernel) rfl rfl (Nat.le_of_ble_eq_true rfl) dX0_begin_17 (fun H locs hP hD hS => ?_)
  have hP : va_P D vwCl [(ma, .inr (0, [.int (zI h), .int (zI 0), .int (zI 0), .int (zI 0), .int (zI cl), .int (zI li), .int (zI da), .int (zI kp)]))] H := hP
  have hD : va_D A [(ma, .inr (0, [.int (zI h), .int (zI 0), .int (zI 0), .int (zI 0), .int (zI cl), .int (zI li), .int (zI da), .int (zI kp)]))] := hD
  refine lv_aload_n hx hb dX0_begin_20 rfl (lv_at hl 0 rfl) ?_
  refine lv_iconst (v := zI 0) hx hb dX0_begin_21 rfl ?_
  refine va_put (D := D) (ci := 0) (v := .int (zI 0)) (ty := .int) (C := RX0) (T := TX0) (N := 8) hx hb hts inc_X0_begin_0 tyX0 tyX0_ok nmX0 hown hK hP hD hS 0 rfl rfl 4 (by decide) (hts (.fieldLink RX0 22 "BedHouse$Moment" "clues" "I") (by decide +kernel)) (fun _ h9 => h9) rfl (by decide +kernel) rfl rfl (Nat.le_of_ble_eq_true rfl) dX0_begin_22 (fun H locs hP hD hS => ?_)
  have hP : va_P D vwCl [(ma, .inr (0, [.int (zI h), .int (zI 0), .int (zI 0), .int (zI 0), .int (zI 0), .int (zI li), .int (zI da), .int (zI kp)]))] H := hP
  have hD : va_D A [(ma, .inr (0, [.int (zI h), .int (zI 0), .int (zI 0), .int (zI 0), .int (zI 0), .int (zI li), .int (zI da), .int (zI kp)]))] := hD
  refine lv_aload_n hx hb dX0_begin_25 rfl (lv_at hl 0 rfl) ?_
  refine lv_iconst (v := zI 0) hx hb dX0_begin_26 rfl ?_
  refine va_put (D := D) (ci := 0) (v := .int (zI 0)) (ty := .int) (C := RX0) (T := TX0) (N := 8) hx hb hts inc_X0_begin_0 tyX0 tyX0_ok nmX0 hown hK hP hD hS 0 rfl rfl 5 (by decide) (hts (.fieldLink RX0 25 "BedHouse$Moment" "litHours" "I") (by decide +kernel)) (fun _ h9 => h9) rfl (by decide +kernel) rfl rfl (Nat.le_of_ble_eq_true rfl) dX0_begin_27 (fun H locs hP hD hS => ?_)
  have hP : va_P D vwCl [(ma, .inr (0, [.int (zI h), .int (zI 0), .int (zI 0), .int (zI 0), .int (zI 0), .int (zI 0), .int (zI da), .int (zI kp)]))] H := hP
  have hD : va_D A [(ma, .inr (0, [.int (zI h), .int (zI 0), .int (zI 0), .int (zI 0), .int (zI 0), .int (zI 0), .int (zI da), .int (zI kp)]))] := hD
  refine lv_aload_n hx hb dX0_begin_30 rfl (lv_at hl 0 rfl) ?_
  refine lv_iconst (v := zI 0) hx hb dX0_begin_31 rfl ?_
  refine va_put (D := D) (ci := 0) (v := .int (zI 0)) (ty := .int) (C := RX0) (T := TX0) (N := 8) hx hb hts inc_X0_begin_0 tyX0 tyX0_ok nmX0 hown hK hP hD hS 0 rfl rfl 6 (by decide) (hts (.fieldLink RX0 28 "BedHouse$Moment" "darkHours" "I") (by decide +kernel)) (fun _ h9 => h9) rfl (by decide +kernel) rfl rfl (Nat.le_of_ble_eq_true rfl) dX0_begin_32 (fun H locs hP hD hS => ?_)
  have hP : va_P D vwCl [(ma, .inr (0, [.int (zI h), .int (zI 0), .int (zI 0), .int (zI 0), .int (zI 0), .int (zI 0), .int (zI 0), .int (zI kp)]))] H := hP
  have hD : va_D A [(ma, .inr (0, [.int (zI h), .int (zI 0), .int (zI 0), .int (zI 0), .int (zI 0), .int (zI 0), .int (zI 0), .int (zI kp)]))] := hD
  exact wr_retv M dX0_begin_35 (u := ()) (trivial) hP hD hS
set_option maxHeartbeats 4000000 in
set_option maxRecDepth 100000 in
theorem c_X0_copyFrom (l : Launch) (D : va_G) (cB cI cZ cM : ClassId) (Hp : Heap) (ma : Nat) (hm : Int) (dy : Int) (ac : Int) (lk : Int) (cl : Int) (li : Int) (da : Int) (kp : Int) (bma : Nat) (bhm : Int) (bdy : Int) (bac : Int) (blk : Int) (bcl : Int) (bli : Int) (bda : Int) (bkp : Int)  : cWv l yX0_copyFrom wsX0_copyFrom (rmW 0 0 0 0) D (TYS cB cI cZ cM) [.ref ma, .ref bma] [(ma, .inr (0, [.int (zI hm), .int (zI dy), .int (zI ac), .int (zI lk), .int (zI cl), .int (zI li), .int (zI da), .int (zI kp)])), (bma, .inr (0, [.int (zI bhm), .int (zI bdy), .int (zI bac), .int (zI blk), .int (zI bcl), .int (zI bli), .int (zI bda), .int (zI bkp)]))] Hp (fun (_u : Unit) => True) (fun (_u : Unit) => [(ma, .inr (0, [.int (zI bhm), .int (zI bdy), .int (zI bac), .int (zI blk), .int (zI bcl), .int (zI bli), .int (zI bda), .int (zI kp)])), (bma, .inr (0, [.int (zI bhm), .int (zI bdy), .int (zI bac), .int (zI blk), .int (zI bcl), .int (zI bli), .int (zI bda), .int (zI bkp)]))]) 0 0 := by
  refine wr_startv (by decide) rfl (Nat.le_of_ble_eq_true rfl) ?_
  intro pg ev sx mm args below meth cd ls A M hP hD hS hA hK hl
  obtain ⟨hx, hb, hr, hml, hown, hts, hlk, hN0⟩ := id M
  have hl : lv_has ls 2 [(0, .ref ma), (1, .ref bma)] := hl
  refine W.widen (k := 0) (n := 0) (Nat.zero_le _) (Nat.zero_le _) ?_
  refine lv_aload_n hx hb dX0_copyFrom_0 rfl (lv_at hl 0 rfl) ?_
  refine lv_aload_n hx hb dX0_copyFrom_1 rfl (lv_at hl 1 rfl) ?_
  refine va_get (D := D) (ci := 0) (C := RX0) (T := TX0) (N := 8) hx hb hts inc_X0_copyFrom_0 hown hK hP 1 rfl rfl 0 (by decide) (hts (.fieldLink RX0 7 "BedHouse$Moment" "home" "I") (by decide +kernel)) (fun _ h9 => h9) rfl dX0_copyFrom_2 ?_
  refine va_put (D := D) (ci := 0) (v := .int (zI bhm)) (ty := .int) (C := RX0) (T := TX0) (N := 8) hx hb hts inc_X0_copyFrom_0 tyX0 tyX0_ok nmX0 hown hK hP hD hS 0 rfl rfl 0 (by decide) (hts (.fieldLink RX0 7 "BedHouse$Moment" "home" "I") (by decide +kernel)) (fun _ h9 => h9) rfl (by decide +kernel) rfl rfl (Nat.le_of_ble_eq_true rfl) dX0_copyFrom_5 (fun H locs hP hD hS => ?_)
  have hP : va_P D vwCl [(ma, .inr (0, [.int (zI bhm), .int (zI dy), .int (zI ac), .int (zI lk), .int (zI cl), .int (zI li), .int (zI da), .int (zI kp)])), (bma, .inr (0, [.int (zI bhm), .int (zI bdy), .int (zI bac), .int (zI blk), .int (zI bcl), .int (zI bli), .int (zI bda), .int (zI bkp)]))] H := hP
  have hD : va_D A [(ma, .inr (0, [.int (zI bhm), .int (zI dy), .int (zI ac), .int (zI lk), .int (zI cl), .int (zI li), .int (zI da), .int (zI kp)])), (bma, .inr (0, [.int (zI bhm), .int (zI bdy), .int (zI bac), .int (zI blk), .int (zI bcl), .int (zI bli), .int (zI bda), .int (zI bkp)]))] := hD
  refine lv_aload_n hx hb dX0_copyFrom_8 rfl (lv_at hl 0 rfl) ?_
  refine lv_aload_n hx hb dX0_copyFrom_9 rfl (lv_at hl 1 rfl) ?_
  refine va_get (D := D) (ci := 0) (C := RX0) (T := TX0) (N := 8) hx hb hts inc_X0_copyFrom_0 hown hK hP 1 rfl rfl 1 (by decide) (hts (.fieldLink RX0 13 "BedHouse$Moment" "day" "I") (by decide +kernel)) (fun _ h9 => h9) rfl dX0_copyFrom_10 ?_
  refine va_put (D := D) (ci := 0) (v := .int (zI bdy)) (ty := .int) (C := RX0) (T := TX0) (N := 8) hx hb hts inc_X0_copyFrom_0 tyX0 tyX0_ok nmX0 hown hK hP hD hS 0 rfl rfl 1 (by decide) (hts (.fieldLink RX0 13 "BedHouse$Moment" "day" "I") (by decide +kernel)) (fun _ h9 => h9) rfl (by decide +kernel) rfl rfl (Nat.le_of_ble_eq_true rfl) dX0_copyFrom_13 (fun H locs hP hD hS => ?_)
  have hP : va_P D vwCl [(ma, .inr (0, [.int (zI bhm), .int (zI bdy), .int (zI ac), .int (zI lk), .int (zI cl), .int (zI li), .int (zI da), .int (zI kp)])), (bma, .inr (0, [.int (zI bhm), .int (zI bdy), .int (zI bac), .int (zI blk), .int (zI bcl), .int (zI bli), .int (zI bda), .int (zI bkp)]))] H := hP
  have hD : va_D A [(ma, .inr (0, [.int (zI bhm), .int (zI bdy), .int (zI ac), .int (zI lk), .int (zI cl), .int (zI li), .int (zI da), .int (zI kp)])), (bma, .inr (0, [.int (zI bhm), .int (zI bdy), .int (zI bac), .int (zI blk), .int (zI bcl), .int (zI bli), .int (zI bda), .int (zI bkp)]))] := hD
  refine lv_aload_n hx hb dX0_copyFrom_16 rfl (lv_at hl 0 rfl) ?_
  refine lv_aload_n hx hb dX0_copyFrom_17 rfl (lv_at hl 1 rfl) ?_
  refine va_get (D := D) (ci := 0) (C := RX0) (T := TX0) (N := 8) hx hb hts inc_X0_copyFrom_0 hown hK hP 1 rfl rfl 2 (by decide) (hts (.fieldLink RX0 16 "BedHouse$Moment" "acts" "I") (by decide +kernel)) (fun _ h9 => h9) rfl dX0_copyFrom_18 ?_
  refine va_put (D := D) (ci := 0) (v := .int (zI bac)) (ty := .int) (C := RX0) (T := TX0) (N := 8) hx hb hts inc_X0_copyFrom_0 tyX0 tyX0_ok nmX0 hown hK hP hD hS 0 rfl rfl 2 (by decide) (hts (.fieldLink RX0 16 "BedHouse$Moment" "acts" "I") (by decide +kernel)) (fun _ h9 => h9) rfl (by decide +kernel) rfl rfl (Nat.le_of_ble_eq_true rfl) dX0_copyFrom_21 (fun H locs hP hD hS => ?_)
  have hP : va_P D vwCl [(ma, .inr (0, [.int (zI bhm), .int (zI bdy), .int (zI bac), .int (zI lk), .int (zI cl), .int (zI li), .int (zI da), .int (zI kp)])), (bma, .inr (0, [.int (zI bhm), .int (zI bdy), .int (zI bac), .int (zI blk), .int (zI bcl), .int (zI bli), .int (zI bda), .int (zI bkp)]))] H := hP
  have hD : va_D A [(ma, .inr (0, [.int (zI bhm), .int (zI bdy), .int (zI bac), .int (zI lk), .int (zI cl), .int (zI li), .int (zI da), .int (zI kp)])), (bma, .inr (0, [.int (zI bhm), .int (zI bdy), .int (zI bac), .int (zI blk), .int (zI bcl), .int (zI bli), .int (zI bda), .int (zI bkp)]))] := hD
  refine lv_aload_n hx hb dX0_copyFrom_24 rfl (lv_at hl 0 rfl) ?_
  refine lv_aload_n hx hb dX0_copyFrom_25 rfl (lv_at hl 1 rfl) ?_
  refine va_get (D := D) (ci := 0) (C := RX0) (T := TX0) (N := 8) hx hb hts inc_X0_copyFrom_0 hown hK hP 1 rfl rfl 3 (by decide) (hts (.fieldLink RX0 19 "BedHouse$Moment" "leaks" "I") (by decide +kernel)) (fun _ h9 => h9) rfl dX0_copyFrom_26 ?_
  refine va_put (D := D) (ci := 0) (v := .int (zI blk)) (ty := .int) (C := RX0) (T := TX0) (N := 8) hx hb hts inc_X0_copyFrom_0 tyX0 tyX0_ok nmX0 hown hK hP hD hS 0 rfl rfl 3 (by decide) (hts (.fieldLink RX0 19 "BedHouse$Moment" "leaks" "I") (by decide +kernel)) (fun _ h9 => h9) rfl (by decide +kernel) rfl rfl (Nat.le_of_ble_eq_true rfl) dX0_copyFrom_29 (fun H locs hP hD hS => ?_)
  have hP : va_P D vwCl [(ma, .inr (0, [.int (zI bhm), .int (zI bdy), .int (zI bac), .int (zI blk), .int (zI cl), .int (zI li), .int (zI da), .int (zI kp)])), (bma, .inr (0, [.int (zI bhm), .int (zI bdy), .int (zI bac), .int (zI blk), .int (zI bcl), .int (zI bli), .int (zI bda), .int (zI bkp)]))] H := hP
  have hD : va_D A [(ma, .inr (0, [.int (zI bhm), .int (zI bdy), .int (zI bac), .int (zI blk), .int (zI cl), .int (zI li), .int (zI da), .int (zI kp)])), (bma, .inr (0, [.int (zI bhm), .int (zI bdy), .int (zI bac), .int (zI blk), .int (zI bcl), .int (zI bli), .int (zI bda), .int (zI bkp)]))] := hD
  refine lv_aload_n hx hb dX0_copyFrom_32 rfl (lv_at hl 0 rfl) ?_
  refine lv_aload_n hx hb dX0_copyFrom_33 rfl (lv_at hl 1 rfl) ?_
  refine va_get (D := D) (ci := 0) (C := RX0) (T := TX0) (N := 8) hx hb hts inc_X0_copyFrom_0 hown hK hP 1 rfl rfl 4 (by decide) (hts (.fieldLink RX0 22 "BedHouse$Moment" "clues" "I") (by decide +kernel)) (fun _ h9 => h9) rfl dX0_copyFrom_34 ?_
  refine va_put (D := D) (ci := 0) (v := .int (zI bcl)) (ty := .int) (C := RX0) (T := TX0) (N := 8) hx hb hts inc_X0_copyFrom_0 tyX0 tyX0_ok nmX0 hown hK hP hD hS 0 rfl rfl 4 (by decide) (hts (.fieldLink RX0 22 "BedHouse$Moment" "clues" "I") (by decide +kernel)) (fun _ h9 => h9) rfl (by decide +kernel) rfl rfl (Nat.le_of_ble_eq_true rfl) dX0_copyFrom_37 (fun H locs hP hD hS => ?_)
  have hP : va_P D vwCl [(ma, .inr (0, [.int (zI bhm), .int (zI bdy), .int (zI bac), .int (zI blk), .int (zI bcl), .int (zI li), .int (zI da), .int (zI kp)])), (bma, .inr (0, [.int (zI bhm), .int (zI bdy), .int (zI bac), .int (zI blk), .int (zI bcl), .int (zI bli), .int (zI bda), .int (zI bkp)]))] H := hP
  have hD : va_D A [(ma, .inr (0, [.int (zI bhm), .int (zI bdy), .int (zI bac), .int (zI blk), .int (zI bcl), .int (zI li), .int (zI da), .int (zI kp)])), (bma, .inr (0, [.int (zI bhm), .int (zI bdy), .int (zI bac), .int (zI blk), .int (zI bcl), .int (zI bli), .int (zI bda), .int (zI bkp)]))] := hD
  refine lv_aload_n hx hb dX0_copyFrom_40 rfl (lv_at hl 0 rfl) ?_
  refine lv_aload_n hx hb dX0_copyFrom_41 rfl (lv_at hl 1 rfl) ?_
  refine va_get (D := D) (ci := 0) (C := RX0) (T := TX0) (N := 8) hx hb hts inc_X0_copyFrom_0 hown hK hP 1 rfl rfl 5 (by decide) (hts (.fieldLink RX0 25 "BedHouse$Moment" "litHours" "I") (by decide +kernel)) (fun _ h9 => h9) rfl dX0_copyFrom_42 ?_
  refine va_put (D := D) (ci := 0) (v := .int (zI bli)) (ty := .int) (C := RX0) (T := TX0) (N := 8) hx hb hts inc_X0_copyFrom_0 tyX0 tyX0_ok nmX0 hown hK hP hD hS 0 rfl rfl 5 (by decide) (hts (.fieldLink RX0 25 "BedHouse$Moment" "litHours" "I") (by decide +kernel)) (fun _ h9 => h9) rfl (by decide +kernel) rfl rfl (Nat.le_of_ble_eq_true rfl) dX0_copyFrom_45 (fun H locs hP hD hS => ?_)
  have hP : va_P D vwCl [(ma, .inr (0, [.int (zI bhm), .int (zI bdy), .int (zI bac), .int (zI blk), .int (zI bcl), .int (zI bli), .int (zI da), .int (zI kp)])), (bma, .inr (0, [.int (zI bhm), .int (zI bdy), .int (zI bac), .int (zI blk), .int (zI bcl), .int (zI bli), .int (zI bda), .int (zI bkp)]))] H := hP
  have hD : va_D A [(ma, .inr (0, [.int (zI bhm), .int (zI bdy), .int (zI bac), .int (zI blk), .int (zI bcl), .int (zI bli), .int (zI da), .int (zI kp)])), (bma, .inr (0, [.int (zI bhm), .int (zI bdy), .int (zI bac), .int (zI blk), .int (zI bcl), .int (zI bli), .int (zI bda), .int (zI bkp)]))] := hD
  refine lv_aload_n hx hb dX0_copyFrom_48 rfl (lv_at hl 0 rfl) ?_
  refine lv_aload_n hx hb dX0_copyFrom_49 rfl (lv_at hl 1 rfl) ?_
  refine va_get (D := D) (ci := 0) (C := RX0) (T := TX0) (N := 8) hx hb hts inc_X0_copyFrom_0 hown hK hP 1 rfl rfl 6 (by decide) (hts (.fieldLink RX0 28 "BedHouse$Moment" "darkHours" "I") (by decide +kernel)) (fun _ h9 => h9) rfl dX0_copyFrom_50 ?_
  refine va_put (D := D) (ci := 0) (v := .int (zI bda)) (ty := .int) (C := RX0) (T := TX0) (N := 8) hx hb hts inc_X0_copyFrom_0 tyX0 tyX0_ok nmX0 hown hK hP hD hS 0 rfl rfl 6 (by decide) (hts (.fieldLink RX0 28 "BedHouse$Moment" "darkHours" "I") (by decide +kernel)) (fun _ h9 => h9) rfl (by decide +kernel) rfl rfl (Nat.le_of_ble_eq_true rfl) dX0_copyFrom_53 (fun H locs hP hD hS => ?_)
  have hP : va_P D vwCl [(ma, .inr (0, [.int (zI bhm), .int (zI bdy), .int (zI bac), .int (zI blk), .int (zI bcl), .int (zI bli), .int (zI bda), .int (zI kp)])), (bma, .inr (0, [.int (zI bhm), .int (zI bdy), .int (zI bac), .int (zI blk), .int (zI bcl), .int (zI bli), .int (zI bda), .int (zI bkp)]))] H := hP
  have hD : va_D A [(ma, .inr (0, [.int (zI bhm), .int (zI bdy), .int (zI bac), .int (zI blk), .int (zI bcl), .int (zI bli), .int (zI bda), .int (zI kp)])), (bma, .inr (0, [.int (zI bhm), .int (zI bdy), .int (zI bac), .int (zI blk), .int (zI bcl), .int (zI bli), .int (zI bda), .int (zI bkp)]))] := hD
  exact wr_retv M dX0_copyFrom_56 (u := ()) (trivial) hP hD hS
set_option maxHeartbeats 4000000 in
set_option maxRecDepth 100000 in
theorem c_X4_panel (l : Launch) (D : va_G) (cB cI cZ cM : ClassId) (Hp : Heap) (xa : Nat) (ta : Nat) (ga : Nat) (ma : Nat) (im : Nat) (pa : Nat) (qpa : Nat) (tr : Int64) (sa : Nat) (ba : Nat) (so : Int → Int) (bm : Int → Int) (P : Int) (TH : Int) (B : Int) (ra : Int) (su : Int) (vw : Int) (no : Int) (dn : Int) (ha : Int) (hm : Int) (dy : Int) (ac : Int) (lk : Int) (cl : Int) (li : Int) (da : Int) (kp : Int) (p : Int) (wh : Int) (hok : okP so bm P TH B ra su vw no dn ha) (hmo : okM hm dy ac lk cl li da kp) (hp0 : -2147483648 ≤ p ∧ p < 2147483648) (hwh0 : -2147483648 ≤ wh ∧ wh < 2147483648) : cP l yX4_panel wsX4_panel 2 42 D (TYS cB cI cZ cM) [.ref xa, .int (zI p), .int (zI wh)] [(xa, .inr (4, [.ref ta, .ref ga, .ref ma, .ref im, .ref pa, .ref qpa, .long tr])), (pa, .inr (1, [.ref sa, .int (zI P), .int (zI TH), .ref ba, .int (zI B), .int (zI ra), .int (zI su), .int (zI vw), .int (zI no), .int (zI dn), .int (zI ha)])), (sa, .inl (cI, 4, .inl (zia so))), (ba, .inl (cI, 2, .inl (zia bm))), (ma, .inr (0, [.int (zI hm), .int (zI dy), .int (zI ac), .int (zI lk), .int (zI cl), .int (zI li), .int (zI da), .int (zI kp)]))] Hp (fun r => r = zI (if 0 ≤ p ∧ p < P then (if wh = 0 then so p else if wh = 1 then pl hm p else -1) else -1)) := by
  refine pu_start (by decide) rfl (Nat.le_of_ble_eq_true rfl) ?_
  intro pg ev sx mm args below meth cd ls M hP hK hl
  obtain ⟨hx, hb, hr, hml, hown, hts, hlk, hN0⟩ := id M
  have hl : lv_has ls 3 [(0, .ref xa), (1, .int (zI p)), (2, .int (zI wh))] := hl
  obtain ⟨hP4, hTH, hB2, hra, hsu, hvw, hno, hdn, hha, hso, hbm⟩ := id hok
  obtain ⟨hhm, hdy, hac, hlk, hcl, hli, hda, hkp⟩ := id hmo
  refine lv_aload_n hx hb dX4_panel_0 rfl (lv_at hl 0 rfl) ?_
  refine va_get (D := D) (ci := 4) (C := RX4) (T := TX4) (N := 7) hx hb hts inc_X4_panel_4 hown hK hP 0 rfl rfl 4 (by decide) (hts (.fieldLink RX4 37 "BedHouse" "plan" "LBedHouse$Plan;") (by decide +kernel)) (fun _ h9 => h9) rfl dX4_panel_1 ?_
  refine lv_iload_n hx hb dX4_panel_4 rfl (lv_at hl 1 rfl) ?_
  refine pc_VN (As := [.int (zI p)]) (rest := []) M (c_X1_hasPanel l D cB cI cZ cM _ pa sa ba so bm P TH B ra su vw no dn ha p (by first | assumption | omega) (by first | assumption | omega)) gX4_panel_X1_hasPanel_n69 rfl (NW.at hN0 49 rfl) (by decide +kernel) (by decide +kernel) (by decide +kernel) hd_X1_hasPanel ⟨Nat.le_of_ble_eq_true rfl, Nat.le_of_ble_eq_true rfl⟩ hK hP [1, 2, 3] rfl 1 1 rfl rfl rfl hl.1 rfl rfl (Nat.le_of_ble_eq_true rfl) dX4_panel_5 ⟨Nat.le_of_ble_eq_true rfl, Nat.le_of_ble_eq_true rfl⟩ (fun r_5 h_5 => ?_)
  subst h_5
  refine z_if_ne (tgt := 13) hx hb dX4_panel_8 (by decide) (zb_bd _) (fun c_8 => ?_) (fun c_8 => ?_)
  · skip
    have c_8 := zb_t c_8
    refine lv_iload_n hx hb dX4_panel_13 rfl (lv_at hl 2 rfl) ?_
    by_cases c_14_0 : wh = 0
    · skip
      refine lv_lookup (tgt := 40) (off := 26) hx hb dX4_panel_14 (by decide) (by rw [zI_toInt (by omega), c_14_0]; rfl) (by decide) ?_
      refine lv_aload_n hx hb dX4_panel_40 rfl (lv_at hl 0 rfl) ?_
      refine va_get (D := D) (ci := 4) (C := RX4) (T := TX4) (N := 7) hx hb hts inc_X4_panel_4 hown hK hP 0 rfl rfl 4 (by decide) (hts (.fieldLink RX4 37 "BedHouse" "plan" "LBedHouse$Plan;") (by decide +kernel)) (fun _ h9 => h9) rfl dX4_panel_41 ?_
      refine lv_iload_n hx hb dX4_panel_44 rfl (lv_at hl 1 rfl) ?_
      refine pc_VN (As := [.int (zI p)]) (rest := []) M (c_X1_sortOf l D cB cI cZ cM _ pa sa ba so bm P TH B ra su vw no dn ha p (by first | assumption | omega) (by first | assumption | omega)) gX4_panel_X1_sortOf_n73 rfl (NW.at hN0 50 rfl) (by decide +kernel) (by decide +kernel) (by decide +kernel) hd_X1_sortOf ⟨Nat.le_of_ble_eq_true rfl, Nat.le_of_ble_eq_true rfl⟩ hK hP [1, 2, 3] rfl 1 1 rfl rfl rfl hl.1 rfl rfl (Nat.le_of_ble_eq_true rfl) dX4_panel_45 ⟨Nat.le_of_ble_eq_true rfl, Nat.le_of_ble_eq_true rfl⟩ (fun r_45 h_45 => ?_)
      subst h_45
      exact pu_ret M dX4_panel_48 (congrArg zI (by rw [if_pos c_8, if_pos c_14_0, if_pos c_8]))
    by_cases c_14_1 : wh = 1
    · skip
      refine lv_lookup (tgt := 49) (off := 35) hx hb dX4_panel_14 (by decide) (by rw [zI_toInt (by omega), c_14_1]; rfl) (by decide) ?_
      refine lv_aload_n hx hb dX4_panel_49 rfl (lv_at hl 0 rfl) ?_
      refine va_get (D := D) (ci := 4) (C := RX4) (T := TX4) (N := 7) hx hb hts inc_X4_panel_4 hown hK hP 0 rfl rfl 2 (by decide) (hts (.fieldLink RX4 26 "BedHouse" "present" "LBedHouse$Moment;") (by decide +kernel)) (fun _ h9 => h9) rfl dX4_panel_50 ?_
      refine va_getN (D := D) (ci := 0) (C := RX0) (T := TX0) (N := 8) hx hb hts inc_X4_panel_0 hown hK hP 4 rfl rfl 0 (by decide) ((NW.at hN0 2 rfl).use rfl) (fun _ h9 => h9) rfl dX4_panel_53 ?_
      refine lv_iload_n hx hb dX4_panel_56 rfl (lv_at hl 1 rfl) ?_
      refine pc_J (As := [.int (zI hm), .int (zI p)]) (rest := []) M (c_X4_placeIn l D cB cI cZ cM _ hm p (by first | assumption | omega) (by first | assumption | omega)) gX4_panel_X4_placeIn rfl hd_X4_placeIn ⟨Nat.le_of_ble_eq_true rfl, Nat.le_of_ble_eq_true rfl⟩ hK hP [] rfl hl.1 rfl rfl (Nat.le_of_ble_eq_true rfl) dX4_panel_57 ⟨Nat.le_of_ble_eq_true rfl, Nat.le_of_ble_eq_true rfl⟩ (fun r_57 h_57 => ?_)
      subst h_57
      exact pu_ret M dX4_panel_60 (congrArg zI (by rw [if_pos c_8, if_neg c_14_0, if_pos c_14_1]))
    refine lv_lookup (tgt := 61) (off := 47) hx hb dX4_panel_14 (by decide) (by show Op.lookupswitch.offset [(0, 26), (1, 35)] 47 (zI wh).toInt = 47; rw [lv_osw (k := zI 0) (fun q => c_14_0 ((zI_eq (by omega) (by omega)).mp q)) (by decide), lv_osw (k := zI 1) (fun q => c_14_1 ((zI_eq (by omega) (by omega)).mp q)) (by decide)]; rfl) (by decide) ?_
    refine lv_iconst (v := zI (-1)) hx hb dX4_panel_61 rfl ?_
    exact pu_ret M dX4_panel_62 (congrArg zI (by rw [if_pos c_8, if_neg c_14_0, if_neg c_14_1]))
  have c_8 := zb_f c_8
  refine lv_iconst (v := zI (-1)) hx hb dX4_panel_11 rfl ?_
  exact pu_ret M dX4_panel_12 (congrArg zI (by rw [if_neg c_8]))
set_option maxHeartbeats 4000000 in
set_option maxRecDepth 100000 in
theorem c_X4_slot (l : Launch) (D : va_G) (cB cI cZ cM : ClassId) (Hp : Heap) (xa : Nat) (ta : Nat) (ga : Nat) (ma : Nat) (im : Nat) (pa : Nat) (qpa : Nat) (tr : Int64) (sa : Nat) (ba : Nat) (so : Int → Int) (bm : Int → Int) (P : Int) (TH : Int) (B : Int) (ra : Int) (su : Int) (vw : Int) (no : Int) (dn : Int) (ha : Int) (hm : Int) (dy : Int) (ac : Int) (lk : Int) (cl : Int) (li : Int) (da : Int) (kp : Int) (k : Int) (wh : Int) (hok : okP so bm P TH B ra su vw no dn ha) (hmo : okM hm dy ac lk cl li da kp) (hk0 : -2147483648 ≤ k ∧ k < 2147483648) (hwh0 : -2147483648 ≤ wh ∧ wh < 2147483648) : cP l yX4_slot wsX4_slot 2 44 D (TYS cB cI cZ cM) [.ref xa, .int (zI k), .int (zI wh)] [(xa, .inr (4, [.ref ta, .ref ga, .ref ma, .ref im, .ref pa, .ref qpa, .long tr])), (pa, .inr (1, [.ref sa, .int (zI P), .int (zI TH), .ref ba, .int (zI B), .int (zI ra), .int (zI su), .int (zI vw), .int (zI no), .int (zI dn), .int (zI ha)])), (sa, .inl (cI, 4, .inl (zia so))), (ba, .inl (cI, 2, .inl (zia bm))), (ma, .inr (0, [.int (zI hm), .int (zI dy), .int (zI ac), .int (zI lk), .int (zI cl), .int (zI li), .int (zI da), .int (zI kp)]))] Hp (fun r => r = zI (if 0 ≤ k ∧ k < 8 then (if wh = 0 then patF (pl hm) k P.toNat 0 else if wh = 1 then zbit ra k else if wh = 2 then zbit su k else -1) else -1)) := by
  refine pu_start (by decide) rfl (Nat.le_of_ble_eq_true rfl) ?_
  intro pg ev sx mm args below meth cd ls M hP hK hl
  obtain ⟨hx, hb, hr, hml, hown, hts, hlk, hN0⟩ := id M
  have hl : lv_has ls 3 [(0, .ref xa), (1, .int (zI k)), (2, .int (zI wh))] := hl
  obtain ⟨hP4, hTH, hB2, hra, hsu, hvw, hno, hdn, hha, hso, hbm⟩ := id hok
  obtain ⟨hhm, hdy, hac, hlk, hcl, hli, hda, hkp⟩ := id hmo
  refine lv_iload_n hx hb dX4_slot_0 rfl (lv_at hl 1 rfl) ?_
  refine pc_J (As := [.int (zI k)]) (rest := []) M (c_X4_isSlot l D cB cI cZ cM _ k (by first | assumption | omega)) gX4_slot_X4_isSlot rfl hd_X4_isSlot ⟨Nat.le_of_ble_eq_true rfl, Nat.le_of_ble_eq_true rfl⟩ hK hP [] rfl hl.1 rfl rfl (Nat.le_of_ble_eq_true rfl) dX4_slot_1 ⟨Nat.le_of_ble_eq_true rfl, Nat.le_of_ble_eq_true rfl⟩ (fun r_1 h_1 => ?_)
  subst h_1
  refine z_if_ne (tgt := 9) hx hb dX4_slot_4 (by decide) (zb_bd _) (fun c_4 => ?_) (fun c_4 => ?_)
  · skip
    have c_4 := zb_t c_4
    refine lv_iload_n hx hb dX4_slot_9 rfl (lv_at hl 2 rfl) ?_
    by_cases c_10_0 : wh = 0
    · skip
      refine lv_tableIn (tgt := 36) hx hb dX4_slot_10 (by rw [zI_toInt (by omega)]; omega) (by rw [zI_toInt (by omega)]; omega) (by rw [zI_toInt (by omega), c_10_0]; rfl) (by decide) ?_
      refine lv_aload_n hx hb dX4_slot_36 rfl (lv_at hl 0 rfl) ?_
      refine va_get (D := D) (ci := 4) (C := RX4) (T := TX4) (N := 7) hx hb hts inc_X4_slot_4 hown hK hP 0 rfl rfl 4 (by decide) (hts (.fieldLink RX4 37 "BedHouse" "plan" "LBedHouse$Plan;") (by decide +kernel)) (fun _ h9 => h9) rfl dX4_slot_37 ?_
      refine lv_aload_n hx hb dX4_slot_40 rfl (lv_at hl 0 rfl) ?_
      refine va_get (D := D) (ci := 4) (C := RX4) (T := TX4) (N := 7) hx hb hts inc_X4_slot_4 hown hK hP 0 rfl rfl 2 (by decide) (hts (.fieldLink RX4 26 "BedHouse" "present" "LBedHouse$Moment;") (by decide +kernel)) (fun _ h9 => h9) rfl dX4_slot_41 ?_
      refine va_getN (D := D) (ci := 0) (C := RX0) (T := TX0) (N := 8) hx hb hts inc_X4_slot_0 hown hK hP 4 rfl rfl 0 (by decide) ((NW.at hN0 2 rfl).use rfl) (fun _ h9 => h9) rfl dX4_slot_44 ?_
      refine lv_iload_n hx hb dX4_slot_47 rfl (lv_at hl 1 rfl) ?_
      refine pc_VN (As := [.int (zI hm), .int (zI k)]) (rest := []) M (c_X1_panelAt l D cB cI cZ cM _ pa sa ba so bm P TH B ra su vw no dn ha hm k (by first | assumption | omega) (by first | assumption | omega) (by first | assumption | omega)) gX4_slot_X1_panelAt_n87 rfl (NW.at hN0 51 rfl) (by decide +kernel) (by decide +kernel) (by decide +kernel) hd_X1_panelAt ⟨Nat.le_of_ble_eq_true rfl, Nat.le_of_ble_eq_true rfl⟩ hK hP [1, 2, 3] rfl 1 1 rfl rfl rfl hl.1 rfl rfl (Nat.le_of_ble_eq_true rfl) dX4_slot_48 ⟨Nat.le_of_ble_eq_true rfl, Nat.le_of_ble_eq_true rfl⟩ (fun r_48 h_48 => ?_)
      subst h_48
      exact pu_ret M dX4_slot_51 (congrArg zI (by rw [if_pos c_4, if_pos c_10_0]))
    by_cases c_10_1 : wh = 1
    · skip
      refine lv_tableIn (tgt := 52) hx hb dX4_slot_10 (by rw [zI_toInt (by omega)]; omega) (by rw [zI_toInt (by omega)]; omega) (by rw [zI_toInt (by omega), c_10_1]; rfl) (by decide) ?_
      refine lv_aload_n hx hb dX4_slot_52 rfl (lv_at hl 0 rfl) ?_
      refine va_get (D := D) (ci := 4) (C := RX4) (T := TX4) (N := 7) hx hb hts inc_X4_slot_4 hown hK hP 0 rfl rfl 4 (by decide) (hts (.fieldLink RX4 37 "BedHouse" "plan" "LBedHouse$Plan;") (by decide +kernel)) (fun _ h9 => h9) rfl dX4_slot_53 ?_
      refine va_getN (D := D) (ci := 1) (C := RX1) (T := TX1) (N := 11) hx hb hts inc_X4_slot_1 hown hK hP 1 rfl rfl 5 (by decide) ((NW.at hN0 22 rfl).use rfl) (fun _ h9 => h9) rfl dX4_slot_56 ?_
      refine lv_iload_n hx hb dX4_slot_59 rfl (lv_at hl 1 rfl) ?_
      refine z_ishr hx hb dX4_slot_60 (by omega) ?_
      refine lv_iconst (v := zI 1) hx hb dX4_slot_61 rfl ?_
      refine z_ibit hx hb dX4_slot_62 ?_
      exact pu_ret M dX4_slot_63 (congrArg zI (by rw [if_pos c_4, if_neg c_10_0, if_pos c_10_1]))
    by_cases c_10_2 : wh = 2
    · skip
      refine lv_tableIn (tgt := 64) hx hb dX4_slot_10 (by rw [zI_toInt (by omega)]; omega) (by rw [zI_toInt (by omega)]; omega) (by rw [zI_toInt (by omega), c_10_2]; rfl) (by decide) ?_
      refine lv_aload_n hx hb dX4_slot_64 rfl (lv_at hl 0 rfl) ?_
      refine va_get (D := D) (ci := 4) (C := RX4) (T := TX4) (N := 7) hx hb hts inc_X4_slot_4 hown hK hP 0 rfl rfl 4 (by decide) (hts (.fieldLink RX4 37 "BedHouse" "plan" "LBedHouse$Plan;") (by decide +kernel)) (fun _ h9 => h9) rfl dX4_slot_65 ?_
      refine va_getN (D := D) (ci := 1) (C := RX1) (T := TX1) (N := 11) hx hb hts inc_X4_slot_1 hown hK hP 1 rfl rfl 6 (by decide) ((NW.at hN0 24 rfl).use rfl) (fun _ h9 => h9) rfl dX4_slot_68 ?_
      refine lv_iload_n hx hb dX4_slot_71 rfl (lv_at hl 1 rfl) ?_
      refine z_ishr hx hb dX4_slot_72 (by omega) ?_
      refine lv_iconst (v := zI 1) hx hb dX4_slot_73 rfl ?_
      refine z_ibit hx hb dX4_slot_74 ?_
      exact pu_ret M dX4_slot_75 (congrArg zI (by rw [if_pos c_4, if_neg c_10_0, if_neg c_10_1, if_pos c_10_2]))
    refine lv_tableOut (tgt := 76) hx hb dX4_slot_10 (by rw [zI_toInt (by omega)]; omega) (by decide) ?_
    refine lv_iconst (v := zI (-1)) hx hb dX4_slot_76 rfl ?_
    exact pu_ret M dX4_slot_77 (congrArg zI (by rw [if_pos c_4, if_neg c_10_0, if_neg c_10_1, if_neg c_10_2]))
  have c_4 := zb_f c_4
  refine lv_iconst (v := zI (-1)) hx hb dX4_slot_7 rfl ?_
  exact pu_ret M dX4_slot_8 (congrArg zI (by rw [if_neg c_4]))
set_option maxHeartbeats 4000000 in
set_option maxRecDepth 100000 in
theorem c_X4_told (l : Launch) (D : va_G) (cB cI cZ cM : ClassId) (Hp : Heap) (xa : Nat) (ta : Nat) (ga : Nat) (ma : Nat) (im : Nat) (pa : Nat) (qpa : Nat) (tr : Int64) (sa : Nat) (ba : Nat) (so : Int → Int) (bm : Int → Int) (P : Int) (TH : Int) (B : Int) (ra : Int) (su : Int) (vw : Int) (no : Int) (dn : Int) (ha : Int) (wh : Int) (hwh0 : -2147483648 ≤ wh ∧ wh < 2147483648) : cP l yX4_told wsX4_told 0 0 D (TYS cB cI cZ cM) [.ref xa, .int (zI wh)] [(xa, .inr (4, [.ref ta, .ref ga, .ref ma, .ref im, .ref pa, .ref qpa, .long tr])), (pa, .inr (1, [.ref sa, .int (zI P), .int (zI TH), .ref ba, .int (zI B), .int (zI ra), .int (zI su), .int (zI vw), .int (zI no), .int (zI dn), .int (zI ha)])), (sa, .inl (cI, 4, .inl (zia so))), (ba, .inl (cI, 2, .inl (zia bm)))] Hp (fun r => r = zI (if wh = 0 then vw else if wh = 1 then no else if wh = 2 then dn else if wh = 3 then ha else -1)) := by
  refine pu_start (by decide) rfl (Nat.le_of_ble_eq_true rfl) ?_
  intro pg ev sx mm args below meth cd ls M hP hK hl
  obtain ⟨hx, hb, hr, hml, hown, hts, hlk, hN0⟩ := id M
  have hl : lv_has ls 2 [(0, .ref xa), (1, .int (zI wh))] := hl
  refine lv_iload_n hx hb dX4_told_0 rfl (lv_at hl 1 rfl) ?_
  by_cases c_1_0 : wh = 0
  · skip
    refine lv_tableIn (tgt := 32) hx hb dX4_told_1 (by rw [zI_toInt (by omega)]; omega) (by rw [zI_toInt (by omega)]; omega) (by rw [zI_toInt (by omega), c_1_0]; rfl) (by decide) ?_
    refine lv_aload_n hx hb dX4_told_32 rfl (lv_at hl 0 rfl) ?_
    refine va_get (D := D) (ci := 4) (C := RX4) (T := TX4) (N := 7) hx hb hts inc_X4_told_4 hown hK hP 0 rfl rfl 4 (by decide) (hts (.fieldLink RX4 37 "BedHouse" "plan" "LBedHouse$Plan;") (by decide +kernel)) (fun _ h9 => h9) rfl dX4_told_33 ?_
    refine va_getN (D := D) (ci := 1) (C := RX1) (T := TX1) (N := 11) hx hb hts inc_X4_told_1 hown hK hP 1 rfl rfl 7 (by decide) ((NW.at hN0 27 rfl).use rfl) (fun _ h9 => h9) rfl dX4_told_36 ?_
    exact pu_ret M dX4_told_39 (congrArg zI (by rw [if_pos c_1_0]))
  by_cases c_1_1 : wh = 1
  · skip
    refine lv_tableIn (tgt := 40) hx hb dX4_told_1 (by rw [zI_toInt (by omega)]; omega) (by rw [zI_toInt (by omega)]; omega) (by rw [zI_toInt (by omega), c_1_1]; rfl) (by decide) ?_
    refine lv_aload_n hx hb dX4_told_40 rfl (lv_at hl 0 rfl) ?_
    refine va_get (D := D) (ci := 4) (C := RX4) (T := TX4) (N := 7) hx hb hts inc_X4_told_4 hown hK hP 0 rfl rfl 4 (by decide) (hts (.fieldLink RX4 37 "BedHouse" "plan" "LBedHouse$Plan;") (by decide +kernel)) (fun _ h9 => h9) rfl dX4_told_41 ?_
    refine va_getN (D := D) (ci := 1) (C := RX1) (T := TX1) (N := 11) hx hb hts inc_X4_told_1 hown hK hP 1 rfl rfl 8 (by decide) ((NW.at hN0 29 rfl).use rfl) (fun _ h9 => h9) rfl dX4_told_44 ?_
    exact pu_ret M dX4_told_47 (congrArg zI (by rw [if_neg c_1_0, if_pos c_1_1]))
  by_cases c_1_2 : wh = 2
  · skip
    refine lv_tableIn (tgt := 48) hx hb dX4_told_1 (by rw [zI_toInt (by omega)]; omega) (by rw [zI_toInt (by omega)]; omega) (by rw [zI_toInt (by omega), c_1_2]; rfl) (by decide) ?_
    refine lv_aload_n hx hb dX4_told_48 rfl (lv_at hl 0 rfl) ?_
    refine va_get (D := D) (ci := 4) (C := RX4) (T := TX4) (N := 7) hx hb hts inc_X4_told_4 hown hK hP 0 rfl rfl 4 (by decide) (hts (.fieldLink RX4 37 "BedHouse" "plan" "LBedHouse$Plan;") (by decide +kernel)) (fun _ h9 => h9) rfl dX4_told_49 ?_
    refine va_getN (D := D) (ci := 1) (C := RX1) (T := TX1) (N := 11) hx hb hts inc_X4_told_1 hown hK hP 1 rfl rfl 9 (by decide) ((NW.at hN0 30 rfl).use rfl) (fun _ h9 => h9) rfl dX4_told_52 ?_
    exact pu_ret M dX4_told_55 (congrArg zI (by rw [if_neg c_1_0, if_neg c_1_1, if_pos c_1_2]))
  by_cases c_1_3 : wh = 3
  · skip
    refine lv_tableIn (tgt := 56) hx hb dX4_told_1 (by rw [zI_toInt (by omega)]; omega) (by rw [zI_toInt (by omega)]; omega) (by rw [zI_toInt (by omega), c_1_3]; rfl) (by decide) ?_
    refine lv_aload_n hx hb dX4_told_56 rfl (lv_at hl 0 rfl) ?_
    refine va_get (D := D) (ci := 4) (C := RX4) (T := TX4) (N := 7) hx hb hts inc_X4_told_4 hown hK hP 0 rfl rfl 4 (by decide) (hts (.fieldLink RX4 37 "BedHouse" "plan" "LBedHouse$Plan;") (by decide +kernel)) (fun _ h9 => h9) rfl dX4_told_57 ?_
    refine va_getN (D := D) (ci := 1) (C := RX1) (T := TX1) (N := 11) hx hb hts inc_X4_told_1 hown hK hP 1 rfl rfl 10 (by decide) ((NW.at hN0 32 rfl).use rfl) (fun _ h9 => h9) rfl dX4_told_60 ?_
    exact pu_ret M dX4_told_63 (congrArg zI (by rw [if_neg c_1_0, if_neg c_1_1, if_neg c_1_2, if_pos c_1_3]))
  refine lv_tableOut (tgt := 64) hx hb dX4_told_1 (by rw [zI_toInt (by omega)]; omega) (by decide) ?_
  refine lv_iconst (v := zI (-1)) hx hb dX4_told_64 rfl ?_
  exact pu_ret M dX4_told_65 (congrArg zI (by rw [if_neg c_1_0, if_neg c_1_1, if_neg c_1_2, if_neg c_1_3]))
set_option maxHeartbeats 4000000 in
set_option maxRecDepth 100000 in
theorem c_X4_beam (l : Launch) (D : va_G) (cB cI cZ cM : ClassId) (Hp : Heap) (xa : Nat) (ta : Nat) (ga : Nat) (ma : Nat) (im : Nat) (pa : Nat) (qpa : Nat) (tr : Int64) (sa : Nat) (ba : Nat) (so : Int → Int) (bm : Int → Int) (P : Int) (TH : Int) (B : Int) (ra : Int) (su : Int) (vw : Int) (no : Int) (dn : Int) (ha : Int) (hm : Int) (dy : Int) (ac : Int) (lk : Int) (cl : Int) (li : Int) (da : Int) (kp : Int) (k : Int) (hok : okP so bm P TH B ra su vw no dn ha) (hmo : okM hm dy ac lk cl li da kp) (hk0 : -2147483648 ≤ k ∧ k < 2147483648) : cP l yX4_beam wsX4_beam 3 68 D (TYS cB cI cZ cM) [.ref xa, .int (zI k)] [(xa, .inr (4, [.ref ta, .ref ga, .ref ma, .ref im, .ref pa, .ref qpa, .long tr])), (pa, .inr (1, [.ref sa, .int (zI P), .int (zI TH), .ref ba, .int (zI B), .int (zI ra), .int (zI su), .int (zI vw), .int (zI no), .int (zI dn), .int (zI ha)])), (sa, .inl (cI, 4, .inl (zia so))), (ba, .inl (cI, 2, .inl (zia bm))), (ma, .inr (0, [.int (zI hm), .int (zI dy), .int (zI ac), .int (zI lk), .int (zI cl), .int (zI li), .int (zI da), .int (zI kp)]))] Hp (fun r => r = zI (if 0 ≤ k ∧ k < B then zb (zband (msk (pl hm) so 1 P) (bm k) ≠ 0) else -1)) := by
  refine pu_start (by decide) rfl (Nat.le_of_ble_eq_true rfl) ?_
  intro pg ev sx mm args below meth cd ls M hP hK hl
  obtain ⟨hx, hb, hr, hml, hown, hts, hlk, hN0⟩ := id M
  have hl : lv_has ls 2 [(0, .ref xa), (1, .int (zI k))] := hl
  obtain ⟨hP4, hTH, hB2, hra, hsu, hvw, hno, hdn, hha, hso, hbm⟩ := id hok
  obtain ⟨hhm, hdy, hac, hlk, hcl, hli, hda, hkp⟩ := id hmo
  refine lv_aload_n hx hb dX4_beam_0 rfl (lv_at hl 0 rfl) ?_
  refine va_get (D := D) (ci := 4) (C := RX4) (T := TX4) (N := 7) hx hb hts inc_X4_beam_4 hown hK hP 0 rfl rfl 4 (by decide) (hts (.fieldLink RX4 37 "BedHouse" "plan" "LBedHouse$Plan;") (by decide +kernel)) (fun _ h9 => h9) rfl dX4_beam_1 ?_
  refine lv_iload_n hx hb dX4_beam_4 rfl (lv_at hl 1 rfl) ?_
  refine pc_VN (As := [.int (zI k)]) (rest := []) M (c_X1_hasBeam l D cB cI cZ cM _ pa sa ba so bm P TH B ra su vw no dn ha k (by first | assumption | omega) (by first | assumption | omega)) gX4_beam_X1_hasBeam_n108 rfl (NW.at hN0 52 rfl) (by decide +kernel) (by decide +kernel) (by decide +kernel) hd_X1_hasBeam ⟨Nat.le_of_ble_eq_true rfl, Nat.le_of_ble_eq_true rfl⟩ hK hP [1, 2, 3] rfl 1 1 rfl rfl rfl hl.1 rfl rfl (Nat.le_of_ble_eq_true rfl) dX4_beam_5 ⟨Nat.le_of_ble_eq_true rfl, Nat.le_of_ble_eq_true rfl⟩ (fun r_5 h_5 => ?_)
  subst h_5
  refine z_if_ne (tgt := 13) hx hb dX4_beam_8 (by decide) (zb_bd _) (fun c_8 => ?_) (fun c_8 => ?_)
  · skip
    have c_8 := zb_t c_8
    refine lv_aload_n hx hb dX4_beam_13 rfl (lv_at hl 0 rfl) ?_
    refine va_get (D := D) (ci := 4) (C := RX4) (T := TX4) (N := 7) hx hb hts inc_X4_beam_4 hown hK hP 0 rfl rfl 4 (by decide) (hts (.fieldLink RX4 37 "BedHouse" "plan" "LBedHouse$Plan;") (by decide +kernel)) (fun _ h9 => h9) rfl dX4_beam_14 ?_
    refine lv_aload_n hx hb dX4_beam_17 rfl (lv_at hl 0 rfl) ?_
    refine va_get (D := D) (ci := 4) (C := RX4) (T := TX4) (N := 7) hx hb hts inc_X4_beam_4 hown hK hP 0 rfl rfl 2 (by decide) (hts (.fieldLink RX4 26 "BedHouse" "present" "LBedHouse$Moment;") (by decide +kernel)) (fun _ h9 => h9) rfl dX4_beam_18 ?_
    refine va_getN (D := D) (ci := 0) (C := RX0) (T := TX0) (N := 8) hx hb hts inc_X4_beam_0 hown hK hP 4 rfl rfl 0 (by decide) ((NW.at hN0 2 rfl).use rfl) (fun _ h9 => h9) rfl dX4_beam_21 ?_
    refine lv_iload_n hx hb dX4_beam_24 rfl (lv_at hl 1 rfl) ?_
    refine pc_VN (As := [.int (zI hm), .int (zI k)]) (rest := []) M (c_X1_isBorne l D cB cI cZ cM _ pa sa ba so bm P TH B ra su vw no dn ha hm k (by first | assumption | omega) (by first | assumption | omega) (by first | assumption | omega) (by first | assumption | omega) (by first | assumption | omega) (by first | assumption | omega)) gX4_beam_X1_isBorne_n111 rfl (NW.at hN0 53 rfl) (by decide +kernel) (by decide +kernel) (by decide +kernel) hd_X1_isBorne ⟨Nat.le_of_ble_eq_true rfl, Nat.le_of_ble_eq_true rfl⟩ hK hP [1, 2, 3] rfl 1 1 rfl rfl rfl hl.1 rfl rfl (Nat.le_of_ble_eq_true rfl) dX4_beam_25 ⟨Nat.le_of_ble_eq_true rfl, Nat.le_of_ble_eq_true rfl⟩ (fun r_25 h_25 => ?_)
    subst h_25
    refine pc_J (As := [.int (zI (zb ((0 ≤ k ∧ k < B) ∧ zband (msk (pl hm) so 1 P) (bm k) ≠ 0)))]) (rest := []) M (c_X4_asNumber l D cB cI cZ cM _ (zb ((0 ≤ k ∧ k < B) ∧ zband (msk (pl hm) so 1 P) (bm k) ≠ 0)) (by unfold zb; split <;> omega)) gX4_beam_X4_asNumber rfl hd_X4_asNumber ⟨Nat.le_of_ble_eq_true rfl, Nat.le_of_ble_eq_true rfl⟩ hK hP [] rfl hl.1 rfl rfl (Nat.le_of_ble_eq_true rfl) dX4_beam_28 ⟨Nat.le_of_ble_eq_true rfl, Nat.le_of_ble_eq_true rfl⟩ (fun r_28 h_28 => ?_)
    subst h_28
    exact pu_ret M dX4_beam_31 (congrArg zI (by rw [if_pos c_8]; unfold zb; split <;> split <;> omega))
  have c_8 := zb_f c_8
  refine lv_iconst (v := zI (-1)) hx hb dX4_beam_11 rfl ?_
  exact pu_ret M dX4_beam_12 (congrArg zI (by rw [if_neg c_8]))
set_option maxHeartbeats 4000000 in
set_option maxRecDepth 100000 in
theorem c_X4_act (l : Launch) (D : va_G) (cB cI cZ cM : ClassId) (Hp : Heap) (xa : Nat) (ta : Nat) (ga : Nat) (ma : Nat) (im : Nat) (pa : Nat) (qpa : Nat) (tr : Int64) (sa : Nat) (ba : Nat) (so : Int → Int) (bm : Int → Int) (P : Int) (TH : Int) (B : Int) (ra : Int) (su : Int) (vw : Int) (no : Int) (dn : Int) (ha : Int) (hm : Int) (dy : Int) (ac : Int) (lk : Int) (cl : Int) (li : Int) (da : Int) (kp : Int) (p : Int) (k : Int) (hok : okP so bm P TH B ra su vw no dn ha) (hmo : okM hm dy ac lk cl li da kp) (hp : 0 ≤ p ∧ p < P) (hk : 0 ≤ k ∧ k ≤ 8) : cWi l yX4_act wsX4_act (rmW 4 0 0 91) D (TYS cB cI cZ cM) [.ref xa, .int (zI p), .int (zI k)] [(xa, .inr (4, [.ref ta, .ref ga, .ref ma, .ref im, .ref pa, .ref qpa, .long tr])), (pa, .inr (1, [.ref sa, .int (zI P), .int (zI TH), .ref ba, .int (zI B), .int (zI ra), .int (zI su), .int (zI vw), .int (zI no), .int (zI dn), .int (zI ha)])), (sa, .inl (cI, 4, .inl (zia so))), (ba, .inl (cI, 2, .inl (zia bm))), (ma, .inr (0, [.int (zI hm), .int (zI dy), .int (zI ac), .int (zI lk), .int (zI cl), .int (zI li), .int (zI da), .int (zI kp)]))] Hp (fun (r : Int32) (u : Int × Int) => r = zI ((actA hm ac p k so bm P B dn ha).1) ∧ (u = (actA hm ac p k so bm P B dn ha).2)) (fun (u : Int × Int) => [(xa, .inr (4, [.ref ta, .ref ga, .ref ma, .ref im, .ref pa, .ref qpa, .long tr])), (pa, .inr (1, [.ref sa, .int (zI P), .int (zI TH), .ref ba, .int (zI B), .int (zI ra), .int (zI su), .int (zI vw), .int (zI no), .int (zI dn), .int (zI ha)])), (sa, .inl (cI, 4, .inl (zia so))), (ba, .inl (cI, 2, .inl (zia bm))), (ma, .inr (0, [.int (zI u.1), .int (zI dy), .int (zI u.2), .int (zI lk), .int (zI cl), .int (zI li), .int (zI da), .int (zI kp)]))]) 0 0 := by
  refine wr_starti (by decide) rfl (Nat.le_of_ble_eq_true rfl) ?_
  intro pg ev sx mm args below meth cd ls A M hP hD hS hA hK hl
  obtain ⟨hx, hb, hr, hml, hown, hts, hlk, hN0⟩ := id M
  have hl : lv_has ls 4 [(0, .ref xa), (1, .int (zI p)), (2, .int (zI k))] := hl
  refine W.widen (k := 0) (n := 0) (Nat.zero_le _) (Nat.zero_le _) ?_
  obtain ⟨hP4, hTH, hB2, hra, hsu, hvw, hno, hdn, hha, hso, hbm⟩ := id hok
  obtain ⟨hhm, hdy, hac, hlk, hcl, hli, hda, hkp⟩ := id hmo
  refine lv_aload_n hx hb dX4_act_0 rfl (lv_at hl 0 rfl) ?_
  refine va_get (D := D) (ci := 4) (C := RX4) (T := TX4) (N := 7) hx hb hts inc_X4_act_4 hown hK hP 0 rfl rfl 2 (by decide) (hts (.fieldLink RX4 26 "BedHouse" "present" "LBedHouse$Moment;") (by decide +kernel)) (fun _ h9 => h9) rfl dX4_act_1 ?_
  refine va_getN (D := D) (ci := 0) (C := RX0) (T := TX0) (N := 8) hx hb hts inc_X4_act_0 hown hK hP 4 rfl rfl 0 (by decide) ((NW.at hN0 2 rfl).use rfl) (fun _ h9 => h9) rfl dX4_act_4 ?_
  refine lv_iload_n hx hb dX4_act_7 rfl (lv_at hl 1 rfl) ?_
  refine lv_iload_n hx hb dX4_act_8 rfl (lv_at hl 2 rfl) ?_
  refine pc_J (As := [.int (zI hm), .int (zI p), .int (zI k)]) (rest := []) M (c_X4_moved l D cB cI cZ cM _ hm p k (by first | assumption | omega) (by first | assumption | omega)) gX4_act_X4_moved rfl hd_X4_moved ⟨Nat.le_of_ble_eq_true rfl, Nat.le_of_ble_eq_true rfl⟩ hK hP [] rfl hl.1 rfl rfl (Nat.le_of_ble_eq_true rfl) dX4_act_9 ⟨Nat.le_of_ble_eq_true rfl, Nat.le_of_ble_eq_true rfl⟩ (fun r_9 h_9 => ?_)
  subst h_9
  have hmv := mv_rng (p := p) (k := k) hhm hk
  refine lv_istore_n (lv' := [(3, .int (zI (mv hm p k))), (0, .ref xa), (1, .int (zI p)), (2, .int (zI k))]) hx hb dX4_act_12 rfl hl (by decide) rfl (fun ls hl => ?_)
  refine lv_aload_n hx hb dX4_act_13 rfl (lv_at hl 1 rfl) ?_
  refine va_get (D := D) (ci := 4) (C := RX4) (T := TX4) (N := 7) hx hb hts inc_X4_act_4 hown hK hP 0 rfl rfl 2 (by decide) (hts (.fieldLink RX4 26 "BedHouse" "present" "LBedHouse$Moment;") (by decide +kernel)) (fun _ h9 => h9) rfl dX4_act_14 ?_
  refine va_getN (D := D) (ci := 0) (C := RX0) (T := TX0) (N := 8) hx hb hts inc_X4_act_0 hown hK hP 4 rfl rfl 2 (by decide) ((NW.at hN0 7 rfl).use rfl) (fun _ h9 => h9) rfl dX4_act_17 ?_
  refine lv_aload_n hx hb dX4_act_20 rfl (lv_at hl 1 rfl) ?_
  refine va_get (D := D) (ci := 4) (C := RX4) (T := TX4) (N := 7) hx hb hts inc_X4_act_4 hown hK hP 0 rfl rfl 4 (by decide) (hts (.fieldLink RX4 37 "BedHouse" "plan" "LBedHouse$Plan;") (by decide +kernel)) (fun _ h9 => h9) rfl dX4_act_21 ?_
  refine va_getN (D := D) (ci := 1) (C := RX1) (T := TX1) (N := 11) hx hb hts inc_X4_act_1 hown hK hP 1 rfl rfl 10 (by decide) ((NW.at hN0 32 rfl).use rfl) (fun _ h9 => h9) rfl dX4_act_24 ?_
  refine z_icmp_ge (tgt := 41) hx hb dX4_act_27 (by decide) (by omega) (fun c_27 => ?_) (fun c_27 => ?_)
  · skip
    refine lv_bipush (v := zI (-2)) hx hb dX4_act_41 (by decide) ?_
    have hit : actA hm ac p k so bm P B dn ha = (-2, hm, ac) := by unfold actA; rw [if_neg (fun q => by omega)]
    exact wr_reti M dX4_act_43 (u := (hm, ac)) ⟨(congrArg zI (by rw [hit])), by rw [hit]⟩ hP hD hS
  refine lv_aload_n hx hb dX4_act_30 rfl (lv_at hl 1 rfl) ?_
  refine va_get (D := D) (ci := 4) (C := RX4) (T := TX4) (N := 7) hx hb hts inc_X4_act_4 hown hK hP 0 rfl rfl 4 (by decide) (hts (.fieldLink RX4 37 "BedHouse" "plan" "LBedHouse$Plan;") (by decide +kernel)) (fun _ h9 => h9) rfl dX4_act_31 ?_
  refine lv_iload_n hx hb dX4_act_34 rfl (lv_at hl 0 rfl) ?_
  refine pc_VN (As := [.int (zI (mv hm p k))]) (rest := []) M (c_X1_allows l D cB cI cZ cM _ pa sa ba so bm P TH B ra su vw no dn ha (mv hm p k) (by first | assumption | omega) (by first | assumption | omega) (by first | assumption | omega) (by first | assumption | omega) (by first | assumption | omega) (by first | assumption | omega)) gX4_act_X1_allows_n137 rfl (NW.at hN0 54 rfl) (by decide +kernel) (by decide +kernel) (by decide +kernel) hd_X1_allows ⟨Nat.le_of_ble_eq_true rfl, Nat.le_of_ble_eq_true rfl⟩ hK hP [1, 2, 3] rfl 1 1 rfl rfl rfl hl.1 rfl rfl (Nat.le_of_ble_eq_true rfl) dX4_act_35 ⟨Nat.le_of_ble_eq_true rfl, Nat.le_of_ble_eq_true rfl⟩ (fun r_35 h_35 => ?_)
  subst h_35
  refine z_if_ne (tgt := 44) hx hb dX4_act_38 (by decide) (zb_bd _) (fun c_38 => ?_) (fun c_38 => ?_)
  · skip
    have c_38 := zb_t c_38
    refine lv_aload_n hx hb dX4_act_44 rfl (lv_at hl 1 rfl) ?_
    refine va_get (D := D) (ci := 4) (C := RX4) (T := TX4) (N := 7) hx hb hts inc_X4_act_4 hown hK hP 0 rfl rfl 2 (by decide) (hts (.fieldLink RX4 26 "BedHouse" "present" "LBedHouse$Moment;") (by decide +kernel)) (fun _ h9 => h9) rfl dX4_act_45 ?_
    refine lv_iload_n hx hb dX4_act_48 rfl (lv_at hl 0 rfl) ?_
    refine va_putN (D := D) (ci := 0) (v := .int (zI (mv hm p k))) (ty := .int) (C := RX0) (T := TX0) (N := 8) hx hb hts inc_X4_act_0 tyX0 tyX0_ok nmX0 hown hK hP hD hS 4 rfl rfl 0 (by decide) ((NW.at hN0 2 rfl).use rfl) (fun _ h9 => h9) rfl (by decide +kernel) rfl rfl (Nat.le_of_ble_eq_true rfl) dX4_act_49 (fun H locs hP hD hS => ?_)
    have hP : va_P D vwCl [(xa, .inr (4, [.ref ta, .ref ga, .ref ma, .ref im, .ref pa, .ref qpa, .long tr])), (pa, .inr (1, [.ref sa, .int (zI P), .int (zI TH), .ref ba, .int (zI B), .int (zI ra), .int (zI su), .int (zI vw), .int (zI no), .int (zI dn), .int (zI ha)])), (sa, .inl (cI, 4, .inl (zia so))), (ba, .inl (cI, 2, .inl (zia bm))), (ma, .inr (0, [.int (zI (mv hm p k)), .int (zI dy), .int (zI ac), .int (zI lk), .int (zI cl), .int (zI li), .int (zI da), .int (zI kp)]))] H := hP
    have hD : va_D A [(xa, .inr (4, [.ref ta, .ref ga, .ref ma, .ref im, .ref pa, .ref qpa, .long tr])), (pa, .inr (1, [.ref sa, .int (zI P), .int (zI TH), .ref ba, .int (zI B), .int (zI ra), .int (zI su), .int (zI vw), .int (zI no), .int (zI dn), .int (zI ha)])), (sa, .inl (cI, 4, .inl (zia so))), (ba, .inl (cI, 2, .inl (zia bm))), (ma, .inr (0, [.int (zI (mv hm p k)), .int (zI dy), .int (zI ac), .int (zI lk), .int (zI cl), .int (zI li), .int (zI da), .int (zI kp)]))] := hD
    refine lv_aload_n hx hb dX4_act_52 rfl (lv_at hl 1 rfl) ?_
    refine va_get (D := D) (ci := 4) (C := RX4) (T := TX4) (N := 7) hx hb hts inc_X4_act_4 hown hK hP 0 rfl rfl 2 (by decide) (hts (.fieldLink RX4 26 "BedHouse" "present" "LBedHouse$Moment;") (by decide +kernel)) (fun _ h9 => h9) rfl dX4_act_53 ?_
    refine lv_dup hx hb dX4_act_56 rfl ?_
    refine va_getN (D := D) (ci := 0) (C := RX0) (T := TX0) (N := 8) hx hb hts inc_X4_act_0 hown hK hP 4 rfl rfl 2 (by decide) ((NW.at hN0 7 rfl).use rfl) (fun _ h9 => h9) rfl dX4_act_57 ?_
    refine lv_iconst (v := zI 1) hx hb dX4_act_60 rfl ?_
    refine z_iadd hx hb dX4_act_61 ?_
    refine va_putN (D := D) (ci := 0) (v := .int (zI (ac + 1))) (ty := .int) (C := RX0) (T := TX0) (N := 8) hx hb hts inc_X4_act_0 tyX0 tyX0_ok nmX0 hown hK hP hD hS 4 rfl rfl 2 (by decide) ((NW.at hN0 7 rfl).use rfl) (fun _ h9 => h9) rfl (by decide +kernel) rfl rfl (Nat.le_of_ble_eq_true rfl) dX4_act_62 (fun H locs hP hD hS => ?_)
    have hP : va_P D vwCl [(xa, .inr (4, [.ref ta, .ref ga, .ref ma, .ref im, .ref pa, .ref qpa, .long tr])), (pa, .inr (1, [.ref sa, .int (zI P), .int (zI TH), .ref ba, .int (zI B), .int (zI ra), .int (zI su), .int (zI vw), .int (zI no), .int (zI dn), .int (zI ha)])), (sa, .inl (cI, 4, .inl (zia so))), (ba, .inl (cI, 2, .inl (zia bm))), (ma, .inr (0, [.int (zI (mv hm p k)), .int (zI dy), .int (zI (ac + 1)), .int (zI lk), .int (zI cl), .int (zI li), .int (zI da), .int (zI kp)]))] H := hP
    have hD : va_D A [(xa, .inr (4, [.ref ta, .ref ga, .ref ma, .ref im, .ref pa, .ref qpa, .long tr])), (pa, .inr (1, [.ref sa, .int (zI P), .int (zI TH), .ref ba, .int (zI B), .int (zI ra), .int (zI su), .int (zI vw), .int (zI no), .int (zI dn), .int (zI ha)])), (sa, .inl (cI, 4, .inl (zia so))), (ba, .inl (cI, 2, .inl (zia bm))), (ma, .inr (0, [.int (zI (mv hm p k)), .int (zI dy), .int (zI (ac + 1)), .int (zI lk), .int (zI cl), .int (zI li), .int (zI da), .int (zI kp)]))] := hD
    refine lv_aload_n hx hb dX4_act_65 rfl (lv_at hl 1 rfl) ?_
    refine va_get (D := D) (ci := 4) (C := RX4) (T := TX4) (N := 7) hx hb hts inc_X4_act_4 hown hK hP 0 rfl rfl 4 (by decide) (hts (.fieldLink RX4 37 "BedHouse" "plan" "LBedHouse$Plan;") (by decide +kernel)) (fun _ h9 => h9) rfl dX4_act_66 ?_
    refine lv_iload_n hx hb dX4_act_69 rfl (lv_at hl 0 rfl) ?_
    refine pc_VN (As := [.int (zI (mv hm p k))]) (rest := []) M (c_X1_lyingIn l D cB cI cZ cM _ pa sa ba so bm P TH B ra su vw no dn ha (mv hm p k) (by first | assumption | omega) (by first | assumption | omega)) gX4_act_X1_lyingIn_n207 rfl (NW.at hN0 55 rfl) (by decide +kernel) (by decide +kernel) (by decide +kernel) hd_X1_lyingIn ⟨Nat.le_of_ble_eq_true rfl, Nat.le_of_ble_eq_true rfl⟩ hK hP [1, 2, 3] rfl 1 1 rfl rfl rfl hl.1 rfl rfl (Nat.le_of_ble_eq_true rfl) dX4_act_70 ⟨Nat.le_of_ble_eq_true rfl, Nat.le_of_ble_eq_true rfl⟩ (fun r_70 h_70 => ?_)
    subst h_70
    have hit : actA hm ac p k so bm P B dn ha = (lyC (pl (mv hm p k)) P.toNat 0, mv hm p k, ac + 1) := by unfold actA; rw [if_pos ⟨c_27, c_38⟩]
    exact wr_reti M dX4_act_73 (u := (mv hm p k, ac + 1)) ⟨(congrArg zI (by rw [hit])), by rw [hit]⟩ hP hD hS
  have c_38 := zb_f c_38
  refine lv_bipush (v := zI (-2)) hx hb dX4_act_41 (by decide) ?_
  have hit : actA hm ac p k so bm P B dn ha = (-2, hm, ac) := by unfold actA; rw [if_neg (fun q => c_38 q.2)]
  exact wr_reti M dX4_act_43 (u := (hm, ac)) ⟨(congrArg zI (by rw [hit])), by rw [hit]⟩ hP hD hS
set_option maxHeartbeats 4000000 in
set_option maxRecDepth 100000 in
theorem c_X4_down (l : Launch) (D : va_G) (cB cI cZ cM : ClassId) (Hp : Heap) (xa : Nat) (ta : Nat) (ga : Nat) (ma : Nat) (im : Nat) (pa : Nat) (qpa : Nat) (tr : Int64) (sa : Nat) (ba : Nat) (so : Int → Int) (bm : Int → Int) (P : Int) (TH : Int) (B : Int) (ra : Int) (su : Int) (vw : Int) (no : Int) (dn : Int) (ha : Int) (hm : Int) (dy : Int) (ac : Int) (lk : Int) (cl : Int) (li : Int) (da : Int) (kp : Int) (p : Int) (hok : okP so bm P TH B ra su vw no dn ha) (hmo : okM hm dy ac lk cl li da kp) (hp0 : -2147483648 ≤ p ∧ p < 2147483648) : cWi l yX4_down wsX4_down (rmW 5 0 0 114) D (TYS cB cI cZ cM) [.ref xa, .int (zI p)] [(xa, .inr (4, [.ref ta, .ref ga, .ref ma, .ref im, .ref pa, .ref qpa, .long tr])), (pa, .inr (1, [.ref sa, .int (zI P), .int (zI TH), .ref ba, .int (zI B), .int (zI ra), .int (zI su), .int (zI vw), .int (zI no), .int (zI dn), .int (zI ha)])), (sa, .inl (cI, 4, .inl (zia so))), (ba, .inl (cI, 2, .inl (zia bm))), (ma, .inr (0, [.int (zI hm), .int (zI dy), .int (zI ac), .int (zI lk), .int (zI cl), .int (zI li), .int (zI da), .int (zI kp)]))] Hp (fun (r : Int32) (u : Int × Int) => r = zI ((dnA hm ac p so bm P B dn ha).1) ∧ (u = (dnA hm ac p so bm P B dn ha).2)) (fun (u : Int × Int) => [(xa, .inr (4, [.ref ta, .ref ga, .ref ma, .ref im, .ref pa, .ref qpa, .long tr])), (pa, .inr (1, [.ref sa, .int (zI P), .int (zI TH), .ref ba, .int (zI B), .int (zI ra), .int (zI su), .int (zI vw), .int (zI no), .int (zI dn), .int (zI ha)])), (sa, .inl (cI, 4, .inl (zia so))), (ba, .inl (cI, 2, .inl (zia bm))), (ma, .inr (0, [.int (zI u.1), .int (zI dy), .int (zI u.2), .int (zI lk), .int (zI cl), .int (zI li), .int (zI da), .int (zI kp)]))]) 0 0 := by
  refine wr_starti (by decide) rfl (Nat.le_of_ble_eq_true rfl) ?_
  intro pg ev sx mm args below meth cd ls A M hP hD hS hA hK hl
  obtain ⟨hx, hb, hr, hml, hown, hts, hlk, hN0⟩ := id M
  have hl : lv_has ls 2 [(0, .ref xa), (1, .int (zI p))] := hl
  refine W.widen (k := 0) (n := 0) (Nat.zero_le _) (Nat.zero_le _) ?_
  obtain ⟨hP4, hTH, hB2, hra, hsu, hvw, hno, hdn, hha, hso, hbm⟩ := id hok
  obtain ⟨hhm, hdy, hac, hlk, hcl, hli, hda, hkp⟩ := id hmo
  refine lv_aload_n hx hb dX4_down_0 rfl (lv_at hl 0 rfl) ?_
  refine va_get (D := D) (ci := 4) (C := RX4) (T := TX4) (N := 7) hx hb hts inc_X4_down_4 hown hK hP 0 rfl rfl 4 (by decide) (hts (.fieldLink RX4 37 "BedHouse" "plan" "LBedHouse$Plan;") (by decide +kernel)) (fun _ h9 => h9) rfl dX4_down_1 ?_
  refine lv_iload_n hx hb dX4_down_4 rfl (lv_at hl 1 rfl) ?_
  refine pc_VN (As := [.int (zI p)]) (rest := []) M (c_X1_hasPanel l D cB cI cZ cM _ pa sa ba so bm P TH B ra su vw no dn ha p (by first | assumption | omega) (by first | assumption | omega)) gX4_down_X1_hasPanel_n69 rfl (NW.at hN0 49 rfl) (by decide +kernel) (by decide +kernel) (by decide +kernel) hd_X1_hasPanel ⟨Nat.le_of_ble_eq_true rfl, Nat.le_of_ble_eq_true rfl⟩ hK hP [1, 2, 3] rfl 1 1 rfl rfl rfl hl.1 rfl rfl (Nat.le_of_ble_eq_true rfl) dX4_down_5 ⟨Nat.le_of_ble_eq_true rfl, Nat.le_of_ble_eq_true rfl⟩ (fun r_5 h_5 => ?_)
  subst h_5
  refine z_if_ne (tgt := 13) hx hb dX4_down_8 (by decide) (zb_bd _) (fun c_8 => ?_) (fun c_8 => ?_)
  · skip
    have c_8 := zb_t c_8
    refine lv_aload_n hx hb dX4_down_13 rfl (lv_at hl 0 rfl) ?_
    refine va_get (D := D) (ci := 4) (C := RX4) (T := TX4) (N := 7) hx hb hts inc_X4_down_4 hown hK hP 0 rfl rfl 2 (by decide) (hts (.fieldLink RX4 26 "BedHouse" "present" "LBedHouse$Moment;") (by decide +kernel)) (fun _ h9 => h9) rfl dX4_down_14 ?_
    refine va_getN (D := D) (ci := 0) (C := RX0) (T := TX0) (N := 8) hx hb hts inc_X4_down_0 hown hK hP 4 rfl rfl 0 (by decide) ((NW.at hN0 2 rfl).use rfl) (fun _ h9 => h9) rfl dX4_down_17 ?_
    refine lv_iload_n hx hb dX4_down_20 rfl (lv_at hl 1 rfl) ?_
    refine pc_J (As := [.int (zI hm), .int (zI p)]) (rest := []) M (c_X4_placeIn l D cB cI cZ cM _ hm p (by first | assumption | omega) (by first | assumption | omega)) gX4_down_X4_placeIn rfl hd_X4_placeIn ⟨Nat.le_of_ble_eq_true rfl, Nat.le_of_ble_eq_true rfl⟩ hK hP [] rfl hl.1 rfl rfl (Nat.le_of_ble_eq_true rfl) dX4_down_21 ⟨Nat.le_of_ble_eq_true rfl, Nat.le_of_ble_eq_true rfl⟩ (fun r_21 h_21 => ?_)
    subst h_21
    refine lv_bipush (v := zI 8) hx hb dX4_down_24 (by decide) ?_
    have hpl := pl_rng hm p
    refine z_icmp_ne (tgt := 32) hx hb dX4_down_26 (by decide) (by omega) (fun c_26 => ?_) (fun c_26 => ?_)
    · skip
      refine lv_aload_n hx hb dX4_down_32 rfl (lv_at hl 0 rfl) ?_
      refine lv_iload_n hx hb dX4_down_33 rfl (lv_at hl 1 rfl) ?_
      refine lv_bipush (v := zI 8) hx hb dX4_down_34 (by decide) ?_
      refine wc_Vi (As := [.int (zI p), .int (zI 8)]) (rest := []) (wr := []) (ws' := (fun u_36 : Int × Int => [(xa, .inr (4, [.ref ta, .ref ga, .ref ma, .ref im, .ref pa, .ref qpa, .long tr])), (pa, .inr (1, [.ref sa, .int (zI P), .int (zI TH), .ref ba, .int (zI B), .int (zI ra), .int (zI su), .int (zI vw), .int (zI no), .int (zI dn), .int (zI ha)])), (sa, .inl (cI, 4, .inl (zia so))), (ba, .inl (cI, 2, .inl (zia bm))), (ma, .inr (0, [.int (zI u_36.1), .int (zI dy), .int (zI u_36.2), .int (zI lk), .int (zI cl), .int (zI li), .int (zI da), .int (zI kp)]))])) M (c_X4_act l D cB cI cZ cM _ xa ta ga ma im pa qpa tr sa ba so bm P TH B ra su vw no dn ha hm dy ac lk cl li da kp p 8 (by first | assumption | omega) (by first | assumption | omega) (by first | assumption | omega) (by first | assumption | omega)) gX4_down_X4_act rfl ⟨rfl, hd_X4_act⟩ ⟨Nat.le_of_ble_eq_true rfl, Nat.le_of_ble_eq_true rfl⟩ hK hP hD hS hA [0, 1, 2, 3, 4] [] [0, 1, 2, 3, 4] rfl rfl (by decide) (by decide) (by decide) (fun _ => rfl) 0 4 rfl rfl rfl hl.1 rfl rfl (Nat.le_of_ble_eq_true rfl) dX4_down_36 ⟨Nat.le_of_ble_eq_true rfl, Nat.le_of_ble_eq_true rfl⟩ (by decide) (fun r_36 u_36 H locs h_36 hP hD hS => ?_)
      obtain ⟨hz_36, h_36⟩ := h_36
      subst hz_36
      have hit : dnA hm ac p so bm P B dn ha = ((actA hm ac p 8 so bm P B dn ha).1, u_36) := by unfold dnA; rw [if_pos c_8, if_neg c_26, h_36]
      exact wr_reti M dX4_down_39 (u := u_36) ⟨(congrArg zI (by rw [hit])), by rw [hit]⟩ hP hD hS
    refine lv_bipush (v := zI (-2)) hx hb dX4_down_29 (by decide) ?_
    have hit : dnA hm ac p so bm P B dn ha = (-2, hm, ac) := by unfold dnA; rw [if_pos c_8, if_pos c_26]
    exact wr_reti M dX4_down_31 (u := (hm, ac)) ⟨(congrArg zI (by rw [hit])), by rw [hit]⟩ hP hD hS
  have c_8 := zb_f c_8
  refine lv_iconst (v := zI (-1)) hx hb dX4_down_11 rfl ?_
  have hit : dnA hm ac p so bm P B dn ha = (-1, hm, ac) := by unfold dnA; rw [if_neg c_8]
  exact wr_reti M dX4_down_12 (u := (hm, ac)) ⟨(congrArg zI (by rw [hit])), by rw [hit]⟩ hP hD hS
set_option maxHeartbeats 4000000 in
set_option maxRecDepth 100000 in
theorem c_X4_up (l : Launch) (D : va_G) (cB cI cZ cM : ClassId) (Hp : Heap) (xa : Nat) (ta : Nat) (ga : Nat) (ma : Nat) (im : Nat) (pa : Nat) (qpa : Nat) (tr : Int64) (sa : Nat) (ba : Nat) (so : Int → Int) (bm : Int → Int) (P : Int) (TH : Int) (B : Int) (ra : Int) (su : Int) (vw : Int) (no : Int) (dn : Int) (ha : Int) (hm : Int) (dy : Int) (ac : Int) (lk : Int) (cl : Int) (li : Int) (da : Int) (kp : Int) (p : Int) (k : Int) (hok : okP so bm P TH B ra su vw no dn ha) (hmo : okM hm dy ac lk cl li da kp) (hp0 : -2147483648 ≤ p ∧ p < 2147483648) (hk0 : -2147483648 ≤ k ∧ k < 2147483648) : cWi l yX4_up wsX4_up (rmW 5 0 0 114) D (TYS cB cI cZ cM) [.ref xa, .int (zI p), .int (zI k)] [(xa, .inr (4, [.ref ta, .ref ga, .ref ma, .ref im, .ref pa, .ref qpa, .long tr])), (pa, .inr (1, [.ref sa, .int (zI P), .int (zI TH), .ref ba, .int (zI B), .int (zI ra), .int (zI su), .int (zI vw), .int (zI no), .int (zI dn), .int (zI ha)])), (sa, .inl (cI, 4, .inl (zia so))), (ba, .inl (cI, 2, .inl (zia bm))), (ma, .inr (0, [.int (zI hm), .int (zI dy), .int (zI ac), .int (zI lk), .int (zI cl), .int (zI li), .int (zI da), .int (zI kp)]))] Hp (fun (r : Int32) (u : Int × Int) => r = zI ((upA hm ac p k so bm P B dn ha).1) ∧ (u = (upA hm ac p k so bm P B dn ha).2)) (fun (u : Int × Int) => [(xa, .inr (4, [.ref ta, .ref ga, .ref ma, .ref im, .ref pa, .ref qpa, .long tr])), (pa, .inr (1, [.ref sa, .int (zI P), .int (zI TH), .ref ba, .int (zI B), .int (zI ra), .int (zI su), .int (zI vw), .int (zI no), .int (zI dn), .int (zI ha)])), (sa, .inl (cI, 4, .inl (zia so))), (ba, .inl (cI, 2, .inl (zia bm))), (ma, .inr (0, [.int (zI u.1), .int (zI dy), .int (zI u.2), .int (zI lk), .int (zI cl), .int (zI li), .int (zI da), .int (zI kp)]))]) 0 0 := by
  refine wr_starti (by decide) rfl (Nat.le_of_ble_eq_true rfl) ?_
  intro pg ev sx mm args below meth cd ls A M hP hD hS hA hK hl
  obtain ⟨hx, hb, hr, hml, hown, hts, hlk, hN0⟩ := id M
  have hl : lv_has ls 3 [(0, .ref xa), (1, .int (zI p)), (2, .int (zI k))] := hl
  refine W.widen (k := 0) (n := 0) (Nat.zero_le _) (Nat.zero_le _) ?_
  obtain ⟨hP4, hTH, hB2, hra, hsu, hvw, hno, hdn, hha, hso, hbm⟩ := id hok
  obtain ⟨hhm, hdy, hac, hlk, hcl, hli, hda, hkp⟩ := id hmo
  refine lv_aload_n hx hb dX4_up_0 rfl (lv_at hl 0 rfl) ?_
  refine va_get (D := D) (ci := 4) (C := RX4) (T := TX4) (N := 7) hx hb hts inc_X4_up_4 hown hK hP 0 rfl rfl 4 (by decide) (hts (.fieldLink RX4 37 "BedHouse" "plan" "LBedHouse$Plan;") (by decide +kernel)) (fun _ h9 => h9) rfl dX4_up_1 ?_
  refine lv_iload_n hx hb dX4_up_4 rfl (lv_at hl 1 rfl) ?_
  refine pc_VN (As := [.int (zI p)]) (rest := []) M (c_X1_hasPanel l D cB cI cZ cM _ pa sa ba so bm P TH B ra su vw no dn ha p (by first | assumption | omega) (by first | assumption | omega)) gX4_up_X1_hasPanel_n69 rfl (NW.at hN0 49 rfl) (by decide +kernel) (by decide +kernel) (by decide +kernel) hd_X1_hasPanel ⟨Nat.le_of_ble_eq_true rfl, Nat.le_of_ble_eq_true rfl⟩ hK hP [1, 2, 3] rfl 1 1 rfl rfl rfl hl.1 rfl rfl (Nat.le_of_ble_eq_true rfl) dX4_up_5 ⟨Nat.le_of_ble_eq_true rfl, Nat.le_of_ble_eq_true rfl⟩ (fun r_5 h_5 => ?_)
  subst h_5
  refine z_if_eq (tgt := 18) hx hb dX4_up_8 (by decide) (zb_bd _) (fun c_8 => ?_) (fun c_8 => ?_)
  · skip
    have c_8 := zb_f c_8
    refine lv_iconst (v := zI (-1)) hx hb dX4_up_18 rfl ?_
    have hit : upA hm ac p k so bm P B dn ha = (-1, hm, ac) := by unfold upA; rw [if_neg (by omega)]
    exact wr_reti M dX4_up_19 (u := (hm, ac)) ⟨(congrArg zI (by rw [hit])), by rw [hit]⟩ hP hD hS
  have c_8 := zb_t c_8
  refine lv_iload_n hx hb dX4_up_11 rfl (lv_at hl 2 rfl) ?_
  refine pc_J (As := [.int (zI k)]) (rest := []) M (c_X4_isSlot l D cB cI cZ cM _ k (by first | assumption | omega)) gX4_up_X4_isSlot rfl hd_X4_isSlot ⟨Nat.le_of_ble_eq_true rfl, Nat.le_of_ble_eq_true rfl⟩ hK hP [] rfl hl.1 rfl rfl (Nat.le_of_ble_eq_true rfl) dX4_up_12 ⟨Nat.le_of_ble_eq_true rfl, Nat.le_of_ble_eq_true rfl⟩ (fun r_12 h_12 => ?_)
  subst h_12
  refine z_if_ne (tgt := 20) hx hb dX4_up_15 (by decide) (zb_bd _) (fun c_15 => ?_) (fun c_15 => ?_)
  · skip
    have c_15 := zb_t c_15
    refine lv_aload_n hx hb dX4_up_20 rfl (lv_at hl 0 rfl) ?_
    refine va_get (D := D) (ci := 4) (C := RX4) (T := TX4) (N := 7) hx hb hts inc_X4_up_4 hown hK hP 0 rfl rfl 2 (by decide) (hts (.fieldLink RX4 26 "BedHouse" "present" "LBedHouse$Moment;") (by decide +kernel)) (fun _ h9 => h9) rfl dX4_up_21 ?_
    refine va_getN (D := D) (ci := 0) (C := RX0) (T := TX0) (N := 8) hx hb hts inc_X4_up_0 hown hK hP 4 rfl rfl 0 (by decide) ((NW.at hN0 2 rfl).use rfl) (fun _ h9 => h9) rfl dX4_up_24 ?_
    refine lv_iload_n hx hb dX4_up_27 rfl (lv_at hl 1 rfl) ?_
    refine pc_J (As := [.int (zI hm), .int (zI p)]) (rest := []) M (c_X4_placeIn l D cB cI cZ cM _ hm p (by first | assumption | omega) (by first | assumption | omega)) gX4_up_X4_placeIn rfl hd_X4_placeIn ⟨Nat.le_of_ble_eq_true rfl, Nat.le_of_ble_eq_true rfl⟩ hK hP [] rfl hl.1 rfl rfl (Nat.le_of_ble_eq_true rfl) dX4_up_28 ⟨Nat.le_of_ble_eq_true rfl, Nat.le_of_ble_eq_true rfl⟩ (fun r_28 h_28 => ?_)
    subst h_28
    have hpl := pl_rng hm p
    refine lv_bipush (v := zI 8) hx hb dX4_up_31 (by decide) ?_
    refine z_icmp_ne (tgt := 56) hx hb dX4_up_33 (by decide) (by omega) (fun c_33 => ?_) (fun c_33 => ?_)
    · skip
      refine lv_bipush (v := zI (-2)) hx hb dX4_up_56 (by decide) ?_
      have hit : upA hm ac p k so bm P B dn ha = (-2, hm, ac) := by unfold upA; rw [if_pos (by omega), if_pos (Or.inl c_33)]
      exact wr_reti M dX4_up_58 (u := (hm, ac)) ⟨(congrArg zI (by rw [hit])), by rw [hit]⟩ hP hD hS
    refine lv_aload_n hx hb dX4_up_36 rfl (lv_at hl 0 rfl) ?_
    refine va_get (D := D) (ci := 4) (C := RX4) (T := TX4) (N := 7) hx hb hts inc_X4_up_4 hown hK hP 0 rfl rfl 4 (by decide) (hts (.fieldLink RX4 37 "BedHouse" "plan" "LBedHouse$Plan;") (by decide +kernel)) (fun _ h9 => h9) rfl dX4_up_37 ?_
    refine lv_aload_n hx hb dX4_up_40 rfl (lv_at hl 0 rfl) ?_
    refine va_get (D := D) (ci := 4) (C := RX4) (T := TX4) (N := 7) hx hb hts inc_X4_up_4 hown hK hP 0 rfl rfl 2 (by decide) (hts (.fieldLink RX4 26 "BedHouse" "present" "LBedHouse$Moment;") (by decide +kernel)) (fun _ h9 => h9) rfl dX4_up_41 ?_
    refine va_getN (D := D) (ci := 0) (C := RX0) (T := TX0) (N := 8) hx hb hts inc_X4_up_0 hown hK hP 4 rfl rfl 0 (by decide) ((NW.at hN0 2 rfl).use rfl) (fun _ h9 => h9) rfl dX4_up_44 ?_
    refine lv_iload_n hx hb dX4_up_47 rfl (lv_at hl 2 rfl) ?_
    refine pc_VN (As := [.int (zI hm), .int (zI k)]) (rest := []) M (c_X1_panelAt l D cB cI cZ cM _ pa sa ba so bm P TH B ra su vw no dn ha hm k (by first | assumption | omega) (by first | assumption | omega) (by first | assumption | omega)) gX4_up_X1_panelAt_n87 rfl (NW.at hN0 51 rfl) (by decide +kernel) (by decide +kernel) (by decide +kernel) hd_X1_panelAt ⟨Nat.le_of_ble_eq_true rfl, Nat.le_of_ble_eq_true rfl⟩ hK hP [1, 2, 3] rfl 1 1 rfl rfl rfl hl.1 rfl rfl (Nat.le_of_ble_eq_true rfl) dX4_up_48 ⟨Nat.le_of_ble_eq_true rfl, Nat.le_of_ble_eq_true rfl⟩ (fun r_48 h_48 => ?_)
    subst h_48
    have hpf := patF_rng (pl hm) k P.toNat 0 (by omega)
    refine lv_bipush (v := zI (-9)) hx hb dX4_up_51 (by decide) ?_
    refine z_icmp_eq (tgt := 59) hx hb dX4_up_53 (by decide) (by omega) (fun c_53 => ?_) (fun c_53 => ?_)
    · skip
      refine lv_aload_n hx hb dX4_up_59 rfl (lv_at hl 0 rfl) ?_
      refine lv_iload_n hx hb dX4_up_60 rfl (lv_at hl 1 rfl) ?_
      refine lv_iload_n hx hb dX4_up_61 rfl (lv_at hl 2 rfl) ?_
      refine wc_Vi (As := [.int (zI p), .int (zI k)]) (rest := []) (wr := []) (ws' := (fun u_62 : Int × Int => [(xa, .inr (4, [.ref ta, .ref ga, .ref ma, .ref im, .ref pa, .ref qpa, .long tr])), (pa, .inr (1, [.ref sa, .int (zI P), .int (zI TH), .ref ba, .int (zI B), .int (zI ra), .int (zI su), .int (zI vw), .int (zI no), .int (zI dn), .int (zI ha)])), (sa, .inl (cI, 4, .inl (zia so))), (ba, .inl (cI, 2, .inl (zia bm))), (ma, .inr (0, [.int (zI u_62.1), .int (zI dy), .int (zI u_62.2), .int (zI lk), .int (zI cl), .int (zI li), .int (zI da), .int (zI kp)]))])) M (c_X4_act l D cB cI cZ cM _ xa ta ga ma im pa qpa tr sa ba so bm P TH B ra su vw no dn ha hm dy ac lk cl li da kp p k (by first | assumption | omega) (by first | assumption | omega) (by first | assumption | omega) (by first | assumption | omega)) gX4_up_X4_act rfl ⟨rfl, hd_X4_act⟩ ⟨Nat.le_of_ble_eq_true rfl, Nat.le_of_ble_eq_true rfl⟩ hK hP hD hS hA [0, 1, 2, 3, 4] [] [0, 1, 2, 3, 4] rfl rfl (by decide) (by decide) (by decide) (fun _ => rfl) 0 4 rfl rfl rfl hl.1 rfl rfl (Nat.le_of_ble_eq_true rfl) dX4_up_62 ⟨Nat.le_of_ble_eq_true rfl, Nat.le_of_ble_eq_true rfl⟩ (by decide) (fun r_62 u_62 H locs h_62 hP hD hS => ?_)
      obtain ⟨hz_62, h_62⟩ := h_62
      subst hz_62
      have hit : upA hm ac p k so bm P B dn ha = ((actA hm ac p k so bm P B dn ha).1, u_62) := by unfold upA; rw [if_pos (by omega), if_neg (by omega), h_62]
      exact wr_reti M dX4_up_65 (u := u_62) ⟨(congrArg zI (by rw [hit])), by rw [hit]⟩ hP hD hS
    refine lv_bipush (v := zI (-2)) hx hb dX4_up_56 (by decide) ?_
    have hit : upA hm ac p k so bm P B dn ha = (-2, hm, ac) := by unfold upA; rw [if_pos (by omega), if_pos (Or.inr c_53)]
    exact wr_reti M dX4_up_58 (u := (hm, ac)) ⟨(congrArg zI (by rw [hit])), by rw [hit]⟩ hP hD hS
  have c_15 := zb_f c_15
  refine lv_iconst (v := zI (-1)) hx hb dX4_up_18 rfl ?_
  have hit : upA hm ac p k so bm P B dn ha = (-1, hm, ac) := by unfold upA; rw [if_neg (by omega)]
  exact wr_reti M dX4_up_19 (u := (hm, ac)) ⟨(congrArg zI (by rw [hit])), by rw [hit]⟩ hP hD hS
set_option maxHeartbeats 4000000 in
set_option maxRecDepth 100000 in
theorem c_X4_night (l : Launch) (D : va_G) (cB cI cZ cM : ClassId) (Hp : Heap) (xa : Nat) (ta : Nat) (ga : Nat) (ma : Nat) (im : Nat) (pa : Nat) (qpa : Nat) (tr : Int64) (sa : Nat) (ba : Nat) (so : Int → Int) (bm : Int → Int) (P : Int) (TH : Int) (B : Int) (ra : Int) (su : Int) (vw : Int) (no : Int) (dn : Int) (ha : Int) (hm : Int) (dy : Int) (ac : Int) (lk : Int) (cl : Int) (li : Int) (da : Int) (kp : Int) (hok : okP so bm P TH B ra su vw no dn ha) (hmo : okM hm dy ac lk cl li da kp) : cWi l yX4_night wsX4_night (rmW 3 0 0 67) D (TYS cB cI cZ cM) [.ref xa] [(xa, .inr (4, [.ref ta, .ref ga, .ref ma, .ref im, .ref pa, .ref qpa, .long tr])), (pa, .inr (1, [.ref sa, .int (zI P), .int (zI TH), .ref ba, .int (zI B), .int (zI ra), .int (zI su), .int (zI vw), .int (zI no), .int (zI dn), .int (zI ha)])), (sa, .inl (cI, 4, .inl (zia so))), (ba, .inl (cI, 2, .inl (zia bm))), (ma, .inr (0, [.int (zI hm), .int (zI dy), .int (zI ac), .int (zI lk), .int (zI cl), .int (zI li), .int (zI da), .int (zI kp)]))] Hp (fun (r : Int32) (u : Int × Int × Int) => r = zI (if 999 ≤ dy then -2 else lkA (pl hm) so P ra) ∧ (u = (if 999 ≤ dy then (lk, dy, ac) else (lk + lkA (pl hm) so P ra, dy + 1, 0)))) (fun (u : Int × Int × Int) => [(xa, .inr (4, [.ref ta, .ref ga, .ref ma, .ref im, .ref pa, .ref qpa, .long tr])), (pa, .inr (1, [.ref sa, .int (zI P), .int (zI TH), .ref ba, .int (zI B), .int (zI ra), .int (zI su), .int (zI vw), .int (zI no), .int (zI dn), .int (zI ha)])), (sa, .inl (cI, 4, .inl (zia so))), (ba, .inl (cI, 2, .inl (zia bm))), (ma, .inr (0, [.int (zI hm), .int (zI u.2.1), .int (zI u.2.2), .int (zI u.1), .int (zI cl), .int (zI li), .int (zI da), .int (zI kp)]))]) 0 0 := by
  refine wr_starti (by decide) rfl (Nat.le_of_ble_eq_true rfl) ?_
  intro pg ev sx mm args below meth cd ls A M hP hD hS hA hK hl
  obtain ⟨hx, hb, hr, hml, hown, hts, hlk, hN0⟩ := id M
  have hl : lv_has ls 2 [(0, .ref xa)] := hl
  refine W.widen (k := 0) (n := 0) (Nat.zero_le _) (Nat.zero_le _) ?_
  obtain ⟨hP4, hTH, hB2, hra, hsu, hvw, hno, hdn, hha, hso, hbm⟩ := id hok
  obtain ⟨hhm, hdy, hac, hlk, hcl, hli, hda, hkp⟩ := id hmo
  refine lv_aload_n hx hb dX4_night_0 rfl (lv_at hl 0 rfl) ?_
  refine va_get (D := D) (ci := 4) (C := RX4) (T := TX4) (N := 7) hx hb hts inc_X4_night_4 hown hK hP 0 rfl rfl 2 (by decide) (hts (.fieldLink RX4 26 "BedHouse" "present" "LBedHouse$Moment;") (by decide +kernel)) (fun _ h9 => h9) rfl dX4_night_1 ?_
  refine va_getN (D := D) (ci := 0) (C := RX0) (T := TX0) (N := 8) hx hb hts inc_X4_night_0 hown hK hP 4 rfl rfl 1 (by decide) ((NW.at hN0 4 rfl).use rfl) (fun _ h9 => h9) rfl dX4_night_4 ?_
  refine lv_sipush (v := zI 999) hx hb dX4_night_7 (by decide) ?_
  refine z_icmp_lt (tgt := 16) hx hb dX4_night_10 (by decide) (by omega) (fun c_10 => ?_) (fun c_10 => ?_)
  · skip
    refine lv_aload_n hx hb dX4_night_16 rfl (lv_at hl 0 rfl) ?_
    refine va_get (D := D) (ci := 4) (C := RX4) (T := TX4) (N := 7) hx hb hts inc_X4_night_4 hown hK hP 0 rfl rfl 4 (by decide) (hts (.fieldLink RX4 37 "BedHouse" "plan" "LBedHouse$Plan;") (by decide +kernel)) (fun _ h9 => h9) rfl dX4_night_17 ?_
    refine lv_aload_n hx hb dX4_night_20 rfl (lv_at hl 0 rfl) ?_
    refine va_get (D := D) (ci := 4) (C := RX4) (T := TX4) (N := 7) hx hb hts inc_X4_night_4 hown hK hP 0 rfl rfl 2 (by decide) (hts (.fieldLink RX4 26 "BedHouse" "present" "LBedHouse$Moment;") (by decide +kernel)) (fun _ h9 => h9) rfl dX4_night_21 ?_
    refine va_getN (D := D) (ci := 0) (C := RX0) (T := TX0) (N := 8) hx hb hts inc_X4_night_0 hown hK hP 4 rfl rfl 0 (by decide) ((NW.at hN0 2 rfl).use rfl) (fun _ h9 => h9) rfl dX4_night_24 ?_
    refine pc_VN (As := [.int (zI hm)]) (rest := []) M (c_X1_leaksOf l D cB cI cZ cM _ pa sa ba so bm P TH B ra su vw no dn ha hm (by first | assumption | omega) (by first | assumption | omega) (by first | assumption | omega) (by first | assumption | omega)) gX4_night_X1_leaksOf_n125 rfl (NW.at hN0 56 rfl) (by decide +kernel) (by decide +kernel) (by decide +kernel) hd_X1_leaksOf ⟨Nat.le_of_ble_eq_true rfl, Nat.le_of_ble_eq_true rfl⟩ hK hP [1, 2, 3] rfl 1 1 rfl rfl rfl hl.1 rfl rfl (Nat.le_of_ble_eq_true rfl) dX4_night_27 ⟨Nat.le_of_ble_eq_true rfl, Nat.le_of_ble_eq_true rfl⟩ (fun r_27 h_27 => ?_)
    subst h_27
    refine lv_istore_n (lv' := [(1, .int (zI (lkA (pl hm) so P ra))), (0, .ref xa)]) hx hb dX4_night_30 rfl hl (by decide) rfl (fun ls hl => ?_)
    refine lv_aload_n hx hb dX4_night_31 rfl (lv_at hl 1 rfl) ?_
    refine va_get (D := D) (ci := 4) (C := RX4) (T := TX4) (N := 7) hx hb hts inc_X4_night_4 hown hK hP 0 rfl rfl 2 (by decide) (hts (.fieldLink RX4 26 "BedHouse" "present" "LBedHouse$Moment;") (by decide +kernel)) (fun _ h9 => h9) rfl dX4_night_32 ?_
    refine lv_dup hx hb dX4_night_35 rfl ?_
    refine va_getN (D := D) (ci := 0) (C := RX0) (T := TX0) (N := 8) hx hb hts inc_X4_night_0 hown hK hP 4 rfl rfl 3 (by decide) ((NW.at hN0 8 rfl).use rfl) (fun _ h9 => h9) rfl dX4_night_36 ?_
    refine lv_iload_n hx hb dX4_night_39 rfl (lv_at hl 0 rfl) ?_
    refine z_iadd hx hb dX4_night_40 ?_
    refine va_putN (D := D) (ci := 0) (v := .int (zI (lk + (lkA (pl hm) so P ra)))) (ty := .int) (C := RX0) (T := TX0) (N := 8) hx hb hts inc_X4_night_0 tyX0 tyX0_ok nmX0 hown hK hP hD hS 4 rfl rfl 3 (by decide) ((NW.at hN0 8 rfl).use rfl) (fun _ h9 => h9) rfl (by decide +kernel) rfl rfl (Nat.le_of_ble_eq_true rfl) dX4_night_41 (fun H locs hP hD hS => ?_)
    have hP : va_P D vwCl [(xa, .inr (4, [.ref ta, .ref ga, .ref ma, .ref im, .ref pa, .ref qpa, .long tr])), (pa, .inr (1, [.ref sa, .int (zI P), .int (zI TH), .ref ba, .int (zI B), .int (zI ra), .int (zI su), .int (zI vw), .int (zI no), .int (zI dn), .int (zI ha)])), (sa, .inl (cI, 4, .inl (zia so))), (ba, .inl (cI, 2, .inl (zia bm))), (ma, .inr (0, [.int (zI hm), .int (zI dy), .int (zI ac), .int (zI (lk + (lkA (pl hm) so P ra))), .int (zI cl), .int (zI li), .int (zI da), .int (zI kp)]))] H := hP
    have hD : va_D A [(xa, .inr (4, [.ref ta, .ref ga, .ref ma, .ref im, .ref pa, .ref qpa, .long tr])), (pa, .inr (1, [.ref sa, .int (zI P), .int (zI TH), .ref ba, .int (zI B), .int (zI ra), .int (zI su), .int (zI vw), .int (zI no), .int (zI dn), .int (zI ha)])), (sa, .inl (cI, 4, .inl (zia so))), (ba, .inl (cI, 2, .inl (zia bm))), (ma, .inr (0, [.int (zI hm), .int (zI dy), .int (zI ac), .int (zI (lk + (lkA (pl hm) so P ra))), .int (zI cl), .int (zI li), .int (zI da), .int (zI kp)]))] := hD
    refine lv_aload_n hx hb dX4_night_44 rfl (lv_at hl 1 rfl) ?_
    refine va_get (D := D) (ci := 4) (C := RX4) (T := TX4) (N := 7) hx hb hts inc_X4_night_4 hown hK hP 0 rfl rfl 2 (by decide) (hts (.fieldLink RX4 26 "BedHouse" "present" "LBedHouse$Moment;") (by decide +kernel)) (fun _ h9 => h9) rfl dX4_night_45 ?_
    refine lv_dup hx hb dX4_night_48 rfl ?_
    refine va_getN (D := D) (ci := 0) (C := RX0) (T := TX0) (N := 8) hx hb hts inc_X4_night_0 hown hK hP 4 rfl rfl 1 (by decide) ((NW.at hN0 4 rfl).use rfl) (fun _ h9 => h9) rfl dX4_night_49 ?_
    refine lv_iconst (v := zI 1) hx hb dX4_night_52 rfl ?_
    refine z_iadd hx hb dX4_night_53 ?_
    refine va_putN (D := D) (ci := 0) (v := .int (zI (dy + 1))) (ty := .int) (C := RX0) (T := TX0) (N := 8) hx hb hts inc_X4_night_0 tyX0 tyX0_ok nmX0 hown hK hP hD hS 4 rfl rfl 1 (by decide) ((NW.at hN0 4 rfl).use rfl) (fun _ h9 => h9) rfl (by decide +kernel) rfl rfl (Nat.le_of_ble_eq_true rfl) dX4_night_54 (fun H locs hP hD hS => ?_)
    have hP : va_P D vwCl [(xa, .inr (4, [.ref ta, .ref ga, .ref ma, .ref im, .ref pa, .ref qpa, .long tr])), (pa, .inr (1, [.ref sa, .int (zI P), .int (zI TH), .ref ba, .int (zI B), .int (zI ra), .int (zI su), .int (zI vw), .int (zI no), .int (zI dn), .int (zI ha)])), (sa, .inl (cI, 4, .inl (zia so))), (ba, .inl (cI, 2, .inl (zia bm))), (ma, .inr (0, [.int (zI hm), .int (zI (dy + 1)), .int (zI ac), .int (zI (lk + (lkA (pl hm) so P ra))), .int (zI cl), .int (zI li), .int (zI da), .int (zI kp)]))] H := hP
    have hD : va_D A [(xa, .inr (4, [.ref ta, .ref ga, .ref ma, .ref im, .ref pa, .ref qpa, .long tr])), (pa, .inr (1, [.ref sa, .int (zI P), .int (zI TH), .ref ba, .int (zI B), .int (zI ra), .int (zI su), .int (zI vw), .int (zI no), .int (zI dn), .int (zI ha)])), (sa, .inl (cI, 4, .inl (zia so))), (ba, .inl (cI, 2, .inl (zia bm))), (ma, .inr (0, [.int (zI hm), .int (zI (dy + 1)), .int (zI ac), .int (zI (lk + (lkA (pl hm) so P ra))), .int (zI cl), .int (zI li), .int (zI da), .int (zI kp)]))] := hD
    refine lv_aload_n hx hb dX4_night_57 rfl (lv_at hl 1 rfl) ?_
    refine va_get (D := D) (ci := 4) (C := RX4) (T := TX4) (N := 7) hx hb hts inc_X4_night_4 hown hK hP 0 rfl rfl 2 (by decide) (hts (.fieldLink RX4 26 "BedHouse" "present" "LBedHouse$Moment;") (by decide +kernel)) (fun _ h9 => h9) rfl dX4_night_58 ?_
    refine lv_iconst (v := zI 0) hx hb dX4_night_61 rfl ?_
    refine va_putN (D := D) (ci := 0) (v := .int (zI 0)) (ty := .int) (C := RX0) (T := TX0) (N := 8) hx hb hts inc_X4_night_0 tyX0 tyX0_ok nmX0 hown hK hP hD hS 4 rfl rfl 2 (by decide) ((NW.at hN0 7 rfl).use rfl) (fun _ h9 => h9) rfl (by decide +kernel) rfl rfl (Nat.le_of_ble_eq_true rfl) dX4_night_62 (fun H locs hP hD hS => ?_)
    have hP : va_P D vwCl [(xa, .inr (4, [.ref ta, .ref ga, .ref ma, .ref im, .ref pa, .ref qpa, .long tr])), (pa, .inr (1, [.ref sa, .int (zI P), .int (zI TH), .ref ba, .int (zI B), .int (zI ra), .int (zI su), .int (zI vw), .int (zI no), .int (zI dn), .int (zI ha)])), (sa, .inl (cI, 4, .inl (zia so))), (ba, .inl (cI, 2, .inl (zia bm))), (ma, .inr (0, [.int (zI hm), .int (zI (dy + 1)), .int (zI 0), .int (zI (lk + (lkA (pl hm) so P ra))), .int (zI cl), .int (zI li), .int (zI da), .int (zI kp)]))] H := hP
    have hD : va_D A [(xa, .inr (4, [.ref ta, .ref ga, .ref ma, .ref im, .ref pa, .ref qpa, .long tr])), (pa, .inr (1, [.ref sa, .int (zI P), .int (zI TH), .ref ba, .int (zI B), .int (zI ra), .int (zI su), .int (zI vw), .int (zI no), .int (zI dn), .int (zI ha)])), (sa, .inl (cI, 4, .inl (zia so))), (ba, .inl (cI, 2, .inl (zia bm))), (ma, .inr (0, [.int (zI hm), .int (zI (dy + 1)), .int (zI 0), .int (zI (lk + (lkA (pl hm) so P ra))), .int (zI cl), .int (zI li), .int (zI da), .int (zI kp)]))] := hD
    refine lv_iload_n hx hb dX4_night_65 rfl (lv_at hl 0 rfl) ?_
    exact wr_reti M dX4_night_66 (u := (lk + lkA (pl hm) so P ra, dy + 1, 0)) ⟨(congrArg zI (by rw [if_neg (by omega)])), (by rw [if_neg (by omega)])⟩ hP hD hS
  refine lv_bipush (v := zI (-2)) hx hb dX4_night_13 (by decide) ?_
  exact wr_reti M dX4_night_15 (u := (lk, dy, ac)) ⟨(congrArg zI (by rw [if_pos c_10])), (by rw [if_pos c_10])⟩ hP hD hS
set_option maxHeartbeats 4000000 in
set_option maxRecDepth 100000 in
theorem c_X4_now (l : Launch) (D : va_G) (cB cI cZ cM : ClassId) (Hp : Heap) (xa : Nat) (ta : Nat) (ga : Nat) (ma : Nat) (im : Nat) (pa : Nat) (qpa : Nat) (tr : Int64) (sa : Nat) (ba : Nat) (so : Int → Int) (bm : Int → Int) (P : Int) (TH : Int) (B : Int) (ra : Int) (su : Int) (vw : Int) (no : Int) (dn : Int) (ha : Int) (hm : Int) (dy : Int) (ac : Int) (lk : Int) (cl : Int) (li : Int) (da : Int) (kp : Int) (wh : Int) (hok : okP so bm P TH B ra su vw no dn ha) (hmo : okM hm dy ac lk cl li da kp) (hwh0 : -2147483648 ≤ wh ∧ wh < 2147483648) : cP l yX4_now wsX4_now 4 91 D (TYS cB cI cZ cM) [.ref xa, .int (zI wh)] [(xa, .inr (4, [.ref ta, .ref ga, .ref ma, .ref im, .ref pa, .ref qpa, .long tr])), (pa, .inr (1, [.ref sa, .int (zI P), .int (zI TH), .ref ba, .int (zI B), .int (zI ra), .int (zI su), .int (zI vw), .int (zI no), .int (zI dn), .int (zI ha)])), (sa, .inl (cI, 4, .inl (zia so))), (ba, .inl (cI, 2, .inl (zia bm))), (ma, .inr (0, [.int (zI hm), .int (zI dy), .int (zI ac), .int (zI lk), .int (zI cl), .int (zI li), .int (zI da), .int (zI kp)]))] Hp (fun r => r = zI (if wh = 0 then dy else if wh = 1 then ac else if wh = 2 then lk else if wh = 3 then woA (pl hm) so P ra su vw no else if wh = 4 then zb (alw (pl hm) so bm P B dn = true) else if wh = 5 then lkA (pl hm) so P ra else -1000000)) := by
  refine pu_start (by decide) rfl (Nat.le_of_ble_eq_true rfl) ?_
  intro pg ev sx mm args below meth cd ls M hP hK hl
  obtain ⟨hx, hb, hr, hml, hown, hts, hlk, hN0⟩ := id M
  have hl : lv_has ls 2 [(0, .ref xa), (1, .int (zI wh))] := hl
  obtain ⟨hP4, hTH, hB2, hra, hsu, hvw, hno, hdn, hha, hso, hbm⟩ := id hok
  obtain ⟨hhm, hdy, hac, hlk, hcl, hli, hda, hkp⟩ := id hmo
  refine lv_iload_n hx hb dX4_now_0 rfl (lv_at hl 1 rfl) ?_
  by_cases c_1_0 : wh = 0
  · skip
    refine lv_tableIn (tgt := 40) hx hb dX4_now_1 (by rw [zI_toInt (by omega)]; omega) (by rw [zI_toInt (by omega)]; omega) (by rw [zI_toInt (by omega), c_1_0]; rfl) (by decide) ?_
    refine lv_aload_n hx hb dX4_now_40 rfl (lv_at hl 0 rfl) ?_
    refine va_get (D := D) (ci := 4) (C := RX4) (T := TX4) (N := 7) hx hb hts inc_X4_now_4 hown hK hP 0 rfl rfl 2 (by decide) (hts (.fieldLink RX4 26 "BedHouse" "present" "LBedHouse$Moment;") (by decide +kernel)) (fun _ h9 => h9) rfl dX4_now_41 ?_
    refine va_getN (D := D) (ci := 0) (C := RX0) (T := TX0) (N := 8) hx hb hts inc_X4_now_0 hown hK hP 4 rfl rfl 1 (by decide) ((NW.at hN0 4 rfl).use rfl) (fun _ h9 => h9) rfl dX4_now_44 ?_
    exact pu_ret M dX4_now_47 (congrArg zI (by rw [if_pos c_1_0]))
  by_cases c_1_1 : wh = 1
  · skip
    refine lv_tableIn (tgt := 48) hx hb dX4_now_1 (by rw [zI_toInt (by omega)]; omega) (by rw [zI_toInt (by omega)]; omega) (by rw [zI_toInt (by omega), c_1_1]; rfl) (by decide) ?_
    refine lv_aload_n hx hb dX4_now_48 rfl (lv_at hl 0 rfl) ?_
    refine va_get (D := D) (ci := 4) (C := RX4) (T := TX4) (N := 7) hx hb hts inc_X4_now_4 hown hK hP 0 rfl rfl 2 (by decide) (hts (.fieldLink RX4 26 "BedHouse" "present" "LBedHouse$Moment;") (by decide +kernel)) (fun _ h9 => h9) rfl dX4_now_49 ?_
    refine va_getN (D := D) (ci := 0) (C := RX0) (T := TX0) (N := 8) hx hb hts inc_X4_now_0 hown hK hP 4 rfl rfl 2 (by decide) ((NW.at hN0 7 rfl).use rfl) (fun _ h9 => h9) rfl dX4_now_52 ?_
    exact pu_ret M dX4_now_55 (congrArg zI (by rw [if_neg c_1_0, if_pos c_1_1]))
  by_cases c_1_2 : wh = 2
  · skip
    refine lv_tableIn (tgt := 56) hx hb dX4_now_1 (by rw [zI_toInt (by omega)]; omega) (by rw [zI_toInt (by omega)]; omega) (by rw [zI_toInt (by omega), c_1_2]; rfl) (by decide) ?_
    refine lv_aload_n hx hb dX4_now_56 rfl (lv_at hl 0 rfl) ?_
    refine va_get (D := D) (ci := 4) (C := RX4) (T := TX4) (N := 7) hx hb hts inc_X4_now_4 hown hK hP 0 rfl rfl 2 (by decide) (hts (.fieldLink RX4 26 "BedHouse" "present" "LBedHouse$Moment;") (by decide +kernel)) (fun _ h9 => h9) rfl dX4_now_57 ?_
    refine va_getN (D := D) (ci := 0) (C := RX0) (T := TX0) (N := 8) hx hb hts inc_X4_now_0 hown hK hP 4 rfl rfl 3 (by decide) ((NW.at hN0 8 rfl).use rfl) (fun _ h9 => h9) rfl dX4_now_60 ?_
    exact pu_ret M dX4_now_63 (congrArg zI (by rw [if_neg c_1_0, if_neg c_1_1, if_pos c_1_2]))
  by_cases c_1_3 : wh = 3
  · skip
    refine lv_tableIn (tgt := 64) hx hb dX4_now_1 (by rw [zI_toInt (by omega)]; omega) (by rw [zI_toInt (by omega)]; omega) (by rw [zI_toInt (by omega), c_1_3]; rfl) (by decide) ?_
    refine lv_aload_n hx hb dX4_now_64 rfl (lv_at hl 0 rfl) ?_
    refine va_get (D := D) (ci := 4) (C := RX4) (T := TX4) (N := 7) hx hb hts inc_X4_now_4 hown hK hP 0 rfl rfl 4 (by decide) (hts (.fieldLink RX4 37 "BedHouse" "plan" "LBedHouse$Plan;") (by decide +kernel)) (fun _ h9 => h9) rfl dX4_now_65 ?_
    refine lv_aload_n hx hb dX4_now_68 rfl (lv_at hl 0 rfl) ?_
    refine va_get (D := D) (ci := 4) (C := RX4) (T := TX4) (N := 7) hx hb hts inc_X4_now_4 hown hK hP 0 rfl rfl 2 (by decide) (hts (.fieldLink RX4 26 "BedHouse" "present" "LBedHouse$Moment;") (by decide +kernel)) (fun _ h9 => h9) rfl dX4_now_69 ?_
    refine va_getN (D := D) (ci := 0) (C := RX0) (T := TX0) (N := 8) hx hb hts inc_X4_now_0 hown hK hP 4 rfl rfl 0 (by decide) ((NW.at hN0 2 rfl).use rfl) (fun _ h9 => h9) rfl dX4_now_72 ?_
    refine pc_VN (As := [.int (zI hm)]) (rest := []) M (c_X1_worthOf l D cB cI cZ cM _ pa sa ba so bm P TH B ra su vw no dn ha hm (by first | assumption | omega) (by first | assumption | omega) (by first | assumption | omega) (by first | assumption | omega) (by first | assumption | omega) (by first | assumption | omega) (by first | assumption | omega)) gX4_now_X1_worthOf_n134 rfl (NW.at hN0 57 rfl) (by decide +kernel) (by decide +kernel) (by decide +kernel) hd_X1_worthOf ⟨Nat.le_of_ble_eq_true rfl, Nat.le_of_ble_eq_true rfl⟩ hK hP [1, 2, 3] rfl 1 1 rfl rfl rfl hl.1 rfl rfl (Nat.le_of_ble_eq_true rfl) dX4_now_75 ⟨Nat.le_of_ble_eq_true rfl, Nat.le_of_ble_eq_true rfl⟩ (fun r_75 h_75 => ?_)
    subst h_75
    exact pu_ret M dX4_now_78 (congrArg zI (by rw [if_neg c_1_0, if_neg c_1_1, if_neg c_1_2, if_pos c_1_3]))
  by_cases c_1_4 : wh = 4
  · skip
    refine lv_tableIn (tgt := 79) hx hb dX4_now_1 (by rw [zI_toInt (by omega)]; omega) (by rw [zI_toInt (by omega)]; omega) (by rw [zI_toInt (by omega), c_1_4]; rfl) (by decide) ?_
    refine lv_aload_n hx hb dX4_now_79 rfl (lv_at hl 0 rfl) ?_
    refine va_get (D := D) (ci := 4) (C := RX4) (T := TX4) (N := 7) hx hb hts inc_X4_now_4 hown hK hP 0 rfl rfl 4 (by decide) (hts (.fieldLink RX4 37 "BedHouse" "plan" "LBedHouse$Plan;") (by decide +kernel)) (fun _ h9 => h9) rfl dX4_now_80 ?_
    refine lv_aload_n hx hb dX4_now_83 rfl (lv_at hl 0 rfl) ?_
    refine va_get (D := D) (ci := 4) (C := RX4) (T := TX4) (N := 7) hx hb hts inc_X4_now_4 hown hK hP 0 rfl rfl 2 (by decide) (hts (.fieldLink RX4 26 "BedHouse" "present" "LBedHouse$Moment;") (by decide +kernel)) (fun _ h9 => h9) rfl dX4_now_84 ?_
    refine va_getN (D := D) (ci := 0) (C := RX0) (T := TX0) (N := 8) hx hb hts inc_X4_now_0 hown hK hP 4 rfl rfl 0 (by decide) ((NW.at hN0 2 rfl).use rfl) (fun _ h9 => h9) rfl dX4_now_87 ?_
    refine pc_VN (As := [.int (zI hm)]) (rest := []) M (c_X1_allows l D cB cI cZ cM _ pa sa ba so bm P TH B ra su vw no dn ha hm (by first | assumption | omega) (by first | assumption | omega) (by first | assumption | omega) (by first | assumption | omega) (by first | assumption | omega) (by first | assumption | omega)) gX4_now_X1_allows_n137 rfl (NW.at hN0 54 rfl) (by decide +kernel) (by decide +kernel) (by decide +kernel) hd_X1_allows ⟨Nat.le_of_ble_eq_true rfl, Nat.le_of_ble_eq_true rfl⟩ hK hP [1, 2, 3] rfl 1 1 rfl rfl rfl hl.1 rfl rfl (Nat.le_of_ble_eq_true rfl) dX4_now_90 ⟨Nat.le_of_ble_eq_true rfl, Nat.le_of_ble_eq_true rfl⟩ (fun r_90 h_90 => ?_)
    subst h_90
    refine pc_J (As := [.int (zI (zb (alw (pl hm) so bm P B dn = true)))]) (rest := []) M (c_X4_asNumber l D cB cI cZ cM _ (zb (alw (pl hm) so bm P B dn = true)) (by unfold zb; split <;> omega)) gX4_now_X4_asNumber rfl hd_X4_asNumber ⟨Nat.le_of_ble_eq_true rfl, Nat.le_of_ble_eq_true rfl⟩ hK hP [] rfl hl.1 rfl rfl (Nat.le_of_ble_eq_true rfl) dX4_now_93 ⟨Nat.le_of_ble_eq_true rfl, Nat.le_of_ble_eq_true rfl⟩ (fun r_93 h_93 => ?_)
    subst h_93
    exact pu_ret M dX4_now_96 (congrArg zI (by rw [if_neg c_1_0, if_neg c_1_1, if_neg c_1_2, if_neg c_1_3, if_pos c_1_4]))
  by_cases c_1_5 : wh = 5
  · skip
    refine lv_tableIn (tgt := 97) hx hb dX4_now_1 (by rw [zI_toInt (by omega)]; omega) (by rw [zI_toInt (by omega)]; omega) (by rw [zI_toInt (by omega), c_1_5]; rfl) (by decide) ?_
    refine lv_aload_n hx hb dX4_now_97 rfl (lv_at hl 0 rfl) ?_
    refine va_get (D := D) (ci := 4) (C := RX4) (T := TX4) (N := 7) hx hb hts inc_X4_now_4 hown hK hP 0 rfl rfl 4 (by decide) (hts (.fieldLink RX4 37 "BedHouse" "plan" "LBedHouse$Plan;") (by decide +kernel)) (fun _ h9 => h9) rfl dX4_now_98 ?_
    refine lv_aload_n hx hb dX4_now_101 rfl (lv_at hl 0 rfl) ?_
    refine va_get (D := D) (ci := 4) (C := RX4) (T := TX4) (N := 7) hx hb hts inc_X4_now_4 hown hK hP 0 rfl rfl 2 (by decide) (hts (.fieldLink RX4 26 "BedHouse" "present" "LBedHouse$Moment;") (by decide +kernel)) (fun _ h9 => h9) rfl dX4_now_102 ?_
    refine va_getN (D := D) (ci := 0) (C := RX0) (T := TX0) (N := 8) hx hb hts inc_X4_now_0 hown hK hP 4 rfl rfl 0 (by decide) ((NW.at hN0 2 rfl).use rfl) (fun _ h9 => h9) rfl dX4_now_105 ?_
    refine pc_VN (As := [.int (zI hm)]) (rest := []) M (c_X1_leaksOf l D cB cI cZ cM _ pa sa ba so bm P TH B ra su vw no dn ha hm (by first | assumption | omega) (by first | assumption | omega) (by first | assumption | omega) (by first | assumption | omega)) gX4_now_X1_leaksOf_n125 rfl (NW.at hN0 56 rfl) (by decide +kernel) (by decide +kernel) (by decide +kernel) hd_X1_leaksOf ⟨Nat.le_of_ble_eq_true rfl, Nat.le_of_ble_eq_true rfl⟩ hK hP [1, 2, 3] rfl 1 1 rfl rfl rfl hl.1 rfl rfl (Nat.le_of_ble_eq_true rfl) dX4_now_108 ⟨Nat.le_of_ble_eq_true rfl, Nat.le_of_ble_eq_true rfl⟩ (fun r_108 h_108 => ?_)
    subst h_108
    exact pu_ret M dX4_now_111 (congrArg zI (by rw [if_neg c_1_0, if_neg c_1_1, if_neg c_1_2, if_neg c_1_3, if_neg c_1_4, if_pos c_1_5]))
  refine lv_tableOut (tgt := 112) hx hb dX4_now_1 (by rw [zI_toInt (by omega)]; omega) (by decide) ?_
  refine lv_ldc hx hb hown (hts (.constant RX4 140 (-1000000)) (by decide +kernel)) dX4_now_112 ?_
  refine z_top (y := zI (-1000000)) (by decide) ?_
  exact pu_ret M dX4_now_114 (congrArg zI (by rw [if_neg c_1_0, if_neg c_1_1, if_neg c_1_2, if_neg c_1_3, if_neg c_1_4, if_neg c_1_5]))
set_option maxHeartbeats 4000000 in
set_option maxRecDepth 100000 in
theorem c_X4_lit (l : Launch) (D : va_G) (cB cI cZ cM : ClassId) (Hp : Heap) (xa : Nat) (ta : Nat) (ga : Nat) (ma : Nat) (im : Nat) (pa : Nat) (qpa : Nat) (tr : Int64) (sa : Nat) (ba : Nat) (so : Int → Int) (bm : Int → Int) (P : Int) (TH : Int) (B : Int) (ra : Int) (su : Int) (vw : Int) (no : Int) (dn : Int) (ha : Int) (hm : Int) (dy : Int) (ac : Int) (lk : Int) (cl : Int) (li : Int) (da : Int) (kp : Int) (h : Int) (hok : okP so bm P TH B ra su vw no dn ha) (hmo : okM hm dy ac lk cl li da kp) (hh0 : -2147483648 ≤ h ∧ h < 2147483648) : cP l yX4_lit wsX4_lit 3 67 D (TYS cB cI cZ cM) [.ref xa, .int (zI h)] [(xa, .inr (4, [.ref ta, .ref ga, .ref ma, .ref im, .ref pa, .ref qpa, .long tr])), (pa, .inr (1, [.ref sa, .int (zI P), .int (zI TH), .ref ba, .int (zI B), .int (zI ra), .int (zI su), .int (zI vw), .int (zI no), .int (zI dn), .int (zI ha)])), (sa, .inl (cI, 4, .inl (zia so))), (ba, .inl (cI, 2, .inl (zia bm))), (ma, .inr (0, [.int (zI hm), .int (zI dy), .int (zI ac), .int (zI lk), .int (zI cl), .int (zI li), .int (zI da), .int (zI kp)]))] Hp (fun r => r = zI (if 0 ≤ h ∧ h < 8 then zbit (ltA (pl hm) so P su) h else -1)) := by
  refine pu_start (by decide) rfl (Nat.le_of_ble_eq_true rfl) ?_
  intro pg ev sx mm args below meth cd ls M hP hK hl
  obtain ⟨hx, hb, hr, hml, hown, hts, hlk, hN0⟩ := id M
  have hl : lv_has ls 2 [(0, .ref xa), (1, .int (zI h))] := hl
  obtain ⟨hP4, hTH, hB2, hra, hsu, hvw, hno, hdn, hha, hso, hbm⟩ := id hok
  obtain ⟨hhm, hdy, hac, hlk, hcl, hli, hda, hkp⟩ := id hmo
  refine lv_iload_n hx hb dX4_lit_0 rfl (lv_at hl 1 rfl) ?_
  refine pc_J (As := [.int (zI h)]) (rest := []) M (c_X4_isSlot l D cB cI cZ cM _ h (by first | assumption | omega)) gX4_lit_X4_isSlot rfl hd_X4_isSlot ⟨Nat.le_of_ble_eq_true rfl, Nat.le_of_ble_eq_true rfl⟩ hK hP [] rfl hl.1 rfl rfl (Nat.le_of_ble_eq_true rfl) dX4_lit_1 ⟨Nat.le_of_ble_eq_true rfl, Nat.le_of_ble_eq_true rfl⟩ (fun r_1 h_1 => ?_)
  subst h_1
  refine z_if_ne (tgt := 9) hx hb dX4_lit_4 (by decide) (zb_bd _) (fun c_4 => ?_) (fun c_4 => ?_)
  · skip
    have c_4 := zb_t c_4
    refine lv_aload_n hx hb dX4_lit_9 rfl (lv_at hl 0 rfl) ?_
    refine va_get (D := D) (ci := 4) (C := RX4) (T := TX4) (N := 7) hx hb hts inc_X4_lit_4 hown hK hP 0 rfl rfl 4 (by decide) (hts (.fieldLink RX4 37 "BedHouse" "plan" "LBedHouse$Plan;") (by decide +kernel)) (fun _ h9 => h9) rfl dX4_lit_10 ?_
    refine lv_aload_n hx hb dX4_lit_13 rfl (lv_at hl 0 rfl) ?_
    refine va_get (D := D) (ci := 4) (C := RX4) (T := TX4) (N := 7) hx hb hts inc_X4_lit_4 hown hK hP 0 rfl rfl 2 (by decide) (hts (.fieldLink RX4 26 "BedHouse" "present" "LBedHouse$Moment;") (by decide +kernel)) (fun _ h9 => h9) rfl dX4_lit_14 ?_
    refine va_getN (D := D) (ci := 0) (C := RX0) (T := TX0) (N := 8) hx hb hts inc_X4_lit_0 hown hK hP 4 rfl rfl 0 (by decide) ((NW.at hN0 2 rfl).use rfl) (fun _ h9 => h9) rfl dX4_lit_17 ?_
    refine pc_VN (As := [.int (zI hm)]) (rest := []) M (c_X1_litHours l D cB cI cZ cM _ pa sa ba so bm P TH B ra su vw no dn ha hm (by first | assumption | omega) (by first | assumption | omega) (by first | assumption | omega) (by first | assumption | omega)) gX4_lit_X1_litHours_n141 rfl (NW.at hN0 58 rfl) (by decide +kernel) (by decide +kernel) (by decide +kernel) hd_X1_litHours ⟨Nat.le_of_ble_eq_true rfl, Nat.le_of_ble_eq_true rfl⟩ hK hP [1, 2, 3] rfl 1 1 rfl rfl rfl hl.1 rfl rfl (Nat.le_of_ble_eq_true rfl) dX4_lit_20 ⟨Nat.le_of_ble_eq_true rfl, Nat.le_of_ble_eq_true rfl⟩ (fun r_20 h_20 => ?_)
    subst h_20
    refine lv_iload_n hx hb dX4_lit_23 rfl (lv_at hl 1 rfl) ?_
    have hlt := ltA_rng (pl hm) so P hsu
    refine z_ishr hx hb dX4_lit_24 (by omega) ?_
    refine lv_iconst (v := zI 1) hx hb dX4_lit_25 rfl ?_
    refine z_ibit hx hb dX4_lit_26 ?_
    exact pu_ret M dX4_lit_27 (congrArg zI (by rw [if_pos c_4]))
  have c_4 := zb_f c_4
  refine lv_iconst (v := zI (-1)) hx hb dX4_lit_7 rfl ?_
  exact pu_ret M dX4_lit_8 (congrArg zI (by rw [if_neg c_4]))
set_option maxHeartbeats 4000000 in
set_option maxRecDepth 100000 in
theorem c_X4_isImage (l : Launch) (D : va_G) (cB cI cZ cM : ClassId) (Hp : Heap) (xa : Nat) (ta : Nat) (ga : Nat) (ma : Nat) (im : Nat) (pa : Nat) (qpa : Nat) (tr : Int64) (bma : Nat) (cma : Nat) (g : Int) (hg0 : -2147483648 ≤ g ∧ g < 2147483648) : cP l yX4_isImage wsX4_isImage 0 0 D (TYS cB cI cZ cM) [.ref xa, .int (zI g)] [(xa, .inr (4, [.ref ta, .ref ga, .ref ma, .ref im, .ref pa, .ref qpa, .long tr])), (im, .inl (cM, 2, .inr (.inr (.inr (.inr (imF bma cma))))))] Hp (fun r => r = zI (zb (0 ≤ g ∧ g < 2))) := by
  refine pu_start (by decide) rfl (Nat.le_of_ble_eq_true rfl) ?_
  intro pg ev sx mm args below meth cd ls M hP hK hl
  obtain ⟨hx, hb, hr, hml, hown, hts, hlk, hN0⟩ := id M
  have hl : lv_has ls 2 [(0, .ref xa), (1, .int (zI g))] := hl
  refine lv_iload_n hx hb dX4_isImage_0 rfl (lv_at hl 1 rfl) ?_
  refine z_if_lt (tgt := 22) hx hb dX4_isImage_1 (by decide) (by omega) (fun c_1 => ?_) (fun c_1 => ?_)
  · skip
    refine lv_iconst (v := zI 0) hx hb dX4_isImage_22 rfl ?_
    exact pu_retz M (rfl) dX4_isImage_23 (congrArg zI (by unfold zb; first | (rw [if_pos (by omega)]; done) | (rw [if_neg (by omega)]; done)))
  refine lv_iload_n hx hb dX4_isImage_4 rfl (lv_at hl 1 rfl) ?_
  refine lv_iconst (v := zI 2) hx hb dX4_isImage_5 rfl ?_
  refine z_icmp_ge (tgt := 22) hx hb dX4_isImage_6 (by decide) (by omega) (fun c_6 => ?_) (fun c_6 => ?_)
  · skip
    refine lv_iconst (v := zI 0) hx hb dX4_isImage_22 rfl ?_
    exact pu_retz M (rfl) dX4_isImage_23 (congrArg zI (by unfold zb; first | (rw [if_pos (by omega)]; done) | (rw [if_neg (by omega)]; done)))
  refine lv_iload_n hx hb dX4_isImage_9 rfl (lv_at hl 1 rfl) ?_
  refine lv_aload_n hx hb dX4_isImage_10 rfl (lv_at hl 0 rfl) ?_
  refine va_get (D := D) (ci := 4) (C := RX4) (T := TX4) (N := 7) hx hb hts inc_X4_isImage_4 hown hK hP 0 rfl rfl 3 (by decide) (hts (.fieldLink RX4 30 "BedHouse" "images" "[LBedHouse$Moment;") (by decide +kernel)) (fun _ h9 => h9) rfl dX4_isImage_11 ?_
  refine z_alen (n := 2) hx hb hK hP 1 3 rfl rfl dX4_isImage_14 ?_
  refine z_icmp_ge (tgt := 22) hx hb dX4_isImage_15 (by decide) (by omega) (fun c_15 => ?_) (fun c_15 => ?_)
  · skip
    refine lv_iconst (v := zI 0) hx hb dX4_isImage_22 rfl ?_
    exact pu_retz M (rfl) dX4_isImage_23 (congrArg zI (by unfold zb; first | (rw [if_pos (by omega)]; done) | (rw [if_neg (by omega)]; done)))
  refine lv_iconst (v := zI 1) hx hb dX4_isImage_18 rfl ?_
  refine lv_goto (tgt := 23) hx hb dX4_isImage_19 (by decide) ?_
  exact pu_retz M (rfl) dX4_isImage_23 (congrArg zI (by unfold zb; first | (rw [if_pos (by omega)]; done) | (rw [if_neg (by omega)]; done)))
set_option maxHeartbeats 4000000 in
set_option maxRecDepth 100000 in
theorem c_X4_piano (l : Launch) (D : va_G) (cB cI cZ cM : ClassId) (Hp : Heap) (xa : Nat) (ta : Nat) (ga : Nat) (ma : Nat) (im : Nat) (pa : Nat) (qpa : Nat) (tr : Int64) (sa : Nat) (ba : Nat) (so : Int → Int) (bm : Int → Int) (P : Int) (TH : Int) (B : Int) (ra : Int) (su : Int) (vw : Int) (no : Int) (dn : Int) (ha : Int) (hm : Int) (dy : Int) (ac : Int) (lk : Int) (cl : Int) (li : Int) (da : Int) (kp : Int) (la : Nat) (fa : Nat) (ua : Nat) (lw : Int → Int) (d : Int → Int) (F : Int → Int) (m : Int) (sv : Int) (k : Int) (hok : okP so bm P TH B ra su vw no dn ha) (hmo : okM hm dy ac lk cl li da kp) (hsv : (sv = 0 ∨ sv = 1) ∧ (sv = 1 → lwOK lw so bm P B dn)) (hk0 : -2147483648 ≤ k ∧ k < 2147483648) : cWi l yX4_piano wsX4_piano (rmW 6 0 0 139) D (TYS cB cI cZ cM) [.ref xa, .int (zI k)] [(xa, .inr (4, [.ref ta, .ref ga, .ref ma, .ref im, .ref pa, .ref qpa, .long tr])), (ga, .inr (2, [.ref la, .ref fa, .ref ua, .int (zI m), .int (zI sv)])), (la, .inl (cB, 6561, .inl (zia lw))), (fa, .inl (cI, 6561, .inl (zia d))), (ua, .inl (cI, 3394, .inl (zia F))), (pa, .inr (1, [.ref sa, .int (zI P), .int (zI TH), .ref ba, .int (zI B), .int (zI ra), .int (zI su), .int (zI vw), .int (zI no), .int (zI dn), .int (zI ha)])), (sa, .inl (cI, 4, .inl (zia so))), (ba, .inl (cI, 2, .inl (zia bm))), (ma, .inr (0, [.int (zI hm), .int (zI dy), .int (zI ac), .int (zI lk), .int (zI cl), .int (zI li), .int (zI da), .int (zI kp)]))] Hp (fun (r : Int32) (u : (Int → Int) × BQ × Int) => r = zI (if 0 ≤ k ∧ k < 8 then teF so P (zbor (zpw k) (zpw ((k + 1) % 8))) (sprA (lwS so bm P B dn) P (zup F 0 hm) 1 6561) (sprA (lwS so bm P B dn) P (zup F 0 hm) 1 6561).2.1.toNat 0 else -1) ∧ ((u.2.2 = 0 ∨ u.2.2 = 1) ∧ (u.2.2 = 1 → lwOK u.1 so bm P B dn))) (fun (u : (Int → Int) × BQ × Int) => [(xa, .inr (4, [.ref ta, .ref ga, .ref ma, .ref im, .ref pa, .ref qpa, .long tr])), (ga, .inr (2, [.ref la, .ref fa, .ref ua, .int (zI u.2.1.2.1), .int (zI u.2.2)])), (la, .inl (cB, 6561, .inl (zia u.1))), (fa, .inl (cI, 6561, .inl (zia u.2.1.2.2))), (ua, .inl (cI, 3394, .inl (zia u.2.1.1))), (pa, .inr (1, [.ref sa, .int (zI P), .int (zI TH), .ref ba, .int (zI B), .int (zI ra), .int (zI su), .int (zI vw), .int (zI no), .int (zI dn), .int (zI ha)])), (sa, .inl (cI, 4, .inl (zia so))), (ba, .inl (cI, 2, .inl (zia bm))), (ma, .inr (0, [.int (zI hm), .int (zI dy), .int (zI ac), .int (zI lk), .int (zI cl), .int (zI li), .int (zI da), .int (zI kp)]))]) 0 0 := by
  refine wr_starti (by decide) rfl (Nat.le_of_ble_eq_true rfl) ?_
  intro pg ev sx mm args below meth cd ls A M hP hD hS hA hK hl
  obtain ⟨hx, hb, hr, hml, hown, hts, hlk, hN0⟩ := id M
  have hl : lv_has ls 2 [(0, .ref xa), (1, .int (zI k))] := hl
  refine W.widen (k := 0) (n := 0) (Nat.zero_le _) (Nat.zero_le _) ?_
  obtain ⟨hP4, hTH, hB2, hra, hsu, hvw, hno, hdn, hha, hso, hbm⟩ := id hok
  obtain ⟨hhm, hdy, hac, hlk, hcl, hli, hda, hkp⟩ := id hmo
  refine lv_iload_n hx hb dX4_piano_0 rfl (lv_at hl 1 rfl) ?_
  refine pc_J (As := [.int (zI k)]) (rest := []) M (c_X4_isSlot l D cB cI cZ cM _ k (by first | assumption | omega)) gX4_piano_X4_isSlot rfl hd_X4_isSlot ⟨Nat.le_of_ble_eq_true rfl, Nat.le_of_ble_eq_true rfl⟩ hK hP [] rfl hl.1 rfl rfl (Nat.le_of_ble_eq_true rfl) dX4_piano_1 ⟨Nat.le_of_ble_eq_true rfl, Nat.le_of_ble_eq_true rfl⟩ (fun r_1 h_1 => ?_)
  subst h_1
  refine z_if_ne (tgt := 9) hx hb dX4_piano_4 (by decide) (zb_bd _) (fun c_4 => ?_) (fun c_4 => ?_)
  · skip
    have c_4 := zb_t c_4
    refine lv_aload_n hx hb dX4_piano_9 rfl (lv_at hl 0 rfl) ?_
    refine va_get (D := D) (ci := 4) (C := RX4) (T := TX4) (N := 7) hx hb hts inc_X4_piano_4 hown hK hP 0 rfl rfl 1 (by decide) (hts (.fieldLink RX4 19 "BedHouse" "search" "LBedHouse$Search;") (by decide +kernel)) (fun _ h9 => h9) rfl dX4_piano_10 ?_
    refine lv_aload_n hx hb dX4_piano_13 rfl (lv_at hl 0 rfl) ?_
    refine va_get (D := D) (ci := 4) (C := RX4) (T := TX4) (N := 7) hx hb hts inc_X4_piano_4 hown hK hP 0 rfl rfl 4 (by decide) (hts (.fieldLink RX4 37 "BedHouse" "plan" "LBedHouse$Plan;") (by decide +kernel)) (fun _ h9 => h9) rfl dX4_piano_14 ?_
    refine lv_aload_n hx hb dX4_piano_17 rfl (lv_at hl 0 rfl) ?_
    refine va_get (D := D) (ci := 4) (C := RX4) (T := TX4) (N := 7) hx hb hts inc_X4_piano_4 hown hK hP 0 rfl rfl 2 (by decide) (hts (.fieldLink RX4 26 "BedHouse" "present" "LBedHouse$Moment;") (by decide +kernel)) (fun _ h9 => h9) rfl dX4_piano_18 ?_
    refine va_getN (D := D) (ci := 0) (C := RX0) (T := TX0) (N := 8) hx hb hts inc_X4_piano_0 hown hK hP 8 rfl rfl 0 (by decide) ((NW.at hN0 2 rfl).use rfl) (fun _ h9 => h9) rfl dX4_piano_21 ?_
    refine lv_iconst (v := zI 1) hx hb dX4_piano_24 rfl ?_
    refine lv_iload_n hx hb dX4_piano_25 rfl (lv_at hl 1 rfl) ?_
    refine z_ishl1 hx hb dX4_piano_26 (by omega) ?_
    refine lv_iconst (v := zI 1) hx hb dX4_piano_27 rfl ?_
    refine lv_iload_n hx hb dX4_piano_28 rfl (lv_at hl 1 rfl) ?_
    refine lv_iconst (v := zI 1) hx hb dX4_piano_29 rfl ?_
    refine z_iadd hx hb dX4_piano_30 ?_
    refine lv_bipush (v := zI 8) hx hb dX4_piano_31 (by decide) ?_
    refine z_irem hx hb dX4_piano_33 (by omega) ?_
    refine z_ishl1 hx hb dX4_piano_34 (by omega) ?_
    refine z_ior hx hb dX4_piano_35 (⟨zpw_nn _, zpw_nn _⟩) ?_
    refine wc_VNi (As := [.ref pa, .int (zI hm), .int (zI (zbor (zpw k) (zpw ((k + 1) % 8))))]) (rest := []) (wr := [(xa, .inr (4, [.ref ta, .ref ga, .ref ma, .ref im, .ref pa, .ref qpa, .long tr])), (ma, .inr (0, [.int (zI hm), .int (zI dy), .int (zI ac), .int (zI lk), .int (zI cl), .int (zI li), .int (zI da), .int (zI kp)]))]) (ws' := (fun u_36 : BQ => [(xa, .inr (4, [.ref ta, .ref ga, .ref ma, .ref im, .ref pa, .ref qpa, .long tr])), (ga, .inr (2, [.ref la, .ref fa, .ref ua, .int (zI u_36.2.1), .int (zI 1)])), (la, .inl (cB, 6561, .inl (zia (lwS so bm P B dn)))), (fa, .inl (cI, 6561, .inl (zia u_36.2.2))), (ua, .inl (cI, 3394, .inl (zia u_36.1))), (pa, .inr (1, [.ref sa, .int (zI P), .int (zI TH), .ref ba, .int (zI B), .int (zI ra), .int (zI su), .int (zI vw), .int (zI no), .int (zI dn), .int (zI ha)])), (sa, .inl (cI, 4, .inl (zia so))), (ba, .inl (cI, 2, .inl (zia bm))), (ma, .inr (0, [.int (zI hm), .int (zI dy), .int (zI ac), .int (zI lk), .int (zI cl), .int (zI li), .int (zI da), .int (zI kp)]))])) M (c_X2_actsToEmpty l D cB cI cZ cM _ ga la fa ua lw d F m sv pa sa ba so bm P TH B ra su vw no dn ha hm (zbor (zpw k) (zpw ((k + 1) % 8))) (by first | assumption | omega) (by first | assumption | omega) (by first | assumption | omega) (by first | assumption | omega) (by first | assumption | omega) (by first | assumption | omega) (by first | assumption | omega) (zbor_256 ⟨zpw_nn _, zpw_lt (n := 8) (by omega) (by omega)⟩ ⟨zpw_nn _, zpw_lt (n := 8) (by omega) (by omega)⟩)) gX4_piano_X2_actsToEmpty_n158 rfl (NW.at hN0 67 rfl) (by decide +kernel) (by decide +kernel) (by decide +kernel) hd_X2_actsToEmpty ⟨Nat.le_of_ble_eq_true rfl, Nat.le_of_ble_eq_true rfl⟩ hK hP hD hS hA [1, 2, 3, 4, 5, 6, 7] [0, 8] [0, 2, 3, 4, 5, 6, 7, 8, 1] rfl rfl (by decide) (by decide) (by decide) (fun _ => rfl) 1 2 rfl rfl rfl hl.1 rfl rfl (Nat.le_of_ble_eq_true rfl) dX4_piano_36 ⟨Nat.le_of_ble_eq_true rfl, Nat.le_of_ble_eq_true rfl⟩ (by decide) (fun r_36 u_36 H locs h_36 hP hD hS => ?_)
    obtain ⟨hz_36, h_36⟩ := h_36
    subst hz_36
    exact wr_reti M dX4_piano_39 (u := (lwS so bm P B dn, u_36, 1)) ⟨(congrArg zI (by rw [if_pos c_4])), by exact ⟨Or.inr rfl, fun _ _ _ _ => rfl⟩⟩ hP hD hS
  have c_4 := zb_f c_4
  refine lv_iconst (v := zI (-1)) hx hb dX4_piano_7 rfl ?_
  exact wr_reti M dX4_piano_8 (u := (lw, (F, m, d), sv)) ⟨(congrArg zI (by rw [if_neg c_4])), by exact hsv⟩ hP hD hS
set_option maxHeartbeats 4000000 in
set_option maxRecDepth 100000 in
theorem c_X4_best (l : Launch) (D : va_G) (cB cI cZ cM : ClassId) (Hp : Heap) (xa : Nat) (ta : Nat) (ga : Nat) (ma : Nat) (im : Nat) (pa : Nat) (qpa : Nat) (tr : Int64) (sa : Nat) (ba : Nat) (so : Int → Int) (bm : Int → Int) (P : Int) (TH : Int) (B : Int) (ra : Int) (su : Int) (vw : Int) (no : Int) (dn : Int) (ha : Int) (hm : Int) (dy : Int) (ac : Int) (lk : Int) (cl : Int) (li : Int) (da : Int) (kp : Int) (la : Nat) (fa : Nat) (ua : Nat) (lw : Int → Int) (d : Int → Int) (F : Int → Int) (m : Int) (sv : Int) (p : Int) (hok : okP so bm P TH B ra su vw no dn ha) (hmo : okM hm dy ac lk cl li da kp) (hsv : (sv = 0 ∨ sv = 1) ∧ (sv = 1 → lwOK lw so bm P B dn)) (hp0 : -2147483648 ≤ p ∧ p < 2147483648) : cWi l yX4_best wsX4_best (rmW 6 0 0 139) D (TYS cB cI cZ cM) [.ref xa, .int (zI p)] [(xa, .inr (4, [.ref ta, .ref ga, .ref ma, .ref im, .ref pa, .ref qpa, .long tr])), (ga, .inr (2, [.ref la, .ref fa, .ref ua, .int (zI m), .int (zI sv)])), (la, .inl (cB, 6561, .inl (zia lw))), (fa, .inl (cI, 6561, .inl (zia d))), (ua, .inl (cI, 3394, .inl (zia F))), (pa, .inr (1, [.ref sa, .int (zI P), .int (zI TH), .ref ba, .int (zI B), .int (zI ra), .int (zI su), .int (zI vw), .int (zI no), .int (zI dn), .int (zI ha)])), (sa, .inl (cI, 4, .inl (zia so))), (ba, .inl (cI, 2, .inl (zia bm))), (ma, .inr (0, [.int (zI hm), .int (zI dy), .int (zI ac), .int (zI lk), .int (zI cl), .int (zI li), .int (zI da), .int (zI kp)]))] Hp (fun (r : Int32) (u : (Int → Int) × BQ × Int) => r = zI (if ¬ (p = -1 ∨ (0 ≤ p ∧ p < P)) then -1000000 else if (bhF (lwS so bm P B dn) so P ra su vw no 6561 0 (-9, -1000000)).1 = -9 then -1000000 else if p = -1 then woA (pl (bhF (lwS so bm P B dn) so P ra su vw no 6561 0 (-9, -1000000)).1) so P ra su vw no else pl (bhF (lwS so bm P B dn) so P ra su vw no 6561 0 (-9, -1000000)).1 p) ∧ ((u.2.2 = 0 ∨ u.2.2 = 1) ∧ (u.2.2 = 1 → lwOK u.1 so bm P B dn))) (fun (u : (Int → Int) × BQ × Int) => [(xa, .inr (4, [.ref ta, .ref ga, .ref ma, .ref im, .ref pa, .ref qpa, .long tr])), (ga, .inr (2, [.ref la, .ref fa, .ref ua, .int (zI u.2.1.2.1), .int (zI u.2.2)])), (la, .inl (cB, 6561, .inl (zia u.1))), (fa, .inl (cI, 6561, .inl (zia u.2.1.2.2))), (ua, .inl (cI, 3394, .inl (zia u.2.1.1))), (pa, .inr (1, [.ref sa, .int (zI P), .int (zI TH), .ref ba, .int (zI B), .int (zI ra), .int (zI su), .int (zI vw), .int (zI no), .int (zI dn), .int (zI ha)])), (sa, .inl (cI, 4, .inl (zia so))), (ba, .inl (cI, 2, .inl (zia bm))), (ma, .inr (0, [.int (zI hm), .int (zI dy), .int (zI ac), .int (zI lk), .int (zI cl), .int (zI li), .int (zI da), .int (zI kp)]))]) 0 0 := by
  refine wr_starti (by decide) rfl (Nat.le_of_ble_eq_true rfl) ?_
  intro pg ev sx mm args below meth cd ls A M hP hD hS hA hK hl
  obtain ⟨hx, hb, hr, hml, hown, hts, hlk, hN0⟩ := id M
  have hl : lv_has ls 3 [(0, .ref xa), (1, .int (zI p))] := hl
  refine W.widen (k := 0) (n := 0) (Nat.zero_le _) (Nat.zero_le _) ?_
  obtain ⟨hP4, hTH, hB2, hra, hsu, hvw, hno, hdn, hha, hso, hbm⟩ := id hok
  obtain ⟨hhm, hdy, hac, hlk, hcl, hli, hda, hkp⟩ := id hmo
  refine lv_iload_n hx hb dX4_best_0 rfl (lv_at hl 1 rfl) ?_
  refine lv_iconst (v := zI (-1)) hx hb dX4_best_1 rfl ?_
  refine z_icmp_eq (tgt := 19) hx hb dX4_best_2 (by decide) (by omega) (fun c_2 => ?_) (fun c_2 => ?_)
  · skip
    refine lv_aload_n hx hb dX4_best_19 rfl (lv_at hl 0 rfl) ?_
    refine va_get (D := D) (ci := 4) (C := RX4) (T := TX4) (N := 7) hx hb hts inc_X4_best_4 hown hK hP 0 rfl rfl 1 (by decide) (hts (.fieldLink RX4 19 "BedHouse" "search" "LBedHouse$Search;") (by decide +kernel)) (fun _ h9 => h9) rfl dX4_best_20 ?_
    refine lv_aload_n hx hb dX4_best_23 rfl (lv_at hl 0 rfl) ?_
    refine va_get (D := D) (ci := 4) (C := RX4) (T := TX4) (N := 7) hx hb hts inc_X4_best_4 hown hK hP 0 rfl rfl 4 (by decide) (hts (.fieldLink RX4 37 "BedHouse" "plan" "LBedHouse$Plan;") (by decide +kernel)) (fun _ h9 => h9) rfl dX4_best_24 ?_
    refine wc_VNi (As := [.ref pa]) (rest := []) (wr := [(xa, .inr (4, [.ref ta, .ref ga, .ref ma, .ref im, .ref pa, .ref qpa, .long tr])), (ma, .inr (0, [.int (zI hm), .int (zI dy), .int (zI ac), .int (zI lk), .int (zI cl), .int (zI li), .int (zI da), .int (zI kp)]))]) (ws' := (fun _u : Unit => [(xa, .inr (4, [.ref ta, .ref ga, .ref ma, .ref im, .ref pa, .ref qpa, .long tr])), (ga, .inr (2, [.ref la, .ref fa, .ref ua, .int (zI m), .int (zI 1)])), (la, .inl (cB, 6561, .inl (zia (lwS so bm P B dn)))), (fa, .inl (cI, 6561, .inl (zia d))), (ua, .inl (cI, 3394, .inl (zia F))), (pa, .inr (1, [.ref sa, .int (zI P), .int (zI TH), .ref ba, .int (zI B), .int (zI ra), .int (zI su), .int (zI vw), .int (zI no), .int (zI dn), .int (zI ha)])), (sa, .inl (cI, 4, .inl (zia so))), (ba, .inl (cI, 2, .inl (zia bm))), (ma, .inr (0, [.int (zI hm), .int (zI dy), .int (zI ac), .int (zI lk), .int (zI cl), .int (zI li), .int (zI da), .int (zI kp)]))])) M (c_X2_bestHome l D cB cI cZ cM _ ga la fa ua lw d F m sv pa sa ba so bm P TH B ra su vw no dn ha (by first | assumption | omega) (by first | assumption | omega) (by first | assumption | omega) (by first | assumption | omega) (by first | assumption | omega) (by first | assumption | omega) (by first | assumption | omega) (by first | assumption | omega) (by first | assumption | omega) (by first | assumption | omega)) gX4_best_X2_bestHome_n161 rfl (NW.at hN0 69 rfl) (by decide +kernel) (by decide +kernel) (by decide +kernel) hd_X2_bestHome ⟨Nat.le_of_ble_eq_true rfl, Nat.le_of_ble_eq_true rfl⟩ hK hP hD hS hA [1, 2, 3, 4, 5, 6, 7] [0, 8] [0, 2, 3, 4, 5, 6, 7, 8, 1] rfl rfl (by decide) (by decide) (by decide) (fun _ => rfl) 1 2 rfl rfl rfl hl.1 rfl rfl (Nat.le_of_ble_eq_true rfl) dX4_best_27 ⟨Nat.le_of_ble_eq_true rfl, Nat.le_of_ble_eq_true rfl⟩ (by decide) (fun r_27 _u H locs h_27 hP hD hS => ?_)
    subst h_27
    have hbh := bhF_rng (lwS so bm P B dn) so P ra su vw no 6561 0 (-9, -1000000) (Int.le_refl 0 |> fun q => ⟨q, by decide⟩) ⟨by decide, by decide, fun _ => rfl⟩
    obtain ⟨X, hX⟩ : ∃ X : Int, (bhF (lwS so bm P B dn) so P ra su vw no 6561 0 (-9, -1000000)).1 = X := ⟨_, rfl⟩
    rw [hX] at hbh
    have hX : Hid ((bhF (lwS so bm P B dn) so P ra su vw no 6561 0 (-9, -1000000)).1 = X) := hX
    refine z_topz (b := X) (hX) ?_
    refine lv_istore_n (lv' := [(2, .int (zI X)), (0, .ref xa), (1, .int (zI p))]) hx hb dX4_best_30 rfl hl (by decide) rfl (fun ls hl => ?_)
    refine lv_iload_n hx hb dX4_best_31 rfl (lv_at hl 0 rfl) ?_
    refine lv_bipush (v := zI (-9)) hx hb dX4_best_32 (by decide) ?_
    refine z_icmp_ne (tgt := 40) hx hb dX4_best_34 (by decide) (by omega) (fun c_34 => ?_) (fun c_34 => ?_)
    · skip
      refine lv_iload_n hx hb dX4_best_40 rfl (lv_at hl 2 rfl) ?_
      refine lv_iconst (v := zI (-1)) hx hb dX4_best_41 rfl ?_
      refine z_icmp_ne (tgt := 56) hx hb dX4_best_42 (by decide) (by omega) (fun c_42 => ?_) (fun c_42 => ?_)
      · skip
        refine lv_iload_n hx hb dX4_best_56 rfl (lv_at hl 0 rfl) ?_
        refine lv_iload_n hx hb dX4_best_57 rfl (lv_at hl 2 rfl) ?_
        refine pc_J (As := [.int (zI X), .int (zI p)]) (rest := []) M (c_X4_placeIn l D cB cI cZ cM _ X p (by omega) (by first | assumption | omega)) gX4_best_X4_placeIn rfl hd_X4_placeIn ⟨Nat.le_of_ble_eq_true rfl, Nat.le_of_ble_eq_true rfl⟩ hK hP [] rfl hl.1 rfl rfl (Nat.le_of_ble_eq_true rfl) dX4_best_58 ⟨Nat.le_of_ble_eq_true rfl, Nat.le_of_ble_eq_true rfl⟩ (fun r_58 h_58 => ?_)
        subst h_58
        exact wr_reti M dX4_best_61 (u := (lwS so bm P B dn, (F, m, d), 1)) ⟨(congrArg zI (by rw [if_neg (by omega), if_neg (fun q => c_34 (Eq.trans (Eq.symm hX) q)), if_neg c_42, show (bhF (lwS so bm P B dn) so P ra su vw no 6561 0 (-9, -1000000)).1 = X from hX])), by exact ⟨Or.inr rfl, fun _ _ _ _ => rfl⟩⟩ hP hD hS
      refine lv_aload_n hx hb dX4_best_45 rfl (lv_at hl 1 rfl) ?_
      refine va_get (D := D) (ci := 4) (C := RX4) (T := TX4) (N := 7) hx hb hts inc_X4_best_4 hown hK hP 0 rfl rfl 4 (by decide) (hts (.fieldLink RX4 37 "BedHouse" "plan" "LBedHouse$Plan;") (by decide +kernel)) (fun _ h9 => h9) rfl dX4_best_46 ?_
      refine lv_iload_n hx hb dX4_best_49 rfl (lv_at hl 0 rfl) ?_
      refine pc_VN (As := [.int (zI X)]) (rest := []) M (c_X1_worthOf l D cB cI cZ cM _ pa sa ba so bm P TH B ra su vw no dn ha X (by first | assumption | omega) (by first | assumption | omega) (by first | assumption | omega) (by first | assumption | omega) (by first | assumption | omega) (by first | assumption | omega) (by omega)) gX4_best_X1_worthOf_n134 rfl (NW.at hN0 57 rfl) (by decide +kernel) (by decide +kernel) (by decide +kernel) hd_X1_worthOf ⟨Nat.le_of_ble_eq_true rfl, Nat.le_of_ble_eq_true rfl⟩ hK hP [5, 6, 7] rfl 5 1 rfl rfl rfl hl.1 rfl rfl (Nat.le_of_ble_eq_true rfl) dX4_best_50 ⟨Nat.le_of_ble_eq_true rfl, Nat.le_of_ble_eq_true rfl⟩ (fun r_50 h_50 => ?_)
      subst h_50
      refine lv_goto (tgt := 61) hx hb dX4_best_53 (by decide) ?_
      exact wr_reti M dX4_best_61 (u := (lwS so bm P B dn, (F, m, d), 1)) ⟨(congrArg zI (by rw [if_neg (by omega), if_neg (fun q => c_34 (Eq.trans (Eq.symm hX) q)), if_pos c_42, show (bhF (lwS so bm P B dn) so P ra su vw no 6561 0 (-9, -1000000)).1 = X from hX])), by exact ⟨Or.inr rfl, fun _ _ _ _ => rfl⟩⟩ hP hD hS
    refine lv_ldc hx hb hown (hts (.constant RX4 140 (-1000000)) (by decide +kernel)) dX4_best_37 ?_
    refine z_top (y := zI (-1000000)) (by decide) ?_
    exact wr_reti M dX4_best_39 (u := (lwS so bm P B dn, (F, m, d), 1)) ⟨(congrArg zI (by rw [if_neg (by omega), if_pos (Eq.trans hX c_34)])), by exact ⟨Or.inr rfl, fun _ _ _ _ => rfl⟩⟩ hP hD hS
  refine lv_aload_n hx hb dX4_best_5 rfl (lv_at hl 0 rfl) ?_
  refine va_get (D := D) (ci := 4) (C := RX4) (T := TX4) (N := 7) hx hb hts inc_X4_best_4 hown hK hP 0 rfl rfl 4 (by decide) (hts (.fieldLink RX4 37 "BedHouse" "plan" "LBedHouse$Plan;") (by decide +kernel)) (fun _ h9 => h9) rfl dX4_best_6 ?_
  refine lv_iload_n hx hb dX4_best_9 rfl (lv_at hl 1 rfl) ?_
  refine pc_VN (As := [.int (zI p)]) (rest := []) M (c_X1_hasPanel l D cB cI cZ cM _ pa sa ba so bm P TH B ra su vw no dn ha p (by first | assumption | omega) (by first | assumption | omega)) gX4_best_X1_hasPanel_n69 rfl (NW.at hN0 49 rfl) (by decide +kernel) (by decide +kernel) (by decide +kernel) hd_X1_hasPanel ⟨Nat.le_of_ble_eq_true rfl, Nat.le_of_ble_eq_true rfl⟩ hK hP [5, 6, 7] rfl 5 1 rfl rfl rfl hl.1 rfl rfl (Nat.le_of_ble_eq_true rfl) dX4_best_10 ⟨Nat.le_of_ble_eq_true rfl, Nat.le_of_ble_eq_true rfl⟩ (fun r_10 h_10 => ?_)
  subst h_10
  refine z_if_ne (tgt := 19) hx hb dX4_best_13 (by decide) (zb_bd _) (fun c_13 => ?_) (fun c_13 => ?_)
  · skip
    have c_13 := zb_t c_13
    refine lv_aload_n hx hb dX4_best_19 rfl (lv_at hl 0 rfl) ?_
    refine va_get (D := D) (ci := 4) (C := RX4) (T := TX4) (N := 7) hx hb hts inc_X4_best_4 hown hK hP 0 rfl rfl 1 (by decide) (hts (.fieldLink RX4 19 "BedHouse" "search" "LBedHouse$Search;") (by decide +kernel)) (fun _ h9 => h9) rfl dX4_best_20 ?_
    refine lv_aload_n hx hb dX4_best_23 rfl (lv_at hl 0 rfl) ?_
    refine va_get (D := D) (ci := 4) (C := RX4) (T := TX4) (N := 7) hx hb hts inc_X4_best_4 hown hK hP 0 rfl rfl 4 (by decide) (hts (.fieldLink RX4 37 "BedHouse" "plan" "LBedHouse$Plan;") (by decide +kernel)) (fun _ h9 => h9) rfl dX4_best_24 ?_
    refine wc_VNi (As := [.ref pa]) (rest := []) (wr := [(xa, .inr (4, [.ref ta, .ref ga, .ref ma, .ref im, .ref pa, .ref qpa, .long tr])), (ma, .inr (0, [.int (zI hm), .int (zI dy), .int (zI ac), .int (zI lk), .int (zI cl), .int (zI li), .int (zI da), .int (zI kp)]))]) (ws' := (fun _u : Unit => [(xa, .inr (4, [.ref ta, .ref ga, .ref ma, .ref im, .ref pa, .ref qpa, .long tr])), (ga, .inr (2, [.ref la, .ref fa, .ref ua, .int (zI m), .int (zI 1)])), (la, .inl (cB, 6561, .inl (zia (lwS so bm P B dn)))), (fa, .inl (cI, 6561, .inl (zia d))), (ua, .inl (cI, 3394, .inl (zia F))), (pa, .inr (1, [.ref sa, .int (zI P), .int (zI TH), .ref ba, .int (zI B), .int (zI ra), .int (zI su), .int (zI vw), .int (zI no), .int (zI dn), .int (zI ha)])), (sa, .inl (cI, 4, .inl (zia so))), (ba, .inl (cI, 2, .inl (zia bm))), (ma, .inr (0, [.int (zI hm), .int (zI dy), .int (zI ac), .int (zI lk), .int (zI cl), .int (zI li), .int (zI da), .int (zI kp)]))])) M (c_X2_bestHome l D cB cI cZ cM _ ga la fa ua lw d F m sv pa sa ba so bm P TH B ra su vw no dn ha (by first | assumption | omega) (by first | assumption | omega) (by first | assumption | omega) (by first | assumption | omega) (by first | assumption | omega) (by first | assumption | omega) (by first | assumption | omega) (by first | assumption | omega) (by first | assumption | omega) (by first | assumption | omega)) gX4_best_X2_bestHome_n161 rfl (NW.at hN0 69 rfl) (by decide +kernel) (by decide +kernel) (by decide +kernel) hd_X2_bestHome ⟨Nat.le_of_ble_eq_true rfl, Nat.le_of_ble_eq_true rfl⟩ hK hP hD hS hA [1, 2, 3, 4, 5, 6, 7] [0, 8] [0, 2, 3, 4, 5, 6, 7, 8, 1] rfl rfl (by decide) (by decide) (by decide) (fun _ => rfl) 1 2 rfl rfl rfl hl.1 rfl rfl (Nat.le_of_ble_eq_true rfl) dX4_best_27 ⟨Nat.le_of_ble_eq_true rfl, Nat.le_of_ble_eq_true rfl⟩ (by decide) (fun r_27 _u H locs h_27 hP hD hS => ?_)
    subst h_27
    have hbh := bhF_rng (lwS so bm P B dn) so P ra su vw no 6561 0 (-9, -1000000) (Int.le_refl 0 |> fun q => ⟨q, by decide⟩) ⟨by decide, by decide, fun _ => rfl⟩
    obtain ⟨X, hX⟩ : ∃ X : Int, (bhF (lwS so bm P B dn) so P ra su vw no 6561 0 (-9, -1000000)).1 = X := ⟨_, rfl⟩
    rw [hX] at hbh
    have hX : Hid ((bhF (lwS so bm P B dn) so P ra su vw no 6561 0 (-9, -1000000)).1 = X) := hX
    refine z_topz (b := X) (hX) ?_
    refine lv_istore_n (lv' := [(2, .int (zI X)), (0, .ref xa), (1, .int (zI p))]) hx hb dX4_best_30 rfl hl (by decide) rfl (fun ls hl => ?_)
    refine lv_iload_n hx hb dX4_best_31 rfl (lv_at hl 0 rfl) ?_
    refine lv_bipush (v := zI (-9)) hx hb dX4_best_32 (by decide) ?_
    refine z_icmp_ne (tgt := 40) hx hb dX4_best_34 (by decide) (by omega) (fun c_34 => ?_) (fun c_34 => ?_)
    · skip
      refine lv_iload_n hx hb dX4_best_40 rfl (lv_at hl 2 rfl) ?_
      refine lv_iconst (v := zI (-1)) hx hb dX4_best_41 rfl ?_
      refine z_icmp_ne (tgt := 56) hx hb dX4_best_42 (by decide) (by omega) (fun c_42 => ?_) (fun c_42 => ?_)
      · skip
        refine lv_iload_n hx hb dX4_best_56 rfl (lv_at hl 0 rfl) ?_
        refine lv_iload_n hx hb dX4_best_57 rfl (lv_at hl 2 rfl) ?_
        refine pc_J (As := [.int (zI X), .int (zI p)]) (rest := []) M (c_X4_placeIn l D cB cI cZ cM _ X p (by omega) (by first | assumption | omega)) gX4_best_X4_placeIn rfl hd_X4_placeIn ⟨Nat.le_of_ble_eq_true rfl, Nat.le_of_ble_eq_true rfl⟩ hK hP [] rfl hl.1 rfl rfl (Nat.le_of_ble_eq_true rfl) dX4_best_58 ⟨Nat.le_of_ble_eq_true rfl, Nat.le_of_ble_eq_true rfl⟩ (fun r_58 h_58 => ?_)
        subst h_58
        exact wr_reti M dX4_best_61 (u := (lwS so bm P B dn, (F, m, d), 1)) ⟨(congrArg zI (by rw [if_neg (by omega), if_neg (fun q => c_34 (Eq.trans (Eq.symm hX) q)), if_neg c_42, show (bhF (lwS so bm P B dn) so P ra su vw no 6561 0 (-9, -1000000)).1 = X from hX])), by exact ⟨Or.inr rfl, fun _ _ _ _ => rfl⟩⟩ hP hD hS
      refine lv_aload_n hx hb dX4_best_45 rfl (lv_at hl 1 rfl) ?_
      refine va_get (D := D) (ci := 4) (C := RX4) (T := TX4) (N := 7) hx hb hts inc_X4_best_4 hown hK hP 0 rfl rfl 4 (by decide) (hts (.fieldLink RX4 37 "BedHouse" "plan" "LBedHouse$Plan;") (by decide +kernel)) (fun _ h9 => h9) rfl dX4_best_46 ?_
      refine lv_iload_n hx hb dX4_best_49 rfl (lv_at hl 0 rfl) ?_
      refine pc_VN (As := [.int (zI X)]) (rest := []) M (c_X1_worthOf l D cB cI cZ cM _ pa sa ba so bm P TH B ra su vw no dn ha X (by first | assumption | omega) (by first | assumption | omega) (by first | assumption | omega) (by first | assumption | omega) (by first | assumption | omega) (by first | assumption | omega) (by omega)) gX4_best_X1_worthOf_n134 rfl (NW.at hN0 57 rfl) (by decide +kernel) (by decide +kernel) (by decide +kernel) hd_X1_worthOf ⟨Nat.le_of_ble_eq_true rfl, Nat.le_of_ble_eq_true rfl⟩ hK hP [5, 6, 7] rfl 5 1 rfl rfl rfl hl.1 rfl rfl (Nat.le_of_ble_eq_true rfl) dX4_best_50 ⟨Nat.le_of_ble_eq_true rfl, Nat.le_of_ble_eq_true rfl⟩ (fun r_50 h_50 => ?_)
      subst h_50
      refine lv_goto (tgt := 61) hx hb dX4_best_53 (by decide) ?_
      exact wr_reti M dX4_best_61 (u := (lwS so bm P B dn, (F, m, d), 1)) ⟨(congrArg zI (by rw [if_neg (by omega), if_neg (fun q => c_34 (Eq.trans (Eq.symm hX) q)), if_pos c_42, show (bhF (lwS so bm P B dn) so P ra su vw no 6561 0 (-9, -1000000)).1 = X from hX])), by exact ⟨Or.inr rfl, fun _ _ _ _ => rfl⟩⟩ hP hD hS
    refine lv_ldc hx hb hown (hts (.constant RX4 140 (-1000000)) (by decide +kernel)) dX4_best_37 ?_
    refine z_top (y := zI (-1000000)) (by decide) ?_
    exact wr_reti M dX4_best_39 (u := (lwS so bm P B dn, (F, m, d), 1)) ⟨(congrArg zI (by rw [if_neg (by omega), if_pos (Eq.trans hX c_34)])), by exact ⟨Or.inr rfl, fun _ _ _ _ => rfl⟩⟩ hP hD hS
  have c_13 := zb_f c_13
  refine lv_ldc hx hb hown (hts (.constant RX4 140 (-1000000)) (by decide +kernel)) dX4_best_16 ?_
  refine z_top (y := zI (-1000000)) (by decide) ?_
  exact wr_reti M dX4_best_18 (u := (lw, (F, m, d), sv)) ⟨(congrArg zI (by rw [if_pos (by omega)])), by exact hsv⟩ hP hD hS
set_option maxHeartbeats 4000000 in
set_option maxRecDepth 100000 in
theorem c_X4_clue (l : Launch) (D : va_G) (cB cI cZ cM : ClassId) (Hp : Heap) (xa : Nat) (ta : Nat) (ga : Nat) (ma : Nat) (im : Nat) (pa : Nat) (qpa : Nat) (tr : Int64) (hm : Int) (dy : Int) (ac : Int) (lk : Int) (cl : Int) (li : Int) (da : Int) (kp : Int) (h : Int) (li1 : Int) (hmo : okM hm dy ac lk cl li da kp) (hh0 : -2147483648 ≤ h ∧ h < 2147483648) (hli10 : -2147483648 ≤ li1 ∧ li1 < 2147483648) : cWi l yX4_clue wsX4_clue (rmW 1 0 0 20) D (TYS cB cI cZ cM) [.ref xa, .int (zI h), .int (zI li1)] [(xa, .inr (4, [.ref ta, .ref ga, .ref ma, .ref im, .ref pa, .ref qpa, .long tr])), (ma, .inr (0, [.int (zI hm), .int (zI dy), .int (zI ac), .int (zI lk), .int (zI cl), .int (zI li), .int (zI da), .int (zI kp)]))] Hp (fun (r : Int32) (u : Int × Int × Int) => r = zI ((clA cl li da h li1).1) ∧ (u = (clA cl li da h li1).2)) (fun (u : Int × Int × Int) => [(xa, .inr (4, [.ref ta, .ref ga, .ref ma, .ref im, .ref pa, .ref qpa, .long tr])), (ma, .inr (0, [.int (zI hm), .int (zI dy), .int (zI ac), .int (zI lk), .int (zI u.1), .int (zI u.2.1), .int (zI u.2.2), .int (zI kp)]))]) 0 0 := by
  refine wr_starti (by decide) rfl (Nat.le_of_ble_eq_true rfl) ?_
  intro pg ev sx mm args below meth cd ls A M hP hD hS hA hK hl
  obtain ⟨hx, hb, hr, hml, hown, hts, hlk, hN0⟩ := id M
  have hl : lv_has ls 3 [(0, .ref xa), (1, .int (zI h)), (2, .int (zI li1))] := hl
  refine W.widen (k := 0) (n := 0) (Nat.zero_le _) (Nat.zero_le _) ?_
  obtain ⟨hhm, hdy, hac, hlk, hcl, hli, hda, hkp⟩ := id hmo
  refine lv_iload_n hx hb dX4_clue_0 rfl (lv_at hl 1 rfl) ?_
  refine pc_J (As := [.int (zI h)]) (rest := []) M (c_X4_isSlot l D cB cI cZ cM _ h (by first | assumption | omega)) gX4_clue_X4_isSlot rfl hd_X4_isSlot ⟨Nat.le_of_ble_eq_true rfl, Nat.le_of_ble_eq_true rfl⟩ hK hP [] rfl hl.1 rfl rfl (Nat.le_of_ble_eq_true rfl) dX4_clue_1 ⟨Nat.le_of_ble_eq_true rfl, Nat.le_of_ble_eq_true rfl⟩ (fun r_1 h_1 => ?_)
  subst h_1
  refine z_if_eq (tgt := 16) hx hb dX4_clue_4 (by decide) (zb_bd _) (fun c_4 => ?_) (fun c_4 => ?_)
  · skip
    have c_4 := zb_f c_4
    refine lv_iconst (v := zI (-1)) hx hb dX4_clue_16 rfl ?_
    have hit : clA cl li da h li1 = (-1, cl, li, da) := by unfold clA; rw [if_neg (by omega)]
    exact wr_reti M dX4_clue_17 (u := (cl, li, da)) ⟨(congrArg zI (by rw [hit])), (by rw [hit])⟩ hP hD hS
  have c_4 := zb_t c_4
  refine lv_iload_n hx hb dX4_clue_7 rfl (lv_at hl 2 rfl) ?_
  refine z_if_lt (tgt := 16) hx hb dX4_clue_8 (by decide) (by omega) (fun c_8 => ?_) (fun c_8 => ?_)
  · skip
    refine lv_iconst (v := zI (-1)) hx hb dX4_clue_16 rfl ?_
    have hit : clA cl li da h li1 = (-1, cl, li, da) := by unfold clA; rw [if_neg (by omega)]
    exact wr_reti M dX4_clue_17 (u := (cl, li, da)) ⟨(congrArg zI (by rw [hit])), (by rw [hit])⟩ hP hD hS
  refine lv_iload_n hx hb dX4_clue_11 rfl (lv_at hl 2 rfl) ?_
  refine lv_iconst (v := zI 1) hx hb dX4_clue_12 rfl ?_
  refine z_icmp_le (tgt := 18) hx hb dX4_clue_13 (by decide) (by omega) (fun c_13 => ?_) (fun c_13 => ?_)
  · skip
    refine lv_aload_n hx hb dX4_clue_18 rfl (lv_at hl 0 rfl) ?_
    refine va_get (D := D) (ci := 4) (C := RX4) (T := TX4) (N := 7) hx hb hts inc_X4_clue_4 hown hK hP 0 rfl rfl 2 (by decide) (hts (.fieldLink RX4 26 "BedHouse" "present" "LBedHouse$Moment;") (by decide +kernel)) (fun _ h9 => h9) rfl dX4_clue_19 ?_
    refine va_getN (D := D) (ci := 0) (C := RX0) (T := TX0) (N := 8) hx hb hts inc_X4_clue_0 hown hK hP 1 rfl rfl 4 (by decide) ((NW.at hN0 9 rfl).use rfl) (fun _ h9 => h9) rfl dX4_clue_22 ?_
    refine lv_bipush (v := zI 8) hx hb dX4_clue_25 (by decide) ?_
    refine z_icmp_lt (tgt := 33) hx hb dX4_clue_27 (by decide) (by omega) (fun c_27 => ?_) (fun c_27 => ?_)
    · skip
      refine lv_aload_n hx hb dX4_clue_33 rfl (lv_at hl 0 rfl) ?_
      refine va_get (D := D) (ci := 4) (C := RX4) (T := TX4) (N := 7) hx hb hts inc_X4_clue_4 hown hK hP 0 rfl rfl 2 (by decide) (hts (.fieldLink RX4 26 "BedHouse" "present" "LBedHouse$Moment;") (by decide +kernel)) (fun _ h9 => h9) rfl dX4_clue_34 ?_
      refine lv_dup hx hb dX4_clue_37 rfl ?_
      refine va_getN (D := D) (ci := 0) (C := RX0) (T := TX0) (N := 8) hx hb hts inc_X4_clue_0 hown hK hP 1 rfl rfl 4 (by decide) ((NW.at hN0 9 rfl).use rfl) (fun _ h9 => h9) rfl dX4_clue_38 ?_
      refine lv_iconst (v := zI 1) hx hb dX4_clue_41 rfl ?_
      refine z_iadd hx hb dX4_clue_42 ?_
      refine va_putN (D := D) (ci := 0) (v := .int (zI (cl + 1))) (ty := .int) (C := RX0) (T := TX0) (N := 8) hx hb hts inc_X4_clue_0 tyX0 tyX0_ok nmX0 hown hK hP hD hS 1 rfl rfl 4 (by decide) ((NW.at hN0 9 rfl).use rfl) (fun _ h9 => h9) rfl (by decide +kernel) rfl rfl (Nat.le_of_ble_eq_true rfl) dX4_clue_43 (fun H locs hP hD hS => ?_)
      have hP : va_P D vwCl [(xa, .inr (4, [.ref ta, .ref ga, .ref ma, .ref im, .ref pa, .ref qpa, .long tr])), (ma, .inr (0, [.int (zI hm), .int (zI dy), .int (zI ac), .int (zI lk), .int (zI (cl + 1)), .int (zI li), .int (zI da), .int (zI kp)]))] H := hP
      have hD : va_D A [(xa, .inr (4, [.ref ta, .ref ga, .ref ma, .ref im, .ref pa, .ref qpa, .long tr])), (ma, .inr (0, [.int (zI hm), .int (zI dy), .int (zI ac), .int (zI lk), .int (zI (cl + 1)), .int (zI li), .int (zI da), .int (zI kp)]))] := hD
      refine lv_iload_n hx hb dX4_clue_46 rfl (lv_at hl 2 rfl) ?_
      refine lv_iconst (v := zI 1) hx hb dX4_clue_47 rfl ?_
      refine z_icmp_ne (tgt := 69) hx hb dX4_clue_48 (by decide) (by omega) (fun c_48 => ?_) (fun c_48 => ?_)
      · skip
        refine lv_aload_n hx hb dX4_clue_69 rfl (lv_at hl 0 rfl) ?_
        refine va_get (D := D) (ci := 4) (C := RX4) (T := TX4) (N := 7) hx hb hts inc_X4_clue_4 hown hK hP 0 rfl rfl 2 (by decide) (hts (.fieldLink RX4 26 "BedHouse" "present" "LBedHouse$Moment;") (by decide +kernel)) (fun _ h9 => h9) rfl dX4_clue_70 ?_
        refine lv_dup hx hb dX4_clue_73 rfl ?_
        refine va_getN (D := D) (ci := 0) (C := RX0) (T := TX0) (N := 8) hx hb hts inc_X4_clue_0 hown hK hP 1 rfl rfl 6 (by decide) ((NW.at hN0 13 rfl).use rfl) (fun _ h9 => h9) rfl dX4_clue_74 ?_
        refine lv_iconst (v := zI 1) hx hb dX4_clue_77 rfl ?_
        refine lv_iload_n hx hb dX4_clue_78 rfl (lv_at hl 1 rfl) ?_
        refine z_ishl1 hx hb dX4_clue_79 (by omega) ?_
        refine z_ior hx hb dX4_clue_80 (⟨hda.1, zpw_nn _⟩) ?_
        refine va_putN (D := D) (ci := 0) (v := .int (zI (zbor da (zpw h)))) (ty := .int) (C := RX0) (T := TX0) (N := 8) hx hb hts inc_X4_clue_0 tyX0 tyX0_ok nmX0 hown hK hP hD hS 1 rfl rfl 6 (by decide) ((NW.at hN0 13 rfl).use rfl) (fun _ h9 => h9) rfl (by decide +kernel) rfl rfl (Nat.le_of_ble_eq_true rfl) dX4_clue_81 (fun H locs hP hD hS => ?_)
        have hP : va_P D vwCl [(xa, .inr (4, [.ref ta, .ref ga, .ref ma, .ref im, .ref pa, .ref qpa, .long tr])), (ma, .inr (0, [.int (zI hm), .int (zI dy), .int (zI ac), .int (zI lk), .int (zI (cl + 1)), .int (zI li), .int (zI (zbor da (zpw h))), .int (zI kp)]))] H := hP
        have hD : va_D A [(xa, .inr (4, [.ref ta, .ref ga, .ref ma, .ref im, .ref pa, .ref qpa, .long tr])), (ma, .inr (0, [.int (zI hm), .int (zI dy), .int (zI ac), .int (zI lk), .int (zI (cl + 1)), .int (zI li), .int (zI (zbor da (zpw h))), .int (zI kp)]))] := hD
        refine lv_aload_n hx hb dX4_clue_84 rfl (lv_at hl 0 rfl) ?_
        refine va_get (D := D) (ci := 4) (C := RX4) (T := TX4) (N := 7) hx hb hts inc_X4_clue_4 hown hK hP 0 rfl rfl 2 (by decide) (hts (.fieldLink RX4 26 "BedHouse" "present" "LBedHouse$Moment;") (by decide +kernel)) (fun _ h9 => h9) rfl dX4_clue_85 ?_
        refine va_getN (D := D) (ci := 0) (C := RX0) (T := TX0) (N := 8) hx hb hts inc_X4_clue_0 hown hK hP 1 rfl rfl 4 (by decide) ((NW.at hN0 9 rfl).use rfl) (fun _ h9 => h9) rfl dX4_clue_88 ?_
        have hit : clA cl li da h li1 = (cl + 1, cl + 1, li, zbor da (zpw h)) := by unfold clA; rw [if_pos (by omega), if_neg (by omega), if_neg (by omega)]
        exact wr_reti M dX4_clue_91 (u := (cl + 1, li, zbor da (zpw h))) ⟨(congrArg zI (by rw [hit])), (by rw [hit])⟩ hP hD hS
      refine lv_aload_n hx hb dX4_clue_51 rfl (lv_at hl 0 rfl) ?_
      refine va_get (D := D) (ci := 4) (C := RX4) (T := TX4) (N := 7) hx hb hts inc_X4_clue_4 hown hK hP 0 rfl rfl 2 (by decide) (hts (.fieldLink RX4 26 "BedHouse" "present" "LBedHouse$Moment;") (by decide +kernel)) (fun _ h9 => h9) rfl dX4_clue_52 ?_
      refine lv_dup hx hb dX4_clue_55 rfl ?_
      refine va_getN (D := D) (ci := 0) (C := RX0) (T := TX0) (N := 8) hx hb hts inc_X4_clue_0 hown hK hP 1 rfl rfl 5 (by decide) ((NW.at hN0 11 rfl).use rfl) (fun _ h9 => h9) rfl dX4_clue_56 ?_
      refine lv_iconst (v := zI 1) hx hb dX4_clue_59 rfl ?_
      refine lv_iload_n hx hb dX4_clue_60 rfl (lv_at hl 1 rfl) ?_
      refine z_ishl1 hx hb dX4_clue_61 (by omega) ?_
      refine z_ior hx hb dX4_clue_62 (⟨hli.1, zpw_nn _⟩) ?_
      refine va_putN (D := D) (ci := 0) (v := .int (zI (zbor li (zpw h)))) (ty := .int) (C := RX0) (T := TX0) (N := 8) hx hb hts inc_X4_clue_0 tyX0 tyX0_ok nmX0 hown hK hP hD hS 1 rfl rfl 5 (by decide) ((NW.at hN0 11 rfl).use rfl) (fun _ h9 => h9) rfl (by decide +kernel) rfl rfl (Nat.le_of_ble_eq_true rfl) dX4_clue_63 (fun H locs hP hD hS => ?_)
      have hP : va_P D vwCl [(xa, .inr (4, [.ref ta, .ref ga, .ref ma, .ref im, .ref pa, .ref qpa, .long tr])), (ma, .inr (0, [.int (zI hm), .int (zI dy), .int (zI ac), .int (zI lk), .int (zI (cl + 1)), .int (zI (zbor li (zpw h))), .int (zI da), .int (zI kp)]))] H := hP
      have hD : va_D A [(xa, .inr (4, [.ref ta, .ref ga, .ref ma, .ref im, .ref pa, .ref qpa, .long tr])), (ma, .inr (0, [.int (zI hm), .int (zI dy), .int (zI ac), .int (zI lk), .int (zI (cl + 1)), .int (zI (zbor li (zpw h))), .int (zI da), .int (zI kp)]))] := hD
      refine lv_goto (tgt := 84) hx hb dX4_clue_66 (by decide) ?_
      refine lv_aload_n hx hb dX4_clue_84 rfl (lv_at hl 0 rfl) ?_
      refine va_get (D := D) (ci := 4) (C := RX4) (T := TX4) (N := 7) hx hb hts inc_X4_clue_4 hown hK hP 0 rfl rfl 2 (by decide) (hts (.fieldLink RX4 26 "BedHouse" "present" "LBedHouse$Moment;") (by decide +kernel)) (fun _ h9 => h9) rfl dX4_clue_85 ?_
      refine va_getN (D := D) (ci := 0) (C := RX0) (T := TX0) (N := 8) hx hb hts inc_X4_clue_0 hown hK hP 1 rfl rfl 4 (by decide) ((NW.at hN0 9 rfl).use rfl) (fun _ h9 => h9) rfl dX4_clue_88 ?_
      have hit : clA cl li da h li1 = (cl + 1, cl + 1, zbor li (zpw h), da) := by unfold clA; rw [if_pos (by omega), if_neg (by omega), if_pos (by omega)]
      exact wr_reti M dX4_clue_91 (u := (cl + 1, zbor li (zpw h), da)) ⟨(congrArg zI (by rw [hit])), (by rw [hit])⟩ hP hD hS
    refine lv_bipush (v := zI (-3)) hx hb dX4_clue_30 (by decide) ?_
    have hit : clA cl li da h li1 = (-3, cl, li, da) := by unfold clA; rw [if_pos (by omega), if_pos (by omega)]
    exact wr_reti M dX4_clue_32 (u := (cl, li, da)) ⟨(congrArg zI (by rw [hit])), (by rw [hit])⟩ hP hD hS
  refine lv_iconst (v := zI (-1)) hx hb dX4_clue_16 rfl ?_
  have hit : clA cl li da h li1 = (-1, cl, li, da) := by unfold clA; rw [if_neg (by omega)]
  exact wr_reti M dX4_clue_17 (u := (cl, li, da)) ⟨(congrArg zI (by rw [hit])), (by rw [hit])⟩ hP hD hS
set_option maxHeartbeats 4000000 in
set_option maxRecDepth 100000 in
theorem c_X4_fit (l : Launch) (D : va_G) (cB cI cZ cM : ClassId) (Hp : Heap) (xa : Nat) (ta : Nat) (ga : Nat) (ma : Nat) (im : Nat) (pa : Nat) (qpa : Nat) (tr : Int64) (sa : Nat) (ba : Nat) (so : Int → Int) (bm : Int → Int) (P : Int) (TH : Int) (B : Int) (ra : Int) (su : Int) (vw : Int) (no : Int) (dn : Int) (ha : Int) (hm : Int) (dy : Int) (ac : Int) (lk : Int) (cl : Int) (li : Int) (da : Int) (kp : Int) (la : Nat) (fa : Nat) (ua : Nat) (lw : Int → Int) (d : Int → Int) (F : Int → Int) (m : Int) (sv : Int) (hok : okP so bm P TH B ra su vw no dn ha) (hmo : okM hm dy ac lk cl li da kp) (hsv : (sv = 0 ∨ sv = 1) ∧ (sv = 1 → lwOK lw so bm P B dn)) : cWi l yX4_fit wsX4_fit (rmW 6 0 0 138) D (TYS cB cI cZ cM) [.ref xa] [(xa, .inr (4, [.ref ta, .ref ga, .ref ma, .ref im, .ref pa, .ref qpa, .long tr])), (ga, .inr (2, [.ref la, .ref fa, .ref ua, .int (zI m), .int (zI sv)])), (la, .inl (cB, 6561, .inl (zia lw))), (fa, .inl (cI, 6561, .inl (zia d))), (ua, .inl (cI, 3394, .inl (zia F))), (pa, .inr (1, [.ref sa, .int (zI P), .int (zI TH), .ref ba, .int (zI B), .int (zI ra), .int (zI su), .int (zI vw), .int (zI no), .int (zI dn), .int (zI ha)])), (sa, .inl (cI, 4, .inl (zia so))), (ba, .inl (cI, 2, .inl (zia bm))), (ma, .inr (0, [.int (zI hm), .int (zI dy), .int (zI ac), .int (zI lk), .int (zI cl), .int (zI li), .int (zI da), .int (zI kp)]))] Hp (fun (r : Int32) (u : (Int → Int) × BQ × Int) => r = zI (cfF (lwS so bm P B dn) so P su li da 6561 0) ∧ ((u.2.2 = 0 ∨ u.2.2 = 1) ∧ (u.2.2 = 1 → lwOK u.1 so bm P B dn))) (fun (u : (Int → Int) × BQ × Int) => [(xa, .inr (4, [.ref ta, .ref ga, .ref ma, .ref im, .ref pa, .ref qpa, .long tr])), (ga, .inr (2, [.ref la, .ref fa, .ref ua, .int (zI u.2.1.2.1), .int (zI u.2.2)])), (la, .inl (cB, 6561, .inl (zia u.1))), (fa, .inl (cI, 6561, .inl (zia u.2.1.2.2))), (ua, .inl (cI, 3394, .inl (zia u.2.1.1))), (pa, .inr (1, [.ref sa, .int (zI P), .int (zI TH), .ref ba, .int (zI B), .int (zI ra), .int (zI su), .int (zI vw), .int (zI no), .int (zI dn), .int (zI ha)])), (sa, .inl (cI, 4, .inl (zia so))), (ba, .inl (cI, 2, .inl (zia bm))), (ma, .inr (0, [.int (zI hm), .int (zI dy), .int (zI ac), .int (zI lk), .int (zI cl), .int (zI li), .int (zI da), .int (zI kp)]))]) 0 0 := by
  refine wr_starti (by decide) rfl (Nat.le_of_ble_eq_true rfl) ?_
  intro pg ev sx mm args below meth cd ls A M hP hD hS hA hK hl
  obtain ⟨hx, hb, hr, hml, hown, hts, hlk, hN0⟩ := id M
  have hl : lv_has ls 1 [(0, .ref xa)] := hl
  refine W.widen (k := 0) (n := 0) (Nat.zero_le _) (Nat.zero_le _) ?_
  obtain ⟨hP4, hTH, hB2, hra, hsu, hvw, hno, hdn, hha, hso, hbm⟩ := id hok
  obtain ⟨hhm, hdy, hac, hlk, hcl, hli, hda, hkp⟩ := id hmo
  refine lv_aload_n hx hb dX4_fit_0 rfl (lv_at hl 0 rfl) ?_
  refine va_get (D := D) (ci := 4) (C := RX4) (T := TX4) (N := 7) hx hb hts inc_X4_fit_4 hown hK hP 0 rfl rfl 1 (by decide) (hts (.fieldLink RX4 19 "BedHouse" "search" "LBedHouse$Search;") (by decide +kernel)) (fun _ h9 => h9) rfl dX4_fit_1 ?_
  refine lv_aload_n hx hb dX4_fit_4 rfl (lv_at hl 0 rfl) ?_
  refine va_get (D := D) (ci := 4) (C := RX4) (T := TX4) (N := 7) hx hb hts inc_X4_fit_4 hown hK hP 0 rfl rfl 4 (by decide) (hts (.fieldLink RX4 37 "BedHouse" "plan" "LBedHouse$Plan;") (by decide +kernel)) (fun _ h9 => h9) rfl dX4_fit_5 ?_
  refine lv_aload_n hx hb dX4_fit_8 rfl (lv_at hl 0 rfl) ?_
  refine va_get (D := D) (ci := 4) (C := RX4) (T := TX4) (N := 7) hx hb hts inc_X4_fit_4 hown hK hP 0 rfl rfl 2 (by decide) (hts (.fieldLink RX4 26 "BedHouse" "present" "LBedHouse$Moment;") (by decide +kernel)) (fun _ h9 => h9) rfl dX4_fit_9 ?_
  refine wc_VNi (As := [.ref pa, .ref ma]) (rest := []) (wr := [(xa, .inr (4, [.ref ta, .ref ga, .ref ma, .ref im, .ref pa, .ref qpa, .long tr]))]) (ws' := (fun _u : Unit => [(xa, .inr (4, [.ref ta, .ref ga, .ref ma, .ref im, .ref pa, .ref qpa, .long tr])), (ga, .inr (2, [.ref la, .ref fa, .ref ua, .int (zI m), .int (zI 1)])), (la, .inl (cB, 6561, .inl (zia (lwS so bm P B dn)))), (fa, .inl (cI, 6561, .inl (zia d))), (ua, .inl (cI, 3394, .inl (zia F))), (pa, .inr (1, [.ref sa, .int (zI P), .int (zI TH), .ref ba, .int (zI B), .int (zI ra), .int (zI su), .int (zI vw), .int (zI no), .int (zI dn), .int (zI ha)])), (sa, .inl (cI, 4, .inl (zia so))), (ba, .inl (cI, 2, .inl (zia bm))), (ma, .inr (0, [.int (zI hm), .int (zI dy), .int (zI ac), .int (zI lk), .int (zI cl), .int (zI li), .int (zI da), .int (zI kp)]))])) M (c_X2_countFitting l D cB cI cZ cM _ ga la fa ua lw d F m sv pa sa ba so bm P TH B ra su vw no dn ha ma hm dy ac lk cl li da kp (by first | assumption | omega) (by first | assumption | omega) (by first | assumption | omega) (by first | assumption | omega) (by first | assumption | omega) (by first | assumption | omega) (by first | assumption | omega) (by first | assumption | omega) (by first | assumption | omega)) gX4_fit_X2_countFitting_n172 rfl (NW.at hN0 71 rfl) (by decide +kernel) (by decide +kernel) (by decide +kernel) hd_X2_countFitting ⟨Nat.le_of_ble_eq_true rfl, Nat.le_of_ble_eq_true rfl⟩ hK hP hD hS hA [1, 2, 3, 4, 5, 6, 7, 8] [0] [0, 1, 2, 3, 4, 5, 6, 7, 8] rfl rfl (by decide) (by decide) (by decide) (fun _ => rfl) 1 2 rfl rfl rfl hl.1 rfl rfl (Nat.le_of_ble_eq_true rfl) dX4_fit_12 ⟨Nat.le_of_ble_eq_true rfl, Nat.le_of_ble_eq_true rfl⟩ (by decide) (fun r_12 _u H locs h_12 hP hD hS => ?_)
  subst h_12
  exact wr_reti M dX4_fit_15 (u := (lwS so bm P B dn, (F, m, d), 1)) ⟨(congrArg zI (by rfl)), by exact ⟨Or.inr rfl, fun _ _ _ _ => rfl⟩⟩ hP hD hS
set_option maxHeartbeats 4000000 in
set_option maxRecDepth 100000 in
theorem c_X4_sure (l : Launch) (D : va_G) (cB cI cZ cM : ClassId) (Hp : Heap) (xa : Nat) (ta : Nat) (ga : Nat) (ma : Nat) (im : Nat) (pa : Nat) (qpa : Nat) (tr : Int64) (sa : Nat) (ba : Nat) (so : Int → Int) (bm : Int → Int) (P : Int) (TH : Int) (B : Int) (ra : Int) (su : Int) (vw : Int) (no : Int) (dn : Int) (ha : Int) (hm : Int) (dy : Int) (ac : Int) (lk : Int) (cl : Int) (li : Int) (da : Int) (kp : Int) (la : Nat) (fa : Nat) (ua : Nat) (lw : Int → Int) (d : Int → Int) (F : Int → Int) (m : Int) (sv : Int) (p : Int) (hok : okP so bm P TH B ra su vw no dn ha) (hmo : okM hm dy ac lk cl li da kp) (hsv : (sv = 0 ∨ sv = 1) ∧ (sv = 1 → lwOK lw so bm P B dn)) (hp0 : -2147483648 ≤ p ∧ p < 2147483648) : cWi l yX4_sure wsX4_sure (rmW 6 0 0 140) D (TYS cB cI cZ cM) [.ref xa, .int (zI p)] [(xa, .inr (4, [.ref ta, .ref ga, .ref ma, .ref im, .ref pa, .ref qpa, .long tr])), (ga, .inr (2, [.ref la, .ref fa, .ref ua, .int (zI m), .int (zI sv)])), (la, .inl (cB, 6561, .inl (zia lw))), (fa, .inl (cI, 6561, .inl (zia d))), (ua, .inl (cI, 3394, .inl (zia F))), (pa, .inr (1, [.ref sa, .int (zI P), .int (zI TH), .ref ba, .int (zI B), .int (zI ra), .int (zI su), .int (zI vw), .int (zI no), .int (zI dn), .int (zI ha)])), (sa, .inl (cI, 4, .inl (zia so))), (ba, .inl (cI, 2, .inl (zia bm))), (ma, .inr (0, [.int (zI hm), .int (zI dy), .int (zI ac), .int (zI lk), .int (zI cl), .int (zI li), .int (zI da), .int (zI kp)]))] Hp (fun (r : Int32) (u : (Int → Int) × BQ × Int) => r = zI (if 0 ≤ p ∧ p < P then spF (lwS so bm P B dn) so P su li da p 6561 0 (-9) else -1) ∧ ((u.2.2 = 0 ∨ u.2.2 = 1) ∧ (u.2.2 = 1 → lwOK u.1 so bm P B dn))) (fun (u : (Int → Int) × BQ × Int) => [(xa, .inr (4, [.ref ta, .ref ga, .ref ma, .ref im, .ref pa, .ref qpa, .long tr])), (ga, .inr (2, [.ref la, .ref fa, .ref ua, .int (zI u.2.1.2.1), .int (zI u.2.2)])), (la, .inl (cB, 6561, .inl (zia u.1))), (fa, .inl (cI, 6561, .inl (zia u.2.1.2.2))), (ua, .inl (cI, 3394, .inl (zia u.2.1.1))), (pa, .inr (1, [.ref sa, .int (zI P), .int (zI TH), .ref ba, .int (zI B), .int (zI ra), .int (zI su), .int (zI vw), .int (zI no), .int (zI dn), .int (zI ha)])), (sa, .inl (cI, 4, .inl (zia so))), (ba, .inl (cI, 2, .inl (zia bm))), (ma, .inr (0, [.int (zI hm), .int (zI dy), .int (zI ac), .int (zI lk), .int (zI cl), .int (zI li), .int (zI da), .int (zI kp)]))]) 0 0 := by
  refine wr_starti (by decide) rfl (Nat.le_of_ble_eq_true rfl) ?_
  intro pg ev sx mm args below meth cd ls A M hP hD hS hA hK hl
  obtain ⟨hx, hb, hr, hml, hown, hts, hlk, hN0⟩ := id M
  have hl : lv_has ls 2 [(0, .ref xa), (1, .int (zI p))] := hl
  refine W.widen (k := 0) (n := 0) (Nat.zero_le _) (Nat.zero_le _) ?_
  obtain ⟨hP4, hTH, hB2, hra, hsu, hvw, hno, hdn, hha, hso, hbm⟩ := id hok
  obtain ⟨hhm, hdy, hac, hlk, hcl, hli, hda, hkp⟩ := id hmo
  refine lv_aload_n hx hb dX4_sure_0 rfl (lv_at hl 0 rfl) ?_
  refine va_get (D := D) (ci := 4) (C := RX4) (T := TX4) (N := 7) hx hb hts inc_X4_sure_4 hown hK hP 0 rfl rfl 4 (by decide) (hts (.fieldLink RX4 37 "BedHouse" "plan" "LBedHouse$Plan;") (by decide +kernel)) (fun _ h9 => h9) rfl dX4_sure_1 ?_
  refine lv_iload_n hx hb dX4_sure_4 rfl (lv_at hl 1 rfl) ?_
  refine pc_VN (As := [.int (zI p)]) (rest := []) M (c_X1_hasPanel l D cB cI cZ cM _ pa sa ba so bm P TH B ra su vw no dn ha p (by first | assumption | omega) (by first | assumption | omega)) gX4_sure_X1_hasPanel_n69 rfl (NW.at hN0 49 rfl) (by decide +kernel) (by decide +kernel) (by decide +kernel) hd_X1_hasPanel ⟨Nat.le_of_ble_eq_true rfl, Nat.le_of_ble_eq_true rfl⟩ hK hP [5, 6, 7] rfl 5 1 rfl rfl rfl hl.1 rfl rfl (Nat.le_of_ble_eq_true rfl) dX4_sure_5 ⟨Nat.le_of_ble_eq_true rfl, Nat.le_of_ble_eq_true rfl⟩ (fun r_5 h_5 => ?_)
  subst h_5
  refine z_if_ne (tgt := 13) hx hb dX4_sure_8 (by decide) (zb_bd _) (fun c_8 => ?_) (fun c_8 => ?_)
  · skip
    have c_8 := zb_t c_8
    refine lv_aload_n hx hb dX4_sure_13 rfl (lv_at hl 0 rfl) ?_
    refine va_get (D := D) (ci := 4) (C := RX4) (T := TX4) (N := 7) hx hb hts inc_X4_sure_4 hown hK hP 0 rfl rfl 1 (by decide) (hts (.fieldLink RX4 19 "BedHouse" "search" "LBedHouse$Search;") (by decide +kernel)) (fun _ h9 => h9) rfl dX4_sure_14 ?_
    refine lv_aload_n hx hb dX4_sure_17 rfl (lv_at hl 0 rfl) ?_
    refine va_get (D := D) (ci := 4) (C := RX4) (T := TX4) (N := 7) hx hb hts inc_X4_sure_4 hown hK hP 0 rfl rfl 4 (by decide) (hts (.fieldLink RX4 37 "BedHouse" "plan" "LBedHouse$Plan;") (by decide +kernel)) (fun _ h9 => h9) rfl dX4_sure_18 ?_
    refine lv_aload_n hx hb dX4_sure_21 rfl (lv_at hl 0 rfl) ?_
    refine va_get (D := D) (ci := 4) (C := RX4) (T := TX4) (N := 7) hx hb hts inc_X4_sure_4 hown hK hP 0 rfl rfl 2 (by decide) (hts (.fieldLink RX4 26 "BedHouse" "present" "LBedHouse$Moment;") (by decide +kernel)) (fun _ h9 => h9) rfl dX4_sure_22 ?_
    refine lv_iload_n hx hb dX4_sure_25 rfl (lv_at hl 1 rfl) ?_
    refine wc_VNi (As := [.ref pa, .ref ma, .int (zI p)]) (rest := []) (wr := [(xa, .inr (4, [.ref ta, .ref ga, .ref ma, .ref im, .ref pa, .ref qpa, .long tr]))]) (ws' := (fun _u : Unit => [(xa, .inr (4, [.ref ta, .ref ga, .ref ma, .ref im, .ref pa, .ref qpa, .long tr])), (ga, .inr (2, [.ref la, .ref fa, .ref ua, .int (zI m), .int (zI 1)])), (la, .inl (cB, 6561, .inl (zia (lwS so bm P B dn)))), (fa, .inl (cI, 6561, .inl (zia d))), (ua, .inl (cI, 3394, .inl (zia F))), (pa, .inr (1, [.ref sa, .int (zI P), .int (zI TH), .ref ba, .int (zI B), .int (zI ra), .int (zI su), .int (zI vw), .int (zI no), .int (zI dn), .int (zI ha)])), (sa, .inl (cI, 4, .inl (zia so))), (ba, .inl (cI, 2, .inl (zia bm))), (ma, .inr (0, [.int (zI hm), .int (zI dy), .int (zI ac), .int (zI lk), .int (zI cl), .int (zI li), .int (zI da), .int (zI kp)]))])) M (c_X2_surePlace l D cB cI cZ cM _ ga la fa ua lw d F m sv pa sa ba so bm P TH B ra su vw no dn ha ma hm dy ac lk cl li da kp p (by first | assumption | omega) (by first | assumption | omega) (by first | assumption | omega) (by first | assumption | omega) (by first | assumption | omega) (by first | assumption | omega) (by first | assumption | omega) (by first | assumption | omega) (by first | assumption | omega) (by first | assumption | omega)) gX4_sure_X2_surePlace_n176 rfl (NW.at hN0 73 rfl) (by decide +kernel) (by decide +kernel) (by decide +kernel) hd_X2_surePlace ⟨Nat.le_of_ble_eq_true rfl, Nat.le_of_ble_eq_true rfl⟩ hK hP hD hS hA [1, 2, 3, 4, 5, 6, 7, 8] [0] [0, 1, 2, 3, 4, 5, 6, 7, 8] rfl rfl (by decide) (by decide) (by decide) (fun _ => rfl) 1 2 rfl rfl rfl hl.1 rfl rfl (Nat.le_of_ble_eq_true rfl) dX4_sure_26 ⟨Nat.le_of_ble_eq_true rfl, Nat.le_of_ble_eq_true rfl⟩ (by decide) (fun r_26 _u H locs h_26 hP hD hS => ?_)
    subst h_26
    exact wr_reti M dX4_sure_29 (u := (lwS so bm P B dn, (F, m, d), 1)) ⟨(congrArg zI (by rw [if_pos c_8])), by exact ⟨Or.inr rfl, fun _ _ _ _ => rfl⟩⟩ hP hD hS
  have c_8 := zb_f c_8
  refine lv_iconst (v := zI (-1)) hx hb dX4_sure_11 rfl ?_
  exact wr_reti M dX4_sure_12 (u := (lw, (F, m, d), sv)) ⟨(congrArg zI (by rw [if_neg c_8])), by exact hsv⟩ hP hD hS
set_option maxHeartbeats 4000000 in
set_option maxRecDepth 100000 in
theorem c_X4_forget (l : Launch) (D : va_G) (cB cI cZ cM : ClassId) (Hp : Heap) (xa : Nat) (ta : Nat) (ga : Nat) (ma : Nat) (im : Nat) (pa : Nat) (qpa : Nat) (tr : Int64) (hm : Int) (dy : Int) (ac : Int) (lk : Int) (cl : Int) (li : Int) (da : Int) (kp : Int)  : cWi l yX4_forget wsX4_forget (rmW 0 0 0 0) D (TYS cB cI cZ cM) [.ref xa] [(xa, .inr (4, [.ref ta, .ref ga, .ref ma, .ref im, .ref pa, .ref qpa, .long tr])), (ma, .inr (0, [.int (zI hm), .int (zI dy), .int (zI ac), .int (zI lk), .int (zI cl), .int (zI li), .int (zI da), .int (zI kp)]))] Hp (fun (r : Int32) (_u : Unit) => r = zI cl) (fun (_u : Unit) => [(xa, .inr (4, [.ref ta, .ref ga, .ref ma, .ref im, .ref pa, .ref qpa, .long tr])), (ma, .inr (0, [.int (zI hm), .int (zI dy), .int (zI ac), .int (zI lk), .int (zI 0), .int (zI 0), .int (zI 0), .int (zI kp)]))]) 0 0 := by
  refine wr_starti (by decide) rfl (Nat.le_of_ble_eq_true rfl) ?_
  intro pg ev sx mm args below meth cd ls A M hP hD hS hA hK hl
  obtain ⟨hx, hb, hr, hml, hown, hts, hlk, hN0⟩ := id M
  have hl : lv_has ls 2 [(0, .ref xa)] := hl
  refine W.widen (k := 0) (n := 0) (Nat.zero_le _) (Nat.zero_le _) ?_
  refine lv_aload_n hx hb dX4_forget_0 rfl (lv_at hl 0 rfl) ?_
  refine va_get (D := D) (ci := 4) (C := RX4) (T := TX4) (N := 7) hx hb hts inc_X4_forget_4 hown hK hP 0 rfl rfl 2 (by decide) (hts (.fieldLink RX4 26 "BedHouse" "present" "LBedHouse$Moment;") (by decide +kernel)) (fun _ h9 => h9) rfl dX4_forget_1 ?_
  refine va_getN (D := D) (ci := 0) (C := RX0) (T := TX0) (N := 8) hx hb hts inc_X4_forget_0 hown hK hP 1 rfl rfl 4 (by decide) ((NW.at hN0 9 rfl).use rfl) (fun _ h9 => h9) rfl dX4_forget_4 ?_
  refine lv_istore_n (lv' := [(1, .int (zI cl)), (0, .ref xa)]) hx hb dX4_forget_7 rfl hl (by decide) rfl (fun ls hl => ?_)
  refine lv_aload_n hx hb dX4_forget_8 rfl (lv_at hl 1 rfl) ?_
  refine va_get (D := D) (ci := 4) (C := RX4) (T := TX4) (N := 7) hx hb hts inc_X4_forget_4 hown hK hP 0 rfl rfl 2 (by decide) (hts (.fieldLink RX4 26 "BedHouse" "present" "LBedHouse$Moment;") (by decide +kernel)) (fun _ h9 => h9) rfl dX4_forget_9 ?_
  refine lv_iconst (v := zI 0) hx hb dX4_forget_12 rfl ?_
  refine va_putN (D := D) (ci := 0) (v := .int (zI 0)) (ty := .int) (C := RX0) (T := TX0) (N := 8) hx hb hts inc_X4_forget_0 tyX0 tyX0_ok nmX0 hown hK hP hD hS 1 rfl rfl 4 (by decide) ((NW.at hN0 9 rfl).use rfl) (fun _ h9 => h9) rfl (by decide +kernel) rfl rfl (Nat.le_of_ble_eq_true rfl) dX4_forget_13 (fun H locs hP hD hS => ?_)
  have hP : va_P D vwCl [(xa, .inr (4, [.ref ta, .ref ga, .ref ma, .ref im, .ref pa, .ref qpa, .long tr])), (ma, .inr (0, [.int (zI hm), .int (zI dy), .int (zI ac), .int (zI lk), .int (zI 0), .int (zI li), .int (zI da), .int (zI kp)]))] H := hP
  have hD : va_D A [(xa, .inr (4, [.ref ta, .ref ga, .ref ma, .ref im, .ref pa, .ref qpa, .long tr])), (ma, .inr (0, [.int (zI hm), .int (zI dy), .int (zI ac), .int (zI lk), .int (zI 0), .int (zI li), .int (zI da), .int (zI kp)]))] := hD
  refine lv_aload_n hx hb dX4_forget_16 rfl (lv_at hl 1 rfl) ?_
  refine va_get (D := D) (ci := 4) (C := RX4) (T := TX4) (N := 7) hx hb hts inc_X4_forget_4 hown hK hP 0 rfl rfl 2 (by decide) (hts (.fieldLink RX4 26 "BedHouse" "present" "LBedHouse$Moment;") (by decide +kernel)) (fun _ h9 => h9) rfl dX4_forget_17 ?_
  refine lv_iconst (v := zI 0) hx hb dX4_forget_20 rfl ?_
  refine va_putN (D := D) (ci := 0) (v := .int (zI 0)) (ty := .int) (C := RX0) (T := TX0) (N := 8) hx hb hts inc_X4_forget_0 tyX0 tyX0_ok nmX0 hown hK hP hD hS 1 rfl rfl 5 (by decide) ((NW.at hN0 11 rfl).use rfl) (fun _ h9 => h9) rfl (by decide +kernel) rfl rfl (Nat.le_of_ble_eq_true rfl) dX4_forget_21 (fun H locs hP hD hS => ?_)
  have hP : va_P D vwCl [(xa, .inr (4, [.ref ta, .ref ga, .ref ma, .ref im, .ref pa, .ref qpa, .long tr])), (ma, .inr (0, [.int (zI hm), .int (zI dy), .int (zI ac), .int (zI lk), .int (zI 0), .int (zI 0), .int (zI da), .int (zI kp)]))] H := hP
  have hD : va_D A [(xa, .inr (4, [.ref ta, .ref ga, .ref ma, .ref im, .ref pa, .ref qpa, .long tr])), (ma, .inr (0, [.int (zI hm), .int (zI dy), .int (zI ac), .int (zI lk), .int (zI 0), .int (zI 0), .int (zI da), .int (zI kp)]))] := hD
  refine lv_aload_n hx hb dX4_forget_24 rfl (lv_at hl 1 rfl) ?_
  refine va_get (D := D) (ci := 4) (C := RX4) (T := TX4) (N := 7) hx hb hts inc_X4_forget_4 hown hK hP 0 rfl rfl 2 (by decide) (hts (.fieldLink RX4 26 "BedHouse" "present" "LBedHouse$Moment;") (by decide +kernel)) (fun _ h9 => h9) rfl dX4_forget_25 ?_
  refine lv_iconst (v := zI 0) hx hb dX4_forget_28 rfl ?_
  refine va_putN (D := D) (ci := 0) (v := .int (zI 0)) (ty := .int) (C := RX0) (T := TX0) (N := 8) hx hb hts inc_X4_forget_0 tyX0 tyX0_ok nmX0 hown hK hP hD hS 1 rfl rfl 6 (by decide) ((NW.at hN0 13 rfl).use rfl) (fun _ h9 => h9) rfl (by decide +kernel) rfl rfl (Nat.le_of_ble_eq_true rfl) dX4_forget_29 (fun H locs hP hD hS => ?_)
  have hP : va_P D vwCl [(xa, .inr (4, [.ref ta, .ref ga, .ref ma, .ref im, .ref pa, .ref qpa, .long tr])), (ma, .inr (0, [.int (zI hm), .int (zI dy), .int (zI ac), .int (zI lk), .int (zI 0), .int (zI 0), .int (zI 0), .int (zI kp)]))] H := hP
  have hD : va_D A [(xa, .inr (4, [.ref ta, .ref ga, .ref ma, .ref im, .ref pa, .ref qpa, .long tr])), (ma, .inr (0, [.int (zI hm), .int (zI dy), .int (zI ac), .int (zI lk), .int (zI 0), .int (zI 0), .int (zI 0), .int (zI kp)]))] := hD
  refine lv_iload_n hx hb dX4_forget_32 rfl (lv_at hl 0 rfl) ?_
  exact wr_reti M dX4_forget_33 (u := ()) (congrArg zI (by rfl)) hP hD hS
