theorem inc_X4_back_0 : ∀ w ∈ wsX00, w ∈ wsX4_back := by decide +kernel
theorem inc_X4_back_4 : ∀ w ∈ wsX40, w ∈ wsX4_back := by decide +kernel
theorem inc_X4_clear_3 : ∀ w ∈ wsX30, w ∈ wsX4_clear := by decide +kernel
theorem inc_X4_clear_4 : ∀ w ∈ wsX40, w ∈ wsX4_clear := by decide +kernel
theorem inc_X4_count_0 : ∀ w ∈ wsX00, w ∈ wsX4_count := by decide +kernel
theorem inc_X4_count_1 : ∀ w ∈ wsX10, w ∈ wsX4_count := by decide +kernel
theorem inc_X4_count_3 : ∀ w ∈ wsX30, w ∈ wsX4_count := by decide +kernel
theorem inc_X4_count_4 : ∀ w ∈ wsX40, w ∈ wsX4_count := by decide +kernel
theorem inc_X4_keep_0 : ∀ w ∈ wsX00, w ∈ wsX4_keep := by decide +kernel
theorem inc_X4_keep_4 : ∀ w ∈ wsX40, w ∈ wsX4_keep := by decide +kernel
theorem inc_X4_mark_4 : ∀ w ∈ wsX40, w ∈ wsX4_mark := by decide +kernel
theorem inc_X4_markOfBearing_4 : ∀ w ∈ wsX40, w ∈ wsX4_markOfBearing := by decide +kernel
theorem inc_X4_markOfClear_0 : ∀ w ∈ wsX00, w ∈ wsX4_markOfClear := by decide +kernel
theorem inc_X4_markOfClear_4 : ∀ w ∈ wsX40, w ∈ wsX4_markOfClear := by decide +kernel
theorem inc_X4_markOfLight_4 : ∀ w ∈ wsX40, w ∈ wsX4_markOfLight := by decide +kernel
theorem inc_X4_markOfNeighbours_4 : ∀ w ∈ wsX40, w ∈ wsX4_markOfNeighbours := by decide +kernel
theorem inc_X4_markOfOld_0 : ∀ w ∈ wsX00, w ∈ wsX4_markOfOld := by decide +kernel
theorem inc_X4_markOfOld_4 : ∀ w ∈ wsX40, w ∈ wsX4_markOfOld := by decide +kernel
theorem inc_X4_markOfPanel_0 : ∀ w ∈ wsX00, w ∈ wsX4_markOfPanel := by decide +kernel
theorem inc_X4_markOfPanel_4 : ∀ w ∈ wsX40, w ∈ wsX4_markOfPanel := by decide +kernel
theorem inc_X4_trace_4 : ∀ w ∈ wsX40, w ∈ wsX4_trace := by decide +kernel
theorem inc_X4_type_3 : ∀ w ∈ wsX30, w ∈ wsX4_type := by decide +kernel
theorem inc_X4_type_4 : ∀ w ∈ wsX40, w ∈ wsX4_type := by decide +kernel
theorem hd_X0_copyFrom : yX0_copyFrom.cls ≠ "java/lang/invoke/MethodHandle" ∧ yX0_copyFrom.cls ≠ "java/lang/invoke/VarHandle" ∧ (parseMethodDescriptor yX0_copyFrom.desc).map (fun d => d.parameters.length) = some 1 := by decide +kernel
theorem hd_X3_append : yX3_append.cls ≠ "java/lang/invoke/MethodHandle" ∧ yX3_append.cls ≠ "java/lang/invoke/VarHandle" ∧ (parseMethodDescriptor yX3_append.desc).map (fun d => d.parameters.length) = some 1 := by decide +kernel
theorem hd_X4_isImage : yX4_isImage.cls ≠ "java/lang/invoke/MethodHandle" ∧ yX4_isImage.cls ≠ "java/lang/invoke/VarHandle" ∧ (parseMethodDescriptor yX4_isImage.desc).map (fun d => d.parameters.length) = some 1 := by decide +kernel
theorem hd_X4_markOfBearing : yX4_markOfBearing.cls ≠ "java/lang/invoke/MethodHandle" ∧ yX4_markOfBearing.cls ≠ "java/lang/invoke/VarHandle" ∧ (parseMethodDescriptor yX4_markOfBearing.desc).map (fun d => d.parameters.length) = some 1 := by decide +kernel
theorem hd_X4_markOfClear : yX4_markOfClear.cls ≠ "java/lang/invoke/MethodHandle" ∧ yX4_markOfClear.cls ≠ "java/lang/invoke/VarHandle" ∧ (parseMethodDescriptor yX4_markOfClear.desc).map (fun d => d.parameters.length) = some 1 := by decide +kernel
theorem hd_X4_markOfLight : yX4_markOfLight.cls ≠ "java/lang/invoke/MethodHandle" ∧ yX4_markOfLight.cls ≠ "java/lang/invoke/VarHandle" ∧ (parseMethodDescriptor yX4_markOfLight.desc).map (fun d => d.parameters.length) = some 1 := by decide +kernel
theorem hd_X4_markOfNeighbours : yX4_markOfNeighbours.cls ≠ "java/lang/invoke/MethodHandle" ∧ yX4_markOfNeighbours.cls ≠ "java/lang/invoke/VarHandle" ∧ (parseMethodDescriptor yX4_markOfNeighbours.desc).map (fun d => d.parameters.length) = some 1 := by decide +kernel
theorem hd_X4_markOfOld : yX4_markOfOld.cls ≠ "java/lang/invoke/MethodHandle" ∧ yX4_markOfOld.cls ≠ "java/lang/invoke/VarHandle" ∧ (parseMethodDescriptor yX4_markOfOld.desc).map (fun d => d.parameters.length) = some 1 := by decide +kernel
theorem hd_X4_markOfPanel : yX4_markOfPanel.cls ≠ "java/lang/invoke/MethodHandle" ∧ yX4_markOfPanel.cls ≠ "java/lang/invoke/VarHandle" ∧ (parseMethodDescriptor yX4_markOfPanel.desc).map (fun d => d.parameters.length) = some 1 := by decide +kernel
set_option maxHeartbeats 4000000 in
set_option maxRecDepth 100000 in
theorem c_X4_markOfPanel (l : Launch) (D : va_G) (cB cI cZ cM : ClassId) (Hp : Heap) (xa : Nat) (ta : Nat) (ga : Nat) (ma : Nat) (im : Nat) (pa : Nat) (qpa : Nat) (tr : Int64) (sa : Nat) (ba : Nat) (so : Int → Int) (bm : Int → Int) (P : Int) (TH : Int) (B : Int) (ra : Int) (su : Int) (vw : Int) (no : Int) (dn : Int) (ha : Int) (hm : Int) (dy : Int) (ac : Int) (lk : Int) (cl : Int) (li : Int) (da : Int) (kp : Int) (p : Int) (hok : okP so bm P TH B ra su vw no dn ha) (hmo : okM hm dy ac lk cl li da kp) (hp : 0 ≤ p ∧ p < P) : cWi l yX4_markOfPanel wsX4_markOfPanel (rmW 1 0 0 21) D (TYS cB cI cZ cM) [.ref xa, .int (zI p)] [(xa, .inr (4, [.ref ta, .ref ga, .ref ma, .ref im, .ref pa, .ref qpa, .long tr])), (pa, .inr (1, [.ref sa, .int (zI P), .int (zI TH), .ref ba, .int (zI B), .int (zI ra), .int (zI su), .int (zI vw), .int (zI no), .int (zI dn), .int (zI ha)])), (sa, .inl (cI, 4, .inl (zia so))), (ba, .inl (cI, 2, .inl (zia bm))), (ma, .inr (0, [.int (zI hm), .int (zI dy), .int (zI ac), .int (zI lk), .int (zI cl), .int (zI li), .int (zI da), .int (zI kp)]))] Hp (fun (r : Int32) (_u : Unit) => r = zI (pl hm p)) (fun (_u : Unit) => [(xa, .inr (4, [.ref ta, .ref ga, .ref ma, .ref im, .ref pa, .ref qpa, .long (tr + 1)])), (pa, .inr (1, [.ref sa, .int (zI P), .int (zI TH), .ref ba, .int (zI B), .int (zI ra), .int (zI su), .int (zI vw), .int (zI no), .int (zI dn), .int (zI ha)])), (sa, .inl (cI, 4, .inl (zia so))), (ba, .inl (cI, 2, .inl (zia bm))), (ma, .inr (0, [.int (zI hm), .int (zI dy), .int (zI ac), .int (zI lk), .int (zI cl), .int (zI li), .int (zI da), .int (zI kp)]))]) 0 0 := by
  refine wr_starti (by decide) rfl (Nat.le_of_ble_eq_true rfl) ?_
  intro pg ev sx mm args below meth cd ls A M hP hD hS hA hK hl
  obtain ⟨hx, hb, hr, hml, hown, hts, hlk, hN0⟩ := id M
  have hl : lv_has ls 2 [(0, .ref xa), (1, .int (zI p))] := hl
  refine W.widen (k := 0) (n := 0) (Nat.zero_le _) (Nat.zero_le _) ?_
  obtain ⟨hP4, hTH, hB2, hra, hsu, hvw, hno, hdn, hha, hso, hbm⟩ := id hok
  obtain ⟨hhm, hdy, hac, hlk, hcl, hli, hda, hkp⟩ := id hmo
  refine lv_aload_n hx hb dX4_markOfPanel_0 rfl (lv_at hl 0 rfl) ?_
  refine lv_dup hx hb dX4_markOfPanel_1 rfl ?_
  refine va_get (D := D) (ci := 4) (C := RX4) (T := TX4) (N := 7) hx hb hts inc_X4_markOfPanel_4 hown hK hP 0 rfl rfl 6 (by decide) (hts (.fieldLink RX4 210 "BedHouse" "traced" "J") (by decide +kernel)) (fun _ h9 => h9) rfl dX4_markOfPanel_2 ?_
  refine lv_lconst (v := 1) hx hb dX4_markOfPanel_5 rfl ?_
  refine lv_ladd hx hb dX4_markOfPanel_6 ?_
  refine va_put (D := D) (ci := 4) (v := .long (tr + 1)) (ty := .long) (C := RX4) (T := TX4) (N := 7) hx hb hts inc_X4_markOfPanel_4 tyX4 tyX4_ok nmX4 hown hK hP hD hS 0 rfl rfl 6 (by decide) (hts (.fieldLink RX4 210 "BedHouse" "traced" "J") (by decide +kernel)) (fun _ h9 => h9) rfl (by decide +kernel) rfl rfl (Nat.le_of_ble_eq_true rfl) dX4_markOfPanel_7 (fun H locs hP hD hS => ?_)
  have hP : va_P D vwCl [(xa, .inr (4, [.ref ta, .ref ga, .ref ma, .ref im, .ref pa, .ref qpa, .long (tr + 1)])), (pa, .inr (1, [.ref sa, .int (zI P), .int (zI TH), .ref ba, .int (zI B), .int (zI ra), .int (zI su), .int (zI vw), .int (zI no), .int (zI dn), .int (zI ha)])), (sa, .inl (cI, 4, .inl (zia so))), (ba, .inl (cI, 2, .inl (zia bm))), (ma, .inr (0, [.int (zI hm), .int (zI dy), .int (zI ac), .int (zI lk), .int (zI cl), .int (zI li), .int (zI da), .int (zI kp)]))] H := hP
  have hD : va_D A [(xa, .inr (4, [.ref ta, .ref ga, .ref ma, .ref im, .ref pa, .ref qpa, .long (tr + 1)])), (pa, .inr (1, [.ref sa, .int (zI P), .int (zI TH), .ref ba, .int (zI B), .int (zI ra), .int (zI su), .int (zI vw), .int (zI no), .int (zI dn), .int (zI ha)])), (sa, .inl (cI, 4, .inl (zia so))), (ba, .inl (cI, 2, .inl (zia bm))), (ma, .inr (0, [.int (zI hm), .int (zI dy), .int (zI ac), .int (zI lk), .int (zI cl), .int (zI li), .int (zI da), .int (zI kp)]))] := hD
  refine lv_aload_n hx hb dX4_markOfPanel_10 rfl (lv_at hl 0 rfl) ?_
  refine va_get (D := D) (ci := 4) (C := RX4) (T := TX4) (N := 7) hx hb hts inc_X4_markOfPanel_4 hown hK hP 0 rfl rfl 2 (by decide) (hts (.fieldLink RX4 26 "BedHouse" "present" "LBedHouse$Moment;") (by decide +kernel)) (fun _ h9 => h9) rfl dX4_markOfPanel_11 ?_
  refine va_getN (D := D) (ci := 0) (C := RX0) (T := TX0) (N := 8) hx hb hts inc_X4_markOfPanel_0 hown hK hP 4 rfl rfl 0 (by decide) ((NW.at hN0 2 rfl).use rfl) (fun _ h9 => h9) rfl dX4_markOfPanel_14 ?_
  refine lv_iload_n hx hb dX4_markOfPanel_17 rfl (lv_at hl 1 rfl) ?_
  refine pc_J (As := [.int (zI hm), .int (zI p)]) (rest := []) M (c_X4_placeIn l D cB cI cZ cM _ hm p (by first | assumption | omega) (by first | assumption | omega)) gX4_markOfPanel_X4_placeIn rfl hd_X4_placeIn ⟨Nat.le_of_ble_eq_true rfl, Nat.le_of_ble_eq_true rfl⟩ hK hP [] rfl hl.1 rfl rfl (Nat.le_of_ble_eq_true rfl) dX4_markOfPanel_18 ⟨Nat.le_of_ble_eq_true rfl, Nat.le_of_ble_eq_true rfl⟩ (fun r_18 h_18 => ?_)
  subst h_18
  exact wr_reti M dX4_markOfPanel_21 (u := ()) (congrArg zI (by rfl)) hP hD hS
set_option maxHeartbeats 4000000 in
set_option maxRecDepth 100000 in
theorem c_X4_markOfBearing (l : Launch) (D : va_G) (cB cI cZ cM : ClassId) (Hp : Heap) (xa : Nat) (ta : Nat) (ga : Nat) (ma : Nat) (im : Nat) (pa : Nat) (qpa : Nat) (tr : Int64) (sa : Nat) (ba : Nat) (so : Int → Int) (bm : Int → Int) (P : Int) (TH : Int) (B : Int) (ra : Int) (su : Int) (vw : Int) (no : Int) (dn : Int) (ha : Int) (hm : Int) (dy : Int) (ac : Int) (lk : Int) (cl : Int) (li : Int) (da : Int) (kp : Int) (p : Int) (hok : okP so bm P TH B ra su vw no dn ha) (hmo : okM hm dy ac lk cl li da kp) (hp : 0 ≤ p ∧ p < P) : cWi l yX4_markOfBearing wsX4_markOfBearing (rmW 2 0 0 42) D (TYS cB cI cZ cM) [.ref xa, .int (zI p)] [(xa, .inr (4, [.ref ta, .ref ga, .ref ma, .ref im, .ref pa, .ref qpa, .long tr])), (pa, .inr (1, [.ref sa, .int (zI P), .int (zI TH), .ref ba, .int (zI B), .int (zI ra), .int (zI su), .int (zI vw), .int (zI no), .int (zI dn), .int (zI ha)])), (sa, .inl (cI, 4, .inl (zia so))), (ba, .inl (cI, 2, .inl (zia bm))), (ma, .inr (0, [.int (zI hm), .int (zI dy), .int (zI ac), .int (zI lk), .int (zI cl), .int (zI li), .int (zI da), .int (zI kp)]))] Hp (fun (r : Int32) (_u : Unit) => r = zI (pl hm p * 2)) (fun (_u : Unit) => [(xa, .inr (4, [.ref ta, .ref ga, .ref ma, .ref im, .ref pa, .ref qpa, .long (tr + 10 + 1)])), (pa, .inr (1, [.ref sa, .int (zI P), .int (zI TH), .ref ba, .int (zI B), .int (zI ra), .int (zI su), .int (zI vw), .int (zI no), .int (zI dn), .int (zI ha)])), (sa, .inl (cI, 4, .inl (zia so))), (ba, .inl (cI, 2, .inl (zia bm))), (ma, .inr (0, [.int (zI hm), .int (zI dy), .int (zI ac), .int (zI lk), .int (zI cl), .int (zI li), .int (zI da), .int (zI kp)]))]) 0 0 := by
  refine wr_starti (by decide) rfl (Nat.le_of_ble_eq_true rfl) ?_
  intro pg ev sx mm args below meth cd ls A M hP hD hS hA hK hl
  obtain ⟨hx, hb, hr, hml, hown, hts, hlk, hN0⟩ := id M
  have hl : lv_has ls 2 [(0, .ref xa), (1, .int (zI p))] := hl
  refine W.widen (k := 0) (n := 0) (Nat.zero_le _) (Nat.zero_le _) ?_
  obtain ⟨hP4, hTH, hB2, hra, hsu, hvw, hno, hdn, hha, hso, hbm⟩ := id hok
  obtain ⟨hhm, hdy, hac, hlk, hcl, hli, hda, hkp⟩ := id hmo
  refine lv_aload_n hx hb dX4_markOfBearing_0 rfl (lv_at hl 0 rfl) ?_
  refine lv_dup hx hb dX4_markOfBearing_1 rfl ?_
  refine va_get (D := D) (ci := 4) (C := RX4) (T := TX4) (N := 7) hx hb hts inc_X4_markOfBearing_4 hown hK hP 0 rfl rfl 6 (by decide) (hts (.fieldLink RX4 210 "BedHouse" "traced" "J") (by decide +kernel)) (fun _ h9 => h9) rfl dX4_markOfBearing_2 ?_
  refine lv_ldc2 hx hb hown (hts (.constantLong RX4 218 (10)) (by decide +kernel)) dX4_markOfBearing_5 ?_
  refine lv_ladd hx hb dX4_markOfBearing_8 ?_
  refine va_put (D := D) (ci := 4) (v := .long (tr + 10)) (ty := .long) (C := RX4) (T := TX4) (N := 7) hx hb hts inc_X4_markOfBearing_4 tyX4 tyX4_ok nmX4 hown hK hP hD hS 0 rfl rfl 6 (by decide) (hts (.fieldLink RX4 210 "BedHouse" "traced" "J") (by decide +kernel)) (fun _ h9 => h9) rfl (by decide +kernel) rfl rfl (Nat.le_of_ble_eq_true rfl) dX4_markOfBearing_9 (fun H locs hP hD hS => ?_)
  have hP : va_P D vwCl [(xa, .inr (4, [.ref ta, .ref ga, .ref ma, .ref im, .ref pa, .ref qpa, .long (tr + 10)])), (pa, .inr (1, [.ref sa, .int (zI P), .int (zI TH), .ref ba, .int (zI B), .int (zI ra), .int (zI su), .int (zI vw), .int (zI no), .int (zI dn), .int (zI ha)])), (sa, .inl (cI, 4, .inl (zia so))), (ba, .inl (cI, 2, .inl (zia bm))), (ma, .inr (0, [.int (zI hm), .int (zI dy), .int (zI ac), .int (zI lk), .int (zI cl), .int (zI li), .int (zI da), .int (zI kp)]))] H := hP
  have hD : va_D A [(xa, .inr (4, [.ref ta, .ref ga, .ref ma, .ref im, .ref pa, .ref qpa, .long (tr + 10)])), (pa, .inr (1, [.ref sa, .int (zI P), .int (zI TH), .ref ba, .int (zI B), .int (zI ra), .int (zI su), .int (zI vw), .int (zI no), .int (zI dn), .int (zI ha)])), (sa, .inl (cI, 4, .inl (zia so))), (ba, .inl (cI, 2, .inl (zia bm))), (ma, .inr (0, [.int (zI hm), .int (zI dy), .int (zI ac), .int (zI lk), .int (zI cl), .int (zI li), .int (zI da), .int (zI kp)]))] := hD
  refine lv_aload_n hx hb dX4_markOfBearing_12 rfl (lv_at hl 0 rfl) ?_
  refine lv_iload_n hx hb dX4_markOfBearing_13 rfl (lv_at hl 1 rfl) ?_
  refine wc_Vi (As := [.int (zI p)]) (rest := []) (wr := []) (ws' := (fun _u : Unit => [(xa, .inr (4, [.ref ta, .ref ga, .ref ma, .ref im, .ref pa, .ref qpa, .long ((tr + 10) + 1)])), (pa, .inr (1, [.ref sa, .int (zI P), .int (zI TH), .ref ba, .int (zI B), .int (zI ra), .int (zI su), .int (zI vw), .int (zI no), .int (zI dn), .int (zI ha)])), (sa, .inl (cI, 4, .inl (zia so))), (ba, .inl (cI, 2, .inl (zia bm))), (ma, .inr (0, [.int (zI hm), .int (zI dy), .int (zI ac), .int (zI lk), .int (zI cl), .int (zI li), .int (zI da), .int (zI kp)]))])) M (c_X4_markOfPanel l D cB cI cZ cM _ xa ta ga ma im pa qpa (tr + 10) sa ba so bm P TH B ra su vw no dn ha hm dy ac lk cl li da kp p (by first | assumption | omega) (by first | assumption | omega) (by first | assumption | omega)) gX4_markOfBearing_X4_markOfPanel rfl ⟨rfl, hd_X4_markOfPanel⟩ ⟨Nat.le_of_ble_eq_true rfl, Nat.le_of_ble_eq_true rfl⟩ hK hP hD hS hA [0, 1, 2, 3, 4] [] [0, 1, 2, 3, 4] rfl rfl (by decide) (by decide) (by decide) (fun _ => rfl) 0 4 rfl rfl rfl hl.1 rfl rfl (Nat.le_of_ble_eq_true rfl) dX4_markOfBearing_14 ⟨Nat.le_of_ble_eq_true rfl, Nat.le_of_ble_eq_true rfl⟩ (by decide) (fun r_14 _u H locs h_14 hP hD hS => ?_)
  subst h_14
  refine lv_iconst (v := zI 2) hx hb dX4_markOfBearing_17 rfl ?_
  refine z_imul hx hb dX4_markOfBearing_18 ?_
  exact wr_reti M dX4_markOfBearing_19 (u := ()) (congrArg zI (by rfl)) hP hD hS
set_option maxHeartbeats 4000000 in
set_option maxRecDepth 100000 in
theorem c_X4_markOfLight (l : Launch) (D : va_G) (cB cI cZ cM : ClassId) (Hp : Heap) (xa : Nat) (ta : Nat) (ga : Nat) (ma : Nat) (im : Nat) (pa : Nat) (qpa : Nat) (tr : Int64) (sa : Nat) (ba : Nat) (so : Int → Int) (bm : Int → Int) (P : Int) (TH : Int) (B : Int) (ra : Int) (su : Int) (vw : Int) (no : Int) (dn : Int) (ha : Int) (hm : Int) (dy : Int) (ac : Int) (lk : Int) (cl : Int) (li : Int) (da : Int) (kp : Int) (p : Int) (hok : okP so bm P TH B ra su vw no dn ha) (hmo : okM hm dy ac lk cl li da kp) (hp : 0 ≤ p ∧ p < P) : cWi l yX4_markOfLight wsX4_markOfLight (rmW 2 0 0 42) D (TYS cB cI cZ cM) [.ref xa, .int (zI p)] [(xa, .inr (4, [.ref ta, .ref ga, .ref ma, .ref im, .ref pa, .ref qpa, .long tr])), (pa, .inr (1, [.ref sa, .int (zI P), .int (zI TH), .ref ba, .int (zI B), .int (zI ra), .int (zI su), .int (zI vw), .int (zI no), .int (zI dn), .int (zI ha)])), (sa, .inl (cI, 4, .inl (zia so))), (ba, .inl (cI, 2, .inl (zia bm))), (ma, .inr (0, [.int (zI hm), .int (zI dy), .int (zI ac), .int (zI lk), .int (zI cl), .int (zI li), .int (zI da), .int (zI kp)]))] Hp (fun (r : Int32) (_u : Unit) => r = zI (pl hm p + (if 0 ≤ p ∧ p < P then so p else -9))) (fun (_u : Unit) => [(xa, .inr (4, [.ref ta, .ref ga, .ref ma, .ref im, .ref pa, .ref qpa, .long (tr + 100 + 1)])), (pa, .inr (1, [.ref sa, .int (zI P), .int (zI TH), .ref ba, .int (zI B), .int (zI ra), .int (zI su), .int (zI vw), .int (zI no), .int (zI dn), .int (zI ha)])), (sa, .inl (cI, 4, .inl (zia so))), (ba, .inl (cI, 2, .inl (zia bm))), (ma, .inr (0, [.int (zI hm), .int (zI dy), .int (zI ac), .int (zI lk), .int (zI cl), .int (zI li), .int (zI da), .int (zI kp)]))]) 0 0 := by
  refine wr_starti (by decide) rfl (Nat.le_of_ble_eq_true rfl) ?_
  intro pg ev sx mm args below meth cd ls A M hP hD hS hA hK hl
  obtain ⟨hx, hb, hr, hml, hown, hts, hlk, hN0⟩ := id M
  have hl : lv_has ls 2 [(0, .ref xa), (1, .int (zI p))] := hl
  refine W.widen (k := 0) (n := 0) (Nat.zero_le _) (Nat.zero_le _) ?_
  obtain ⟨hP4, hTH, hB2, hra, hsu, hvw, hno, hdn, hha, hso, hbm⟩ := id hok
  obtain ⟨hhm, hdy, hac, hlk, hcl, hli, hda, hkp⟩ := id hmo
  refine lv_aload_n hx hb dX4_markOfLight_0 rfl (lv_at hl 0 rfl) ?_
  refine lv_dup hx hb dX4_markOfLight_1 rfl ?_
  refine va_get (D := D) (ci := 4) (C := RX4) (T := TX4) (N := 7) hx hb hts inc_X4_markOfLight_4 hown hK hP 0 rfl rfl 6 (by decide) (hts (.fieldLink RX4 210 "BedHouse" "traced" "J") (by decide +kernel)) (fun _ h9 => h9) rfl dX4_markOfLight_2 ?_
  refine lv_ldc2 hx hb hown (hts (.constantLong RX4 220 (100)) (by decide +kernel)) dX4_markOfLight_5 ?_
  refine lv_ladd hx hb dX4_markOfLight_8 ?_
  refine va_put (D := D) (ci := 4) (v := .long (tr + 100)) (ty := .long) (C := RX4) (T := TX4) (N := 7) hx hb hts inc_X4_markOfLight_4 tyX4 tyX4_ok nmX4 hown hK hP hD hS 0 rfl rfl 6 (by decide) (hts (.fieldLink RX4 210 "BedHouse" "traced" "J") (by decide +kernel)) (fun _ h9 => h9) rfl (by decide +kernel) rfl rfl (Nat.le_of_ble_eq_true rfl) dX4_markOfLight_9 (fun H locs hP hD hS => ?_)
  have hP : va_P D vwCl [(xa, .inr (4, [.ref ta, .ref ga, .ref ma, .ref im, .ref pa, .ref qpa, .long (tr + 100)])), (pa, .inr (1, [.ref sa, .int (zI P), .int (zI TH), .ref ba, .int (zI B), .int (zI ra), .int (zI su), .int (zI vw), .int (zI no), .int (zI dn), .int (zI ha)])), (sa, .inl (cI, 4, .inl (zia so))), (ba, .inl (cI, 2, .inl (zia bm))), (ma, .inr (0, [.int (zI hm), .int (zI dy), .int (zI ac), .int (zI lk), .int (zI cl), .int (zI li), .int (zI da), .int (zI kp)]))] H := hP
  have hD : va_D A [(xa, .inr (4, [.ref ta, .ref ga, .ref ma, .ref im, .ref pa, .ref qpa, .long (tr + 100)])), (pa, .inr (1, [.ref sa, .int (zI P), .int (zI TH), .ref ba, .int (zI B), .int (zI ra), .int (zI su), .int (zI vw), .int (zI no), .int (zI dn), .int (zI ha)])), (sa, .inl (cI, 4, .inl (zia so))), (ba, .inl (cI, 2, .inl (zia bm))), (ma, .inr (0, [.int (zI hm), .int (zI dy), .int (zI ac), .int (zI lk), .int (zI cl), .int (zI li), .int (zI da), .int (zI kp)]))] := hD
  refine lv_aload_n hx hb dX4_markOfLight_12 rfl (lv_at hl 0 rfl) ?_
  refine lv_iload_n hx hb dX4_markOfLight_13 rfl (lv_at hl 1 rfl) ?_
  refine wc_Vi (As := [.int (zI p)]) (rest := []) (wr := []) (ws' := (fun _u : Unit => [(xa, .inr (4, [.ref ta, .ref ga, .ref ma, .ref im, .ref pa, .ref qpa, .long ((tr + 100) + 1)])), (pa, .inr (1, [.ref sa, .int (zI P), .int (zI TH), .ref ba, .int (zI B), .int (zI ra), .int (zI su), .int (zI vw), .int (zI no), .int (zI dn), .int (zI ha)])), (sa, .inl (cI, 4, .inl (zia so))), (ba, .inl (cI, 2, .inl (zia bm))), (ma, .inr (0, [.int (zI hm), .int (zI dy), .int (zI ac), .int (zI lk), .int (zI cl), .int (zI li), .int (zI da), .int (zI kp)]))])) M (c_X4_markOfPanel l D cB cI cZ cM _ xa ta ga ma im pa qpa (tr + 100) sa ba so bm P TH B ra su vw no dn ha hm dy ac lk cl li da kp p (by first | assumption | omega) (by first | assumption | omega) (by first | assumption | omega)) gX4_markOfLight_X4_markOfPanel rfl ⟨rfl, hd_X4_markOfPanel⟩ ⟨Nat.le_of_ble_eq_true rfl, Nat.le_of_ble_eq_true rfl⟩ hK hP hD hS hA [0, 1, 2, 3, 4] [] [0, 1, 2, 3, 4] rfl rfl (by decide) (by decide) (by decide) (fun _ => rfl) 0 4 rfl rfl rfl hl.1 rfl rfl (Nat.le_of_ble_eq_true rfl) dX4_markOfLight_14 ⟨Nat.le_of_ble_eq_true rfl, Nat.le_of_ble_eq_true rfl⟩ (by decide) (fun r_14 _u H locs h_14 hP hD hS => ?_)
  subst h_14
  refine lv_aload_n hx hb dX4_markOfLight_17 rfl (lv_at hl 0 rfl) ?_
  refine va_get (D := D) (ci := 4) (C := RX4) (T := TX4) (N := 7) hx hb hts inc_X4_markOfLight_4 hown hK hP 0 rfl rfl 4 (by decide) (hts (.fieldLink RX4 37 "BedHouse" "plan" "LBedHouse$Plan;") (by decide +kernel)) (fun _ h9 => h9) rfl dX4_markOfLight_18 ?_
  refine lv_iload_n hx hb dX4_markOfLight_21 rfl (lv_at hl 1 rfl) ?_
  refine pc_VN (As := [.int (zI p)]) (rest := [.int (zI (pl hm p))]) M (c_X1_sortOf l D cB cI cZ cM _ pa sa ba so bm P TH B ra su vw no dn ha p (by first | assumption | omega) (by first | assumption | omega)) gX4_markOfLight_X1_sortOf_n73 rfl (NW.at hN0 50 rfl) (by decide +kernel) (by decide +kernel) (by decide +kernel) hd_X1_sortOf ⟨Nat.le_of_ble_eq_true rfl, Nat.le_of_ble_eq_true rfl⟩ hK hP [1, 2, 3] rfl 1 1 rfl rfl rfl hl.1 rfl rfl (Nat.le_of_ble_eq_true rfl) dX4_markOfLight_22 ⟨Nat.le_of_ble_eq_true rfl, Nat.le_of_ble_eq_true rfl⟩ (fun r_22 h_22 => ?_)
  subst h_22
  refine z_iadd hx hb dX4_markOfLight_25 ?_
  exact wr_reti M dX4_markOfLight_26 (u := ()) (congrArg zI (by rfl)) hP hD hS
set_option maxHeartbeats 4000000 in
set_option maxRecDepth 100000 in
theorem c_X4_markOfOld (l : Launch) (D : va_G) (cB cI cZ cM : ClassId) (Hp : Heap) (xa : Nat) (ta : Nat) (ga : Nat) (ma : Nat) (im : Nat) (pa : Nat) (qpa : Nat) (tr : Int64) (sa : Nat) (ba : Nat) (so : Int → Int) (bm : Int → Int) (P : Int) (TH : Int) (B : Int) (ra : Int) (su : Int) (vw : Int) (no : Int) (dn : Int) (ha : Int) (hm : Int) (dy : Int) (ac : Int) (lk : Int) (cl : Int) (li : Int) (da : Int) (kp : Int) (p : Int) (hok : okP so bm P TH B ra su vw no dn ha) (hmo : okM hm dy ac lk cl li da kp) (hp : 0 ≤ p ∧ p < P) : cWi l yX4_markOfOld wsX4_markOfOld (rmW 3 0 0 63) D (TYS cB cI cZ cM) [.ref xa, .int (zI p)] [(xa, .inr (4, [.ref ta, .ref ga, .ref ma, .ref im, .ref pa, .ref qpa, .long tr])), (pa, .inr (1, [.ref sa, .int (zI P), .int (zI TH), .ref ba, .int (zI B), .int (zI ra), .int (zI su), .int (zI vw), .int (zI no), .int (zI dn), .int (zI ha)])), (sa, .inl (cI, 4, .inl (zia so))), (ba, .inl (cI, 2, .inl (zia bm))), (ma, .inr (0, [.int (zI hm), .int (zI dy), .int (zI ac), .int (zI lk), .int (zI cl), .int (zI li), .int (zI da), .int (zI kp)]))] Hp (fun (r : Int32) (_u : Unit) => r = zI (pl hm p * 2 + dy)) (fun (_u : Unit) => [(xa, .inr (4, [.ref ta, .ref ga, .ref ma, .ref im, .ref pa, .ref qpa, .long (tr + 1000 + 10 + 1)])), (pa, .inr (1, [.ref sa, .int (zI P), .int (zI TH), .ref ba, .int (zI B), .int (zI ra), .int (zI su), .int (zI vw), .int (zI no), .int (zI dn), .int (zI ha)])), (sa, .inl (cI, 4, .inl (zia so))), (ba, .inl (cI, 2, .inl (zia bm))), (ma, .inr (0, [.int (zI hm), .int (zI dy), .int (zI ac), .int (zI lk), .int (zI cl), .int (zI li), .int (zI da), .int (zI kp)]))]) 0 0 := by
  refine wr_starti (by decide) rfl (Nat.le_of_ble_eq_true rfl) ?_
  intro pg ev sx mm args below meth cd ls A M hP hD hS hA hK hl
  obtain ⟨hx, hb, hr, hml, hown, hts, hlk, hN0⟩ := id M
  have hl : lv_has ls 2 [(0, .ref xa), (1, .int (zI p))] := hl
  refine W.widen (k := 0) (n := 0) (Nat.zero_le _) (Nat.zero_le _) ?_
  obtain ⟨hP4, hTH, hB2, hra, hsu, hvw, hno, hdn, hha, hso, hbm⟩ := id hok
  obtain ⟨hhm, hdy, hac, hlk, hcl, hli, hda, hkp⟩ := id hmo
  refine lv_aload_n hx hb dX4_markOfOld_0 rfl (lv_at hl 0 rfl) ?_
  refine lv_dup hx hb dX4_markOfOld_1 rfl ?_
  refine va_get (D := D) (ci := 4) (C := RX4) (T := TX4) (N := 7) hx hb hts inc_X4_markOfOld_4 hown hK hP 0 rfl rfl 6 (by decide) (hts (.fieldLink RX4 210 "BedHouse" "traced" "J") (by decide +kernel)) (fun _ h9 => h9) rfl dX4_markOfOld_2 ?_
  refine lv_ldc2 hx hb hown (hts (.constantLong RX4 222 (1000)) (by decide +kernel)) dX4_markOfOld_5 ?_
  refine lv_ladd hx hb dX4_markOfOld_8 ?_
  refine va_put (D := D) (ci := 4) (v := .long (tr + 1000)) (ty := .long) (C := RX4) (T := TX4) (N := 7) hx hb hts inc_X4_markOfOld_4 tyX4 tyX4_ok nmX4 hown hK hP hD hS 0 rfl rfl 6 (by decide) (hts (.fieldLink RX4 210 "BedHouse" "traced" "J") (by decide +kernel)) (fun _ h9 => h9) rfl (by decide +kernel) rfl rfl (Nat.le_of_ble_eq_true rfl) dX4_markOfOld_9 (fun H locs hP hD hS => ?_)
  have hP : va_P D vwCl [(xa, .inr (4, [.ref ta, .ref ga, .ref ma, .ref im, .ref pa, .ref qpa, .long (tr + 1000)])), (pa, .inr (1, [.ref sa, .int (zI P), .int (zI TH), .ref ba, .int (zI B), .int (zI ra), .int (zI su), .int (zI vw), .int (zI no), .int (zI dn), .int (zI ha)])), (sa, .inl (cI, 4, .inl (zia so))), (ba, .inl (cI, 2, .inl (zia bm))), (ma, .inr (0, [.int (zI hm), .int (zI dy), .int (zI ac), .int (zI lk), .int (zI cl), .int (zI li), .int (zI da), .int (zI kp)]))] H := hP
  have hD : va_D A [(xa, .inr (4, [.ref ta, .ref ga, .ref ma, .ref im, .ref pa, .ref qpa, .long (tr + 1000)])), (pa, .inr (1, [.ref sa, .int (zI P), .int (zI TH), .ref ba, .int (zI B), .int (zI ra), .int (zI su), .int (zI vw), .int (zI no), .int (zI dn), .int (zI ha)])), (sa, .inl (cI, 4, .inl (zia so))), (ba, .inl (cI, 2, .inl (zia bm))), (ma, .inr (0, [.int (zI hm), .int (zI dy), .int (zI ac), .int (zI lk), .int (zI cl), .int (zI li), .int (zI da), .int (zI kp)]))] := hD
  refine lv_aload_n hx hb dX4_markOfOld_12 rfl (lv_at hl 0 rfl) ?_
  refine lv_iload_n hx hb dX4_markOfOld_13 rfl (lv_at hl 1 rfl) ?_
  refine wc_Vi (As := [.int (zI p)]) (rest := []) (wr := []) (ws' := (fun _u : Unit => [(xa, .inr (4, [.ref ta, .ref ga, .ref ma, .ref im, .ref pa, .ref qpa, .long ((tr + 1000) + 10 + 1)])), (pa, .inr (1, [.ref sa, .int (zI P), .int (zI TH), .ref ba, .int (zI B), .int (zI ra), .int (zI su), .int (zI vw), .int (zI no), .int (zI dn), .int (zI ha)])), (sa, .inl (cI, 4, .inl (zia so))), (ba, .inl (cI, 2, .inl (zia bm))), (ma, .inr (0, [.int (zI hm), .int (zI dy), .int (zI ac), .int (zI lk), .int (zI cl), .int (zI li), .int (zI da), .int (zI kp)]))])) M (c_X4_markOfBearing l D cB cI cZ cM _ xa ta ga ma im pa qpa (tr + 1000) sa ba so bm P TH B ra su vw no dn ha hm dy ac lk cl li da kp p (by first | assumption | omega) (by first | assumption | omega) (by first | assumption | omega)) gX4_markOfOld_X4_markOfBearing rfl ⟨rfl, hd_X4_markOfBearing⟩ ⟨Nat.le_of_ble_eq_true rfl, Nat.le_of_ble_eq_true rfl⟩ hK hP hD hS hA [0, 1, 2, 3, 4] [] [0, 1, 2, 3, 4] rfl rfl (by decide) (by decide) (by decide) (fun _ => rfl) 0 4 rfl rfl rfl hl.1 rfl rfl (Nat.le_of_ble_eq_true rfl) dX4_markOfOld_14 ⟨Nat.le_of_ble_eq_true rfl, Nat.le_of_ble_eq_true rfl⟩ (by decide) (fun r_14 _u H locs h_14 hP hD hS => ?_)
  subst h_14
  refine lv_aload_n hx hb dX4_markOfOld_17 rfl (lv_at hl 0 rfl) ?_
  refine va_get (D := D) (ci := 4) (C := RX4) (T := TX4) (N := 7) hx hb hts inc_X4_markOfOld_4 hown hK hP 0 rfl rfl 2 (by decide) (hts (.fieldLink RX4 26 "BedHouse" "present" "LBedHouse$Moment;") (by decide +kernel)) (fun _ h9 => h9) rfl dX4_markOfOld_18 ?_
  refine va_getN (D := D) (ci := 0) (C := RX0) (T := TX0) (N := 8) hx hb hts inc_X4_markOfOld_0 hown hK hP 4 rfl rfl 1 (by decide) ((NW.at hN0 4 rfl).use rfl) (fun _ h9 => h9) rfl dX4_markOfOld_21 ?_
  refine z_iadd hx hb dX4_markOfOld_24 ?_
  exact wr_reti M dX4_markOfOld_25 (u := ()) (congrArg zI (by rfl)) hP hD hS
set_option maxHeartbeats 4000000 in
set_option maxRecDepth 100000 in
theorem c_X4_markOfClear (l : Launch) (D : va_G) (cB cI cZ cM : ClassId) (Hp : Heap) (xa : Nat) (ta : Nat) (ga : Nat) (ma : Nat) (im : Nat) (pa : Nat) (qpa : Nat) (tr : Int64) (sa : Nat) (ba : Nat) (so : Int → Int) (bm : Int → Int) (P : Int) (TH : Int) (B : Int) (ra : Int) (su : Int) (vw : Int) (no : Int) (dn : Int) (ha : Int) (hm : Int) (dy : Int) (ac : Int) (lk : Int) (cl : Int) (li : Int) (da : Int) (kp : Int) (p : Int) (hok : okP so bm P TH B ra su vw no dn ha) (hmo : okM hm dy ac lk cl li da kp) (hp : 0 ≤ p ∧ p < P) : cWi l yX4_markOfClear wsX4_markOfClear (rmW 3 0 0 63) D (TYS cB cI cZ cM) [.ref xa, .int (zI p)] [(xa, .inr (4, [.ref ta, .ref ga, .ref ma, .ref im, .ref pa, .ref qpa, .long tr])), (pa, .inr (1, [.ref sa, .int (zI P), .int (zI TH), .ref ba, .int (zI B), .int (zI ra), .int (zI su), .int (zI vw), .int (zI no), .int (zI dn), .int (zI ha)])), (sa, .inl (cI, 4, .inl (zia so))), (ba, .inl (cI, 2, .inl (zia bm))), (ma, .inr (0, [.int (zI hm), .int (zI dy), .int (zI ac), .int (zI lk), .int (zI cl), .int (zI li), .int (zI da), .int (zI kp)]))] Hp (fun (r : Int32) (_u : Unit) => r = zI (pl hm p + (if 0 ≤ p ∧ p < P then so p else -9) + lyC (pl hm) P.toNat 0)) (fun (_u : Unit) => [(xa, .inr (4, [.ref ta, .ref ga, .ref ma, .ref im, .ref pa, .ref qpa, .long (tr + 10000 + 100 + 1)])), (pa, .inr (1, [.ref sa, .int (zI P), .int (zI TH), .ref ba, .int (zI B), .int (zI ra), .int (zI su), .int (zI vw), .int (zI no), .int (zI dn), .int (zI ha)])), (sa, .inl (cI, 4, .inl (zia so))), (ba, .inl (cI, 2, .inl (zia bm))), (ma, .inr (0, [.int (zI hm), .int (zI dy), .int (zI ac), .int (zI lk), .int (zI cl), .int (zI li), .int (zI da), .int (zI kp)]))]) 0 0 := by
  refine wr_starti (by decide) rfl (Nat.le_of_ble_eq_true rfl) ?_
  intro pg ev sx mm args below meth cd ls A M hP hD hS hA hK hl
  obtain ⟨hx, hb, hr, hml, hown, hts, hlk, hN0⟩ := id M
  have hl : lv_has ls 2 [(0, .ref xa), (1, .int (zI p))] := hl
  refine W.widen (k := 0) (n := 0) (Nat.zero_le _) (Nat.zero_le _) ?_
  obtain ⟨hP4, hTH, hB2, hra, hsu, hvw, hno, hdn, hha, hso, hbm⟩ := id hok
  obtain ⟨hhm, hdy, hac, hlk, hcl, hli, hda, hkp⟩ := id hmo
  refine lv_aload_n hx hb dX4_markOfClear_0 rfl (lv_at hl 0 rfl) ?_
  refine lv_dup hx hb dX4_markOfClear_1 rfl ?_
  refine va_get (D := D) (ci := 4) (C := RX4) (T := TX4) (N := 7) hx hb hts inc_X4_markOfClear_4 hown hK hP 0 rfl rfl 6 (by decide) (hts (.fieldLink RX4 210 "BedHouse" "traced" "J") (by decide +kernel)) (fun _ h9 => h9) rfl dX4_markOfClear_2 ?_
  refine lv_ldc2 hx hb hown (hts (.constantLong RX4 224 (10000)) (by decide +kernel)) dX4_markOfClear_5 ?_
  refine lv_ladd hx hb dX4_markOfClear_8 ?_
  refine va_put (D := D) (ci := 4) (v := .long (tr + 10000)) (ty := .long) (C := RX4) (T := TX4) (N := 7) hx hb hts inc_X4_markOfClear_4 tyX4 tyX4_ok nmX4 hown hK hP hD hS 0 rfl rfl 6 (by decide) (hts (.fieldLink RX4 210 "BedHouse" "traced" "J") (by decide +kernel)) (fun _ h9 => h9) rfl (by decide +kernel) rfl rfl (Nat.le_of_ble_eq_true rfl) dX4_markOfClear_9 (fun H locs hP hD hS => ?_)
  have hP : va_P D vwCl [(xa, .inr (4, [.ref ta, .ref ga, .ref ma, .ref im, .ref pa, .ref qpa, .long (tr + 10000)])), (pa, .inr (1, [.ref sa, .int (zI P), .int (zI TH), .ref ba, .int (zI B), .int (zI ra), .int (zI su), .int (zI vw), .int (zI no), .int (zI dn), .int (zI ha)])), (sa, .inl (cI, 4, .inl (zia so))), (ba, .inl (cI, 2, .inl (zia bm))), (ma, .inr (0, [.int (zI hm), .int (zI dy), .int (zI ac), .int (zI lk), .int (zI cl), .int (zI li), .int (zI da), .int (zI kp)]))] H := hP
  have hD : va_D A [(xa, .inr (4, [.ref ta, .ref ga, .ref ma, .ref im, .ref pa, .ref qpa, .long (tr + 10000)])), (pa, .inr (1, [.ref sa, .int (zI P), .int (zI TH), .ref ba, .int (zI B), .int (zI ra), .int (zI su), .int (zI vw), .int (zI no), .int (zI dn), .int (zI ha)])), (sa, .inl (cI, 4, .inl (zia so))), (ba, .inl (cI, 2, .inl (zia bm))), (ma, .inr (0, [.int (zI hm), .int (zI dy), .int (zI ac), .int (zI lk), .int (zI cl), .int (zI li), .int (zI da), .int (zI kp)]))] := hD
  refine lv_aload_n hx hb dX4_markOfClear_12 rfl (lv_at hl 0 rfl) ?_
  refine lv_iload_n hx hb dX4_markOfClear_13 rfl (lv_at hl 1 rfl) ?_
  refine wc_Vi (As := [.int (zI p)]) (rest := []) (wr := []) (ws' := (fun _u : Unit => [(xa, .inr (4, [.ref ta, .ref ga, .ref ma, .ref im, .ref pa, .ref qpa, .long ((tr + 10000) + 100 + 1)])), (pa, .inr (1, [.ref sa, .int (zI P), .int (zI TH), .ref ba, .int (zI B), .int (zI ra), .int (zI su), .int (zI vw), .int (zI no), .int (zI dn), .int (zI ha)])), (sa, .inl (cI, 4, .inl (zia so))), (ba, .inl (cI, 2, .inl (zia bm))), (ma, .inr (0, [.int (zI hm), .int (zI dy), .int (zI ac), .int (zI lk), .int (zI cl), .int (zI li), .int (zI da), .int (zI kp)]))])) M (c_X4_markOfLight l D cB cI cZ cM _ xa ta ga ma im pa qpa (tr + 10000) sa ba so bm P TH B ra su vw no dn ha hm dy ac lk cl li da kp p (by first | assumption | omega) (by first | assumption | omega) (by first | assumption | omega)) gX4_markOfClear_X4_markOfLight rfl ⟨rfl, hd_X4_markOfLight⟩ ⟨Nat.le_of_ble_eq_true rfl, Nat.le_of_ble_eq_true rfl⟩ hK hP hD hS hA [0, 1, 2, 3, 4] [] [0, 1, 2, 3, 4] rfl rfl (by decide) (by decide) (by decide) (fun _ => rfl) 0 4 rfl rfl rfl hl.1 rfl rfl (Nat.le_of_ble_eq_true rfl) dX4_markOfClear_14 ⟨Nat.le_of_ble_eq_true rfl, Nat.le_of_ble_eq_true rfl⟩ (by decide) (fun r_14 _u H locs h_14 hP hD hS => ?_)
  subst h_14
  refine lv_aload_n hx hb dX4_markOfClear_17 rfl (lv_at hl 0 rfl) ?_
  refine va_get (D := D) (ci := 4) (C := RX4) (T := TX4) (N := 7) hx hb hts inc_X4_markOfClear_4 hown hK hP 0 rfl rfl 4 (by decide) (hts (.fieldLink RX4 37 "BedHouse" "plan" "LBedHouse$Plan;") (by decide +kernel)) (fun _ h9 => h9) rfl dX4_markOfClear_18 ?_
  refine lv_aload_n hx hb dX4_markOfClear_21 rfl (lv_at hl 0 rfl) ?_
  refine va_get (D := D) (ci := 4) (C := RX4) (T := TX4) (N := 7) hx hb hts inc_X4_markOfClear_4 hown hK hP 0 rfl rfl 2 (by decide) (hts (.fieldLink RX4 26 "BedHouse" "present" "LBedHouse$Moment;") (by decide +kernel)) (fun _ h9 => h9) rfl dX4_markOfClear_22 ?_
  refine va_getN (D := D) (ci := 0) (C := RX0) (T := TX0) (N := 8) hx hb hts inc_X4_markOfClear_0 hown hK hP 4 rfl rfl 0 (by decide) ((NW.at hN0 2 rfl).use rfl) (fun _ h9 => h9) rfl dX4_markOfClear_25 ?_
  refine pc_VN (As := [.int (zI hm)]) (rest := [.int (zI (pl hm p + (if 0 ≤ p ∧ p < P then so p else -9)))]) M (c_X1_lyingIn l D cB cI cZ cM _ pa sa ba so bm P TH B ra su vw no dn ha hm (by first | assumption | omega) (by first | assumption | omega)) gX4_markOfClear_X1_lyingIn_n207 rfl (NW.at hN0 55 rfl) (by decide +kernel) (by decide +kernel) (by decide +kernel) hd_X1_lyingIn ⟨Nat.le_of_ble_eq_true rfl, Nat.le_of_ble_eq_true rfl⟩ hK hP [1, 2, 3] rfl 1 1 rfl rfl rfl hl.1 rfl rfl (Nat.le_of_ble_eq_true rfl) dX4_markOfClear_28 ⟨Nat.le_of_ble_eq_true rfl, Nat.le_of_ble_eq_true rfl⟩ (fun r_28 h_28 => ?_)
  subst h_28
  refine z_iadd hx hb dX4_markOfClear_31 ?_
  exact wr_reti M dX4_markOfClear_32 (u := ()) (congrArg zI (by rfl)) hP hD hS
set_option maxHeartbeats 4000000 in
set_option maxRecDepth 100000 in
theorem c_X4_markOfNeighbours (l : Launch) (D : va_G) (cB cI cZ cM : ClassId) (Hp : Heap) (xa : Nat) (ta : Nat) (ga : Nat) (ma : Nat) (im : Nat) (pa : Nat) (qpa : Nat) (tr : Int64) (sa : Nat) (ba : Nat) (so : Int → Int) (bm : Int → Int) (P : Int) (TH : Int) (B : Int) (ra : Int) (su : Int) (vw : Int) (no : Int) (dn : Int) (ha : Int) (hm : Int) (dy : Int) (ac : Int) (lk : Int) (cl : Int) (li : Int) (da : Int) (kp : Int) (p : Int) (hok : okP so bm P TH B ra su vw no dn ha) (hmo : okM hm dy ac lk cl li da kp) (hp : 0 ≤ p ∧ p < P) : cWi l yX4_markOfNeighbours wsX4_markOfNeighbours (rmW 2 0 0 42) D (TYS cB cI cZ cM) [.ref xa, .int (zI p)] [(xa, .inr (4, [.ref ta, .ref ga, .ref ma, .ref im, .ref pa, .ref qpa, .long tr])), (pa, .inr (1, [.ref sa, .int (zI P), .int (zI TH), .ref ba, .int (zI B), .int (zI ra), .int (zI su), .int (zI vw), .int (zI no), .int (zI dn), .int (zI ha)])), (sa, .inl (cI, 4, .inl (zia so))), (ba, .inl (cI, 2, .inl (zia bm))), (ma, .inr (0, [.int (zI hm), .int (zI dy), .int (zI ac), .int (zI lk), .int (zI cl), .int (zI li), .int (zI da), .int (zI kp)]))] Hp (fun (r : Int32) (_u : Unit) => r = zI (pl hm p - p)) (fun (_u : Unit) => [(xa, .inr (4, [.ref ta, .ref ga, .ref ma, .ref im, .ref pa, .ref qpa, .long (tr + 100000 + 1)])), (pa, .inr (1, [.ref sa, .int (zI P), .int (zI TH), .ref ba, .int (zI B), .int (zI ra), .int (zI su), .int (zI vw), .int (zI no), .int (zI dn), .int (zI ha)])), (sa, .inl (cI, 4, .inl (zia so))), (ba, .inl (cI, 2, .inl (zia bm))), (ma, .inr (0, [.int (zI hm), .int (zI dy), .int (zI ac), .int (zI lk), .int (zI cl), .int (zI li), .int (zI da), .int (zI kp)]))]) 0 0 := by
  refine wr_starti (by decide) rfl (Nat.le_of_ble_eq_true rfl) ?_
  intro pg ev sx mm args below meth cd ls A M hP hD hS hA hK hl
  obtain ⟨hx, hb, hr, hml, hown, hts, hlk, hN0⟩ := id M
  have hl : lv_has ls 2 [(0, .ref xa), (1, .int (zI p))] := hl
  refine W.widen (k := 0) (n := 0) (Nat.zero_le _) (Nat.zero_le _) ?_
  obtain ⟨hP4, hTH, hB2, hra, hsu, hvw, hno, hdn, hha, hso, hbm⟩ := id hok
  obtain ⟨hhm, hdy, hac, hlk, hcl, hli, hda, hkp⟩ := id hmo
  refine lv_aload_n hx hb dX4_markOfNeighbours_0 rfl (lv_at hl 0 rfl) ?_
  refine lv_dup hx hb dX4_markOfNeighbours_1 rfl ?_
  refine va_get (D := D) (ci := 4) (C := RX4) (T := TX4) (N := 7) hx hb hts inc_X4_markOfNeighbours_4 hown hK hP 0 rfl rfl 6 (by decide) (hts (.fieldLink RX4 210 "BedHouse" "traced" "J") (by decide +kernel)) (fun _ h9 => h9) rfl dX4_markOfNeighbours_2 ?_
  refine lv_ldc2 hx hb hown (hts (.constantLong RX4 226 (100000)) (by decide +kernel)) dX4_markOfNeighbours_5 ?_
  refine lv_ladd hx hb dX4_markOfNeighbours_8 ?_
  refine va_put (D := D) (ci := 4) (v := .long (tr + 100000)) (ty := .long) (C := RX4) (T := TX4) (N := 7) hx hb hts inc_X4_markOfNeighbours_4 tyX4 tyX4_ok nmX4 hown hK hP hD hS 0 rfl rfl 6 (by decide) (hts (.fieldLink RX4 210 "BedHouse" "traced" "J") (by decide +kernel)) (fun _ h9 => h9) rfl (by decide +kernel) rfl rfl (Nat.le_of_ble_eq_true rfl) dX4_markOfNeighbours_9 (fun H locs hP hD hS => ?_)
  have hP : va_P D vwCl [(xa, .inr (4, [.ref ta, .ref ga, .ref ma, .ref im, .ref pa, .ref qpa, .long (tr + 100000)])), (pa, .inr (1, [.ref sa, .int (zI P), .int (zI TH), .ref ba, .int (zI B), .int (zI ra), .int (zI su), .int (zI vw), .int (zI no), .int (zI dn), .int (zI ha)])), (sa, .inl (cI, 4, .inl (zia so))), (ba, .inl (cI, 2, .inl (zia bm))), (ma, .inr (0, [.int (zI hm), .int (zI dy), .int (zI ac), .int (zI lk), .int (zI cl), .int (zI li), .int (zI da), .int (zI kp)]))] H := hP
  have hD : va_D A [(xa, .inr (4, [.ref ta, .ref ga, .ref ma, .ref im, .ref pa, .ref qpa, .long (tr + 100000)])), (pa, .inr (1, [.ref sa, .int (zI P), .int (zI TH), .ref ba, .int (zI B), .int (zI ra), .int (zI su), .int (zI vw), .int (zI no), .int (zI dn), .int (zI ha)])), (sa, .inl (cI, 4, .inl (zia so))), (ba, .inl (cI, 2, .inl (zia bm))), (ma, .inr (0, [.int (zI hm), .int (zI dy), .int (zI ac), .int (zI lk), .int (zI cl), .int (zI li), .int (zI da), .int (zI kp)]))] := hD
  refine lv_aload_n hx hb dX4_markOfNeighbours_12 rfl (lv_at hl 0 rfl) ?_
  refine lv_iload_n hx hb dX4_markOfNeighbours_13 rfl (lv_at hl 1 rfl) ?_
  refine wc_Vi (As := [.int (zI p)]) (rest := []) (wr := []) (ws' := (fun _u : Unit => [(xa, .inr (4, [.ref ta, .ref ga, .ref ma, .ref im, .ref pa, .ref qpa, .long ((tr + 100000) + 1)])), (pa, .inr (1, [.ref sa, .int (zI P), .int (zI TH), .ref ba, .int (zI B), .int (zI ra), .int (zI su), .int (zI vw), .int (zI no), .int (zI dn), .int (zI ha)])), (sa, .inl (cI, 4, .inl (zia so))), (ba, .inl (cI, 2, .inl (zia bm))), (ma, .inr (0, [.int (zI hm), .int (zI dy), .int (zI ac), .int (zI lk), .int (zI cl), .int (zI li), .int (zI da), .int (zI kp)]))])) M (c_X4_markOfPanel l D cB cI cZ cM _ xa ta ga ma im pa qpa (tr + 100000) sa ba so bm P TH B ra su vw no dn ha hm dy ac lk cl li da kp p (by first | assumption | omega) (by first | assumption | omega) (by first | assumption | omega)) gX4_markOfNeighbours_X4_markOfPanel rfl ⟨rfl, hd_X4_markOfPanel⟩ ⟨Nat.le_of_ble_eq_true rfl, Nat.le_of_ble_eq_true rfl⟩ hK hP hD hS hA [0, 1, 2, 3, 4] [] [0, 1, 2, 3, 4] rfl rfl (by decide) (by decide) (by decide) (fun _ => rfl) 0 4 rfl rfl rfl hl.1 rfl rfl (Nat.le_of_ble_eq_true rfl) dX4_markOfNeighbours_14 ⟨Nat.le_of_ble_eq_true rfl, Nat.le_of_ble_eq_true rfl⟩ (by decide) (fun r_14 _u H locs h_14 hP hD hS => ?_)
  subst h_14
  refine lv_iload_n hx hb dX4_markOfNeighbours_17 rfl (lv_at hl 1 rfl) ?_
  refine z_isub hx hb dX4_markOfNeighbours_18 ?_
  exact wr_reti M dX4_markOfNeighbours_19 (u := ()) (congrArg zI (by rfl)) hP hD hS
set_option maxHeartbeats 4000000 in
set_option maxRecDepth 100000 in
theorem c_X4_mark (l : Launch) (D : va_G) (cB cI cZ cM : ClassId) (Hp : Heap) (xa : Nat) (ta : Nat) (ga : Nat) (ma : Nat) (im : Nat) (pa : Nat) (qpa : Nat) (tr : Int64) (sa : Nat) (ba : Nat) (so : Int → Int) (bm : Int → Int) (P : Int) (TH : Int) (B : Int) (ra : Int) (su : Int) (vw : Int) (no : Int) (dn : Int) (ha : Int) (hm : Int) (dy : Int) (ac : Int) (lk : Int) (cl : Int) (li : Int) (da : Int) (kp : Int) (kd : Int) (p : Int) (hok : okP so bm P TH B ra su vw no dn ha) (hmo : okM hm dy ac lk cl li da kp) (hkd0 : -2147483648 ≤ kd ∧ kd < 2147483648) (hp0 : -2147483648 ≤ p ∧ p < 2147483648) : cWi l yX4_mark wsX4_mark (rmW 4 0 0 84) D (TYS cB cI cZ cM) [.ref xa, .int (zI kd), .int (zI p)] [(xa, .inr (4, [.ref ta, .ref ga, .ref ma, .ref im, .ref pa, .ref qpa, .long tr])), (pa, .inr (1, [.ref sa, .int (zI P), .int (zI TH), .ref ba, .int (zI B), .int (zI ra), .int (zI su), .int (zI vw), .int (zI no), .int (zI dn), .int (zI ha)])), (sa, .inl (cI, 4, .inl (zia so))), (ba, .inl (cI, 2, .inl (zia bm))), (ma, .inr (0, [.int (zI hm), .int (zI dy), .int (zI ac), .int (zI lk), .int (zI cl), .int (zI li), .int (zI da), .int (zI kp)]))] Hp (fun (r : Int32) (u : Int64) => r = zI ((mkA hm dy P so kd p tr).1) ∧ (u = (mkA hm dy P so kd p tr).2)) (fun (u : Int64) => [(xa, .inr (4, [.ref ta, .ref ga, .ref ma, .ref im, .ref pa, .ref qpa, .long u])), (pa, .inr (1, [.ref sa, .int (zI P), .int (zI TH), .ref ba, .int (zI B), .int (zI ra), .int (zI su), .int (zI vw), .int (zI no), .int (zI dn), .int (zI ha)])), (sa, .inl (cI, 4, .inl (zia so))), (ba, .inl (cI, 2, .inl (zia bm))), (ma, .inr (0, [.int (zI hm), .int (zI dy), .int (zI ac), .int (zI lk), .int (zI cl), .int (zI li), .int (zI da), .int (zI kp)]))]) 0 0 := by
  refine wr_starti (by decide) rfl (Nat.le_of_ble_eq_true rfl) ?_
  intro pg ev sx mm args below meth cd ls A M hP hD hS hA hK hl
  obtain ⟨hx, hb, hr, hml, hown, hts, hlk, hN0⟩ := id M
  have hl : lv_has ls 3 [(0, .ref xa), (1, .int (zI kd)), (2, .int (zI p))] := hl
  refine W.widen (k := 0) (n := 0) (Nat.zero_le _) (Nat.zero_le _) ?_
  obtain ⟨hP4, hTH, hB2, hra, hsu, hvw, hno, hdn, hha, hso, hbm⟩ := id hok
  obtain ⟨hhm, hdy, hac, hlk, hcl, hli, hda, hkp⟩ := id hmo
  refine lv_aload_n hx hb dX4_mark_0 rfl (lv_at hl 0 rfl) ?_
  refine va_get (D := D) (ci := 4) (C := RX4) (T := TX4) (N := 7) hx hb hts inc_X4_mark_4 hown hK hP 0 rfl rfl 4 (by decide) (hts (.fieldLink RX4 37 "BedHouse" "plan" "LBedHouse$Plan;") (by decide +kernel)) (fun _ h9 => h9) rfl dX4_mark_1 ?_
  refine lv_iload_n hx hb dX4_mark_4 rfl (lv_at hl 2 rfl) ?_
  refine pc_VN (As := [.int (zI p)]) (rest := []) M (c_X1_hasPanel l D cB cI cZ cM _ pa sa ba so bm P TH B ra su vw no dn ha p (by first | assumption | omega) (by first | assumption | omega)) gX4_mark_X1_hasPanel_n69 rfl (NW.at hN0 49 rfl) (by decide +kernel) (by decide +kernel) (by decide +kernel) hd_X1_hasPanel ⟨Nat.le_of_ble_eq_true rfl, Nat.le_of_ble_eq_true rfl⟩ hK hP [1, 2, 3] rfl 1 1 rfl rfl rfl hl.1 rfl rfl (Nat.le_of_ble_eq_true rfl) dX4_mark_5 ⟨Nat.le_of_ble_eq_true rfl, Nat.le_of_ble_eq_true rfl⟩ (fun r_5 h_5 => ?_)
  subst h_5
  refine z_if_ne (tgt := 14) hx hb dX4_mark_8 (by decide) (zb_bd _) (fun c_8 => ?_) (fun c_8 => ?_)
  · skip
    have c_8 := zb_t c_8
    refine lv_iload_n hx hb dX4_mark_14 rfl (lv_at hl 1 rfl) ?_
    by_cases c_15_0 : kd = 0
    · skip
      refine lv_tableIn (tgt := 52) hx hb dX4_mark_15 (by rw [zI_toInt (by omega)]; omega) (by rw [zI_toInt (by omega)]; omega) (by rw [zI_toInt (by omega), c_15_0]; rfl) (by decide) ?_
      refine lv_aload_n hx hb dX4_mark_52 rfl (lv_at hl 0 rfl) ?_
      refine lv_iload_n hx hb dX4_mark_53 rfl (lv_at hl 2 rfl) ?_
      refine wc_Vi (As := [.int (zI p)]) (rest := []) (wr := []) (ws' := (fun _u : Unit => [(xa, .inr (4, [.ref ta, .ref ga, .ref ma, .ref im, .ref pa, .ref qpa, .long (tr + 1)])), (pa, .inr (1, [.ref sa, .int (zI P), .int (zI TH), .ref ba, .int (zI B), .int (zI ra), .int (zI su), .int (zI vw), .int (zI no), .int (zI dn), .int (zI ha)])), (sa, .inl (cI, 4, .inl (zia so))), (ba, .inl (cI, 2, .inl (zia bm))), (ma, .inr (0, [.int (zI hm), .int (zI dy), .int (zI ac), .int (zI lk), .int (zI cl), .int (zI li), .int (zI da), .int (zI kp)]))])) M (c_X4_markOfPanel l D cB cI cZ cM _ xa ta ga ma im pa qpa tr sa ba so bm P TH B ra su vw no dn ha hm dy ac lk cl li da kp p (by first | assumption | omega) (by first | assumption | omega) (by first | assumption | omega)) gX4_mark_X4_markOfPanel rfl ⟨rfl, hd_X4_markOfPanel⟩ ⟨Nat.le_of_ble_eq_true rfl, Nat.le_of_ble_eq_true rfl⟩ hK hP hD hS hA [0, 1, 2, 3, 4] [] [0, 1, 2, 3, 4] rfl rfl (by decide) (by decide) (by decide) (fun _ => rfl) 0 4 rfl rfl rfl hl.1 rfl rfl (Nat.le_of_ble_eq_true rfl) dX4_mark_54 ⟨Nat.le_of_ble_eq_true rfl, Nat.le_of_ble_eq_true rfl⟩ (by decide) (fun r_54 _u H locs h_54 hP hD hS => ?_)
      subst h_54
      have hit : mkA hm dy P so kd p tr = (pl hm p, tr + 1) := by unfold mkA; rw [if_pos c_8, if_pos c_15_0]
      exact wr_reti M dX4_mark_57 (u := tr + 1) ⟨(congrArg zI (by rw [hit])), (by rw [hit])⟩ hP hD hS
    by_cases c_15_1 : kd = 1
    · skip
      refine lv_tableIn (tgt := 58) hx hb dX4_mark_15 (by rw [zI_toInt (by omega)]; omega) (by rw [zI_toInt (by omega)]; omega) (by rw [zI_toInt (by omega), c_15_1]; rfl) (by decide) ?_
      refine lv_aload_n hx hb dX4_mark_58 rfl (lv_at hl 0 rfl) ?_
      refine lv_iload_n hx hb dX4_mark_59 rfl (lv_at hl 2 rfl) ?_
      refine wc_Vi (As := [.int (zI p)]) (rest := []) (wr := []) (ws' := (fun _u : Unit => [(xa, .inr (4, [.ref ta, .ref ga, .ref ma, .ref im, .ref pa, .ref qpa, .long (tr + 10 + 1)])), (pa, .inr (1, [.ref sa, .int (zI P), .int (zI TH), .ref ba, .int (zI B), .int (zI ra), .int (zI su), .int (zI vw), .int (zI no), .int (zI dn), .int (zI ha)])), (sa, .inl (cI, 4, .inl (zia so))), (ba, .inl (cI, 2, .inl (zia bm))), (ma, .inr (0, [.int (zI hm), .int (zI dy), .int (zI ac), .int (zI lk), .int (zI cl), .int (zI li), .int (zI da), .int (zI kp)]))])) M (c_X4_markOfBearing l D cB cI cZ cM _ xa ta ga ma im pa qpa tr sa ba so bm P TH B ra su vw no dn ha hm dy ac lk cl li da kp p (by first | assumption | omega) (by first | assumption | omega) (by first | assumption | omega)) gX4_mark_X4_markOfBearing rfl ⟨rfl, hd_X4_markOfBearing⟩ ⟨Nat.le_of_ble_eq_true rfl, Nat.le_of_ble_eq_true rfl⟩ hK hP hD hS hA [0, 1, 2, 3, 4] [] [0, 1, 2, 3, 4] rfl rfl (by decide) (by decide) (by decide) (fun _ => rfl) 0 4 rfl rfl rfl hl.1 rfl rfl (Nat.le_of_ble_eq_true rfl) dX4_mark_60 ⟨Nat.le_of_ble_eq_true rfl, Nat.le_of_ble_eq_true rfl⟩ (by decide) (fun r_60 _u H locs h_60 hP hD hS => ?_)
      subst h_60
      have hit : mkA hm dy P so kd p tr = (pl hm p * 2, tr + 10 + 1) := by unfold mkA; rw [if_pos c_8, if_neg c_15_0, if_pos c_15_1]
      exact wr_reti M dX4_mark_63 (u := tr + 10 + 1) ⟨(congrArg zI (by rw [hit])), (by rw [hit])⟩ hP hD hS
    by_cases c_15_2 : kd = 2
    · skip
      refine lv_tableIn (tgt := 64) hx hb dX4_mark_15 (by rw [zI_toInt (by omega)]; omega) (by rw [zI_toInt (by omega)]; omega) (by rw [zI_toInt (by omega), c_15_2]; rfl) (by decide) ?_
      refine lv_aload_n hx hb dX4_mark_64 rfl (lv_at hl 0 rfl) ?_
      refine lv_iload_n hx hb dX4_mark_65 rfl (lv_at hl 2 rfl) ?_
      refine wc_Vi (As := [.int (zI p)]) (rest := []) (wr := []) (ws' := (fun _u : Unit => [(xa, .inr (4, [.ref ta, .ref ga, .ref ma, .ref im, .ref pa, .ref qpa, .long (tr + 100 + 1)])), (pa, .inr (1, [.ref sa, .int (zI P), .int (zI TH), .ref ba, .int (zI B), .int (zI ra), .int (zI su), .int (zI vw), .int (zI no), .int (zI dn), .int (zI ha)])), (sa, .inl (cI, 4, .inl (zia so))), (ba, .inl (cI, 2, .inl (zia bm))), (ma, .inr (0, [.int (zI hm), .int (zI dy), .int (zI ac), .int (zI lk), .int (zI cl), .int (zI li), .int (zI da), .int (zI kp)]))])) M (c_X4_markOfLight l D cB cI cZ cM _ xa ta ga ma im pa qpa tr sa ba so bm P TH B ra su vw no dn ha hm dy ac lk cl li da kp p (by first | assumption | omega) (by first | assumption | omega) (by first | assumption | omega)) gX4_mark_X4_markOfLight rfl ⟨rfl, hd_X4_markOfLight⟩ ⟨Nat.le_of_ble_eq_true rfl, Nat.le_of_ble_eq_true rfl⟩ hK hP hD hS hA [0, 1, 2, 3, 4] [] [0, 1, 2, 3, 4] rfl rfl (by decide) (by decide) (by decide) (fun _ => rfl) 0 4 rfl rfl rfl hl.1 rfl rfl (Nat.le_of_ble_eq_true rfl) dX4_mark_66 ⟨Nat.le_of_ble_eq_true rfl, Nat.le_of_ble_eq_true rfl⟩ (by decide) (fun r_66 _u H locs h_66 hP hD hS => ?_)
      subst h_66
      have hit : mkA hm dy P so kd p tr = (pl hm p + (if 0 ≤ p ∧ p < P then so p else -9), tr + 100 + 1) := by unfold mkA; rw [if_pos c_8, if_neg c_15_0, if_neg c_15_1, if_pos c_15_2]
      exact wr_reti M dX4_mark_69 (u := tr + 100 + 1) ⟨(congrArg zI (by rw [hit])), (by rw [hit])⟩ hP hD hS
    by_cases c_15_3 : kd = 3
    · skip
      refine lv_tableIn (tgt := 70) hx hb dX4_mark_15 (by rw [zI_toInt (by omega)]; omega) (by rw [zI_toInt (by omega)]; omega) (by rw [zI_toInt (by omega), c_15_3]; rfl) (by decide) ?_
      refine lv_aload_n hx hb dX4_mark_70 rfl (lv_at hl 0 rfl) ?_
      refine lv_iload_n hx hb dX4_mark_71 rfl (lv_at hl 2 rfl) ?_
      refine wc_Vi (As := [.int (zI p)]) (rest := []) (wr := []) (ws' := (fun _u : Unit => [(xa, .inr (4, [.ref ta, .ref ga, .ref ma, .ref im, .ref pa, .ref qpa, .long (tr + 1000 + 10 + 1)])), (pa, .inr (1, [.ref sa, .int (zI P), .int (zI TH), .ref ba, .int (zI B), .int (zI ra), .int (zI su), .int (zI vw), .int (zI no), .int (zI dn), .int (zI ha)])), (sa, .inl (cI, 4, .inl (zia so))), (ba, .inl (cI, 2, .inl (zia bm))), (ma, .inr (0, [.int (zI hm), .int (zI dy), .int (zI ac), .int (zI lk), .int (zI cl), .int (zI li), .int (zI da), .int (zI kp)]))])) M (c_X4_markOfOld l D cB cI cZ cM _ xa ta ga ma im pa qpa tr sa ba so bm P TH B ra su vw no dn ha hm dy ac lk cl li da kp p (by first | assumption | omega) (by first | assumption | omega) (by first | assumption | omega)) gX4_mark_X4_markOfOld rfl ⟨rfl, hd_X4_markOfOld⟩ ⟨Nat.le_of_ble_eq_true rfl, Nat.le_of_ble_eq_true rfl⟩ hK hP hD hS hA [0, 1, 2, 3, 4] [] [0, 1, 2, 3, 4] rfl rfl (by decide) (by decide) (by decide) (fun _ => rfl) 0 4 rfl rfl rfl hl.1 rfl rfl (Nat.le_of_ble_eq_true rfl) dX4_mark_72 ⟨Nat.le_of_ble_eq_true rfl, Nat.le_of_ble_eq_true rfl⟩ (by decide) (fun r_72 _u H locs h_72 hP hD hS => ?_)
      subst h_72
      have hit : mkA hm dy P so kd p tr = (pl hm p * 2 + dy, tr + 1000 + 10 + 1) := by unfold mkA; rw [if_pos c_8, if_neg c_15_0, if_neg c_15_1, if_neg c_15_2, if_pos c_15_3]
      exact wr_reti M dX4_mark_75 (u := tr + 1000 + 10 + 1) ⟨(congrArg zI (by rw [hit])), (by rw [hit])⟩ hP hD hS
    by_cases c_15_4 : kd = 4
    · skip
      refine lv_tableIn (tgt := 76) hx hb dX4_mark_15 (by rw [zI_toInt (by omega)]; omega) (by rw [zI_toInt (by omega)]; omega) (by rw [zI_toInt (by omega), c_15_4]; rfl) (by decide) ?_
      refine lv_aload_n hx hb dX4_mark_76 rfl (lv_at hl 0 rfl) ?_
      refine lv_iload_n hx hb dX4_mark_77 rfl (lv_at hl 2 rfl) ?_
      refine wc_Vi (As := [.int (zI p)]) (rest := []) (wr := []) (ws' := (fun _u : Unit => [(xa, .inr (4, [.ref ta, .ref ga, .ref ma, .ref im, .ref pa, .ref qpa, .long (tr + 10000 + 100 + 1)])), (pa, .inr (1, [.ref sa, .int (zI P), .int (zI TH), .ref ba, .int (zI B), .int (zI ra), .int (zI su), .int (zI vw), .int (zI no), .int (zI dn), .int (zI ha)])), (sa, .inl (cI, 4, .inl (zia so))), (ba, .inl (cI, 2, .inl (zia bm))), (ma, .inr (0, [.int (zI hm), .int (zI dy), .int (zI ac), .int (zI lk), .int (zI cl), .int (zI li), .int (zI da), .int (zI kp)]))])) M (c_X4_markOfClear l D cB cI cZ cM _ xa ta ga ma im pa qpa tr sa ba so bm P TH B ra su vw no dn ha hm dy ac lk cl li da kp p (by first | assumption | omega) (by first | assumption | omega) (by first | assumption | omega)) gX4_mark_X4_markOfClear rfl ⟨rfl, hd_X4_markOfClear⟩ ⟨Nat.le_of_ble_eq_true rfl, Nat.le_of_ble_eq_true rfl⟩ hK hP hD hS hA [0, 1, 2, 3, 4] [] [0, 1, 2, 3, 4] rfl rfl (by decide) (by decide) (by decide) (fun _ => rfl) 0 4 rfl rfl rfl hl.1 rfl rfl (Nat.le_of_ble_eq_true rfl) dX4_mark_78 ⟨Nat.le_of_ble_eq_true rfl, Nat.le_of_ble_eq_true rfl⟩ (by decide) (fun r_78 _u H locs h_78 hP hD hS => ?_)
      subst h_78
      have hit : mkA hm dy P so kd p tr = (pl hm p + (if 0 ≤ p ∧ p < P then so p else -9) + lyC (pl hm) P.toNat 0, tr + 10000 + 100 + 1) := by unfold mkA; rw [if_pos c_8, if_neg c_15_0, if_neg c_15_1, if_neg c_15_2, if_neg c_15_3, if_pos c_15_4]
      exact wr_reti M dX4_mark_81 (u := tr + 10000 + 100 + 1) ⟨(congrArg zI (by rw [hit])), (by rw [hit])⟩ hP hD hS
    by_cases c_15_5 : kd = 5
    · skip
      refine lv_tableIn (tgt := 82) hx hb dX4_mark_15 (by rw [zI_toInt (by omega)]; omega) (by rw [zI_toInt (by omega)]; omega) (by rw [zI_toInt (by omega), c_15_5]; rfl) (by decide) ?_
      refine lv_aload_n hx hb dX4_mark_82 rfl (lv_at hl 0 rfl) ?_
      refine lv_iload_n hx hb dX4_mark_83 rfl (lv_at hl 2 rfl) ?_
      refine wc_Vi (As := [.int (zI p)]) (rest := []) (wr := []) (ws' := (fun _u : Unit => [(xa, .inr (4, [.ref ta, .ref ga, .ref ma, .ref im, .ref pa, .ref qpa, .long (tr + 100000 + 1)])), (pa, .inr (1, [.ref sa, .int (zI P), .int (zI TH), .ref ba, .int (zI B), .int (zI ra), .int (zI su), .int (zI vw), .int (zI no), .int (zI dn), .int (zI ha)])), (sa, .inl (cI, 4, .inl (zia so))), (ba, .inl (cI, 2, .inl (zia bm))), (ma, .inr (0, [.int (zI hm), .int (zI dy), .int (zI ac), .int (zI lk), .int (zI cl), .int (zI li), .int (zI da), .int (zI kp)]))])) M (c_X4_markOfNeighbours l D cB cI cZ cM _ xa ta ga ma im pa qpa tr sa ba so bm P TH B ra su vw no dn ha hm dy ac lk cl li da kp p (by first | assumption | omega) (by first | assumption | omega) (by first | assumption | omega)) gX4_mark_X4_markOfNeighbours rfl ⟨rfl, hd_X4_markOfNeighbours⟩ ⟨Nat.le_of_ble_eq_true rfl, Nat.le_of_ble_eq_true rfl⟩ hK hP hD hS hA [0, 1, 2, 3, 4] [] [0, 1, 2, 3, 4] rfl rfl (by decide) (by decide) (by decide) (fun _ => rfl) 0 4 rfl rfl rfl hl.1 rfl rfl (Nat.le_of_ble_eq_true rfl) dX4_mark_84 ⟨Nat.le_of_ble_eq_true rfl, Nat.le_of_ble_eq_true rfl⟩ (by decide) (fun r_84 _u H locs h_84 hP hD hS => ?_)
      subst h_84
      have hit : mkA hm dy P so kd p tr = (pl hm p - p, tr + 100000 + 1) := by unfold mkA; rw [if_pos c_8, if_neg c_15_0, if_neg c_15_1, if_neg c_15_2, if_neg c_15_3, if_neg c_15_4, if_pos c_15_5]
      exact wr_reti M dX4_mark_87 (u := tr + 100000 + 1) ⟨(congrArg zI (by rw [hit])), (by rw [hit])⟩ hP hD hS
    refine lv_tableOut (tgt := 88) hx hb dX4_mark_15 (by rw [zI_toInt (by omega)]; omega) (by decide) ?_
    refine lv_ldc hx hb hown (hts (.constant RX4 140 (-1000000)) (by decide +kernel)) dX4_mark_88 ?_
    refine z_top (y := zI (-1000000)) (by decide) ?_
    have hit : mkA hm dy P so kd p tr = (-1000000, tr) := by unfold mkA; rw [if_pos c_8, if_neg c_15_0, if_neg c_15_1, if_neg c_15_2, if_neg c_15_3, if_neg c_15_4, if_neg c_15_5]
    exact wr_reti M dX4_mark_90 (u := tr) ⟨(congrArg zI (by rw [hit])), (by rw [hit])⟩ hP hD hS
  have c_8 := zb_f c_8
  refine lv_ldc hx hb hown (hts (.constant RX4 140 (-1000000)) (by decide +kernel)) dX4_mark_11 ?_
  refine z_top (y := zI (-1000000)) (by decide) ?_
  have hit : mkA hm dy P so kd p tr = (-1000000, tr) := by unfold mkA; rw [if_neg c_8]
  exact wr_reti M dX4_mark_13 (u := tr) ⟨(congrArg zI (by rw [hit])), (by rw [hit])⟩ hP hD hS
set_option maxHeartbeats 4000000 in
set_option maxRecDepth 100000 in
theorem c_X4_keep (l : Launch) (D : va_G) (cB cI cZ cM : ClassId) (Hp : Heap) (xa : Nat) (ta : Nat) (ga : Nat) (ma : Nat) (im : Nat) (pa : Nat) (qpa : Nat) (tr : Int64) (hm : Int) (dy : Int) (ac : Int) (lk : Int) (cl : Int) (li : Int) (da : Int) (kp : Int) (bma : Nat) (bhm : Int) (bdy : Int) (bac : Int) (blk : Int) (bcl : Int) (bli : Int) (bda : Int) (bkp : Int) (cma : Nat) (chm : Int) (cdy : Int) (cac : Int) (clk : Int) (ccl : Int) (cli : Int) (cda : Int) (ckp : Int) (g : Int) (hg0 : -2147483648 ≤ g ∧ g < 2147483648) : cWi l yX4_keep wsX4_keep (rmW 1 0 0 21) D (TYS cB cI cZ cM) [.ref xa, .int (zI g)] [(xa, .inr (4, [.ref ta, .ref ga, .ref ma, .ref im, .ref pa, .ref qpa, .long tr])), (ma, .inr (0, [.int (zI hm), .int (zI dy), .int (zI ac), .int (zI lk), .int (zI cl), .int (zI li), .int (zI da), .int (zI kp)])), (im, .inl (cM, 2, .inr (.inr (.inr (.inr (imF bma cma)))))), (bma, .inr (0, [.int (zI bhm), .int (zI bdy), .int (zI bac), .int (zI blk), .int (zI bcl), .int (zI bli), .int (zI bda), .int (zI bkp)])), (cma, .inr (0, [.int (zI chm), .int (zI cdy), .int (zI cac), .int (zI clk), .int (zI ccl), .int (zI cli), .int (zI cda), .int (zI ckp)]))] Hp (fun (r : Int32) (u : (Int × Int × Int × Int × Int × Int × Int × Int) × (Int × Int × Int × Int × Int × Int × Int × Int)) => r = zI (if 0 ≤ g ∧ g < 2 then dy else -1) ∧ (u = (if 0 ≤ g ∧ g < 2 then (if g = 0 then ((hm, dy, ac, lk, cl, li, da, 1), (chm, cdy, cac, clk, ccl, cli, cda, ckp)) else ((bhm, bdy, bac, blk, bcl, bli, bda, bkp), (hm, dy, ac, lk, cl, li, da, 1))) else ((bhm, bdy, bac, blk, bcl, bli, bda, bkp), (chm, cdy, cac, clk, ccl, cli, cda, ckp))))) (fun (u : (Int × Int × Int × Int × Int × Int × Int × Int) × (Int × Int × Int × Int × Int × Int × Int × Int)) => [(xa, .inr (4, [.ref ta, .ref ga, .ref ma, .ref im, .ref pa, .ref qpa, .long tr])), (ma, .inr (0, [.int (zI hm), .int (zI dy), .int (zI ac), .int (zI lk), .int (zI cl), .int (zI li), .int (zI da), .int (zI kp)])), (im, .inl (cM, 2, .inr (.inr (.inr (.inr (imF bma cma)))))), (bma, .inr (0, [.int (zI u.1.1), .int (zI u.1.2.1), .int (zI u.1.2.2.1), .int (zI u.1.2.2.2.1), .int (zI u.1.2.2.2.2.1), .int (zI u.1.2.2.2.2.2.1), .int (zI u.1.2.2.2.2.2.2.1), .int (zI u.1.2.2.2.2.2.2.2)])), (cma, .inr (0, [.int (zI u.2.1), .int (zI u.2.2.1), .int (zI u.2.2.2.1), .int (zI u.2.2.2.2.1), .int (zI u.2.2.2.2.2.1), .int (zI u.2.2.2.2.2.2.1), .int (zI u.2.2.2.2.2.2.2.1), .int (zI u.2.2.2.2.2.2.2.2)]))]) 0 0 := by
  refine wr_starti (by decide) rfl (Nat.le_of_ble_eq_true rfl) ?_
  intro pg ev sx mm args below meth cd ls A M hP hD hS hA hK hl
  obtain ⟨hx, hb, hr, hml, hown, hts, hlk, hN0⟩ := id M
  have hl : lv_has ls 2 [(0, .ref xa), (1, .int (zI g))] := hl
  refine W.widen (k := 0) (n := 0) (Nat.zero_le _) (Nat.zero_le _) ?_
  refine lv_aload_n hx hb dX4_keep_0 rfl (lv_at hl 0 rfl) ?_
  refine lv_iload_n hx hb dX4_keep_1 rfl (lv_at hl 1 rfl) ?_
  refine pc_V (As := [.int (zI g)]) (rest := []) M (c_X4_isImage l D cB cI cZ cM _ xa ta ga ma im pa qpa tr bma cma g (by first | assumption | omega)) gX4_keep_X4_isImage rfl ⟨rfl, hd_X4_isImage⟩ ⟨Nat.le_of_ble_eq_true rfl, Nat.le_of_ble_eq_true rfl⟩ hK hP [0, 2] rfl 0 4 rfl rfl rfl hl.1 rfl rfl (Nat.le_of_ble_eq_true rfl) dX4_keep_2 ⟨Nat.le_of_ble_eq_true rfl, Nat.le_of_ble_eq_true rfl⟩ (fun r_2 h_2 => ?_)
  subst h_2
  refine z_if_ne (tgt := 10) hx hb dX4_keep_5 (by decide) (zb_bd _) (fun c_5 => ?_) (fun c_5 => ?_)
  · skip
    have c_5 := zb_t c_5
    refine lv_aload_n hx hb dX4_keep_10 rfl (lv_at hl 0 rfl) ?_
    refine va_get (D := D) (ci := 4) (C := RX4) (T := TX4) (N := 7) hx hb hts inc_X4_keep_4 hown hK hP 0 rfl rfl 3 (by decide) (hts (.fieldLink RX4 30 "BedHouse" "images" "[LBedHouse$Moment;") (by decide +kernel)) (fun _ h9 => h9) rfl dX4_keep_11 ?_
    refine lv_iload_n hx hb dX4_keep_14 rfl (lv_at hl 1 rfl) ?_
    rcases (show g = 0 ∨ g = 1 by omega) with e_im0 | e_im1
    · skip
      refine z_aaldq hx hb hK hP 2 3 rfl rfl (Nat.le_of_ble_eq_true rfl) dX4_keep_15 (by omega) (v := bma) (by rw [e_im0]; rfl) ?_
      refine lv_aload_n hx hb dX4_keep_16 rfl (lv_at hl 0 rfl) ?_
      refine va_get (D := D) (ci := 4) (C := RX4) (T := TX4) (N := 7) hx hb hts inc_X4_keep_4 hown hK hP 0 rfl rfl 2 (by decide) (hts (.fieldLink RX4 26 "BedHouse" "present" "LBedHouse$Moment;") (by decide +kernel)) (fun _ h9 => h9) rfl dX4_keep_17 ?_
      refine wc_VNv (As := [.ref ma]) (rest := []) (wr := [(xa, .inr (4, [.ref ta, .ref ga, .ref ma, .ref im, .ref pa, .ref qpa, .long tr])), (im, .inl (cM, 2, .inr (.inr (.inr (.inr (imF bma cma)))))), (cma, .inr (0, [.int (zI chm), .int (zI cdy), .int (zI cac), .int (zI clk), .int (zI ccl), .int (zI cli), .int (zI cda), .int (zI ckp)]))]) (ws' := (fun _u : Unit => [(xa, .inr (4, [.ref ta, .ref ga, .ref ma, .ref im, .ref pa, .ref qpa, .long tr])), (ma, .inr (0, [.int (zI hm), .int (zI dy), .int (zI ac), .int (zI lk), .int (zI cl), .int (zI li), .int (zI da), .int (zI kp)])), (im, .inl (cM, 2, .inr (.inr (.inr (.inr (imF bma cma)))))), (bma, .inr (0, [.int (zI hm), .int (zI dy), .int (zI ac), .int (zI lk), .int (zI cl), .int (zI li), .int (zI da), .int (zI bkp)])), (cma, .inr (0, [.int (zI chm), .int (zI cdy), .int (zI cac), .int (zI clk), .int (zI ccl), .int (zI cli), .int (zI cda), .int (zI ckp)]))])) M (c_X0_copyFrom l D cB cI cZ cM _ bma bhm bdy bac blk bcl bli bda bkp ma hm dy ac lk cl li da kp ) gX4_keep_X0_copyFrom_n197 rfl (NW.at hN0 74 rfl) (by decide +kernel) (by decide +kernel) (by decide +kernel) hd_X0_copyFrom ⟨Nat.le_of_ble_eq_true rfl, Nat.le_of_ble_eq_true rfl⟩ hK hP hD hS hA [3, 1] [0, 2, 4] [0, 4, 1, 3, 2] rfl rfl (by decide) (by decide) (by decide) (fun _ => rfl) 3 0 rfl rfl rfl hl.1 rfl rfl (Nat.le_of_ble_eq_true rfl) dX4_keep_20 ⟨Nat.le_of_ble_eq_true rfl, Nat.le_of_ble_eq_true rfl⟩ (by decide) (fun _u H locs h_20 hP hD hS => ?_)
      refine lv_aload_n hx hb dX4_keep_23 rfl (lv_at hl 0 rfl) ?_
      refine va_get (D := D) (ci := 4) (C := RX4) (T := TX4) (N := 7) hx hb hts inc_X4_keep_4 hown hK hP 0 rfl rfl 3 (by decide) (hts (.fieldLink RX4 30 "BedHouse" "images" "[LBedHouse$Moment;") (by decide +kernel)) (fun _ h9 => h9) rfl dX4_keep_24 ?_
      refine lv_iload_n hx hb dX4_keep_27 rfl (lv_at hl 1 rfl) ?_
      refine z_aaldq hx hb hK hP 2 3 rfl rfl (Nat.le_of_ble_eq_true rfl) dX4_keep_28 (by omega) (v := bma) (by rw [e_im0]; rfl) ?_
      refine lv_iconst (v := zI 1) hx hb dX4_keep_29 rfl ?_
      refine va_putN (D := D) (ci := 0) (v := .int (zI 1)) (ty := .boolean) (C := RX0) (T := TX0) (N := 8) hx hb hts inc_X4_keep_0 tyX0 tyX0_ok nmX0 hown hK hP hD hS 3 rfl rfl 7 (by decide) ((NW.at hN0 14 rfl).use rfl) (fun _ h9 => h9) rfl (by decide +kernel) (rfl) (rfl) (Nat.le_of_ble_eq_true rfl) dX4_keep_30 (fun H locs hP hD hS => ?_)
      have hP : va_P D vwCl [(xa, .inr (4, [.ref ta, .ref ga, .ref ma, .ref im, .ref pa, .ref qpa, .long tr])), (ma, .inr (0, [.int (zI hm), .int (zI dy), .int (zI ac), .int (zI lk), .int (zI cl), .int (zI li), .int (zI da), .int (zI kp)])), (im, .inl (cM, 2, .inr (.inr (.inr (.inr (imF bma cma)))))), (bma, .inr (0, [.int (zI hm), .int (zI dy), .int (zI ac), .int (zI lk), .int (zI cl), .int (zI li), .int (zI da), .int (zI 1)])), (cma, .inr (0, [.int (zI chm), .int (zI cdy), .int (zI cac), .int (zI clk), .int (zI ccl), .int (zI cli), .int (zI cda), .int (zI ckp)]))] H := hP
      have hD : va_D A [(xa, .inr (4, [.ref ta, .ref ga, .ref ma, .ref im, .ref pa, .ref qpa, .long tr])), (ma, .inr (0, [.int (zI hm), .int (zI dy), .int (zI ac), .int (zI lk), .int (zI cl), .int (zI li), .int (zI da), .int (zI kp)])), (im, .inl (cM, 2, .inr (.inr (.inr (.inr (imF bma cma)))))), (bma, .inr (0, [.int (zI hm), .int (zI dy), .int (zI ac), .int (zI lk), .int (zI cl), .int (zI li), .int (zI da), .int (zI 1)])), (cma, .inr (0, [.int (zI chm), .int (zI cdy), .int (zI cac), .int (zI clk), .int (zI ccl), .int (zI cli), .int (zI cda), .int (zI ckp)]))] := hD
      refine lv_aload_n hx hb dX4_keep_33 rfl (lv_at hl 0 rfl) ?_
      refine va_get (D := D) (ci := 4) (C := RX4) (T := TX4) (N := 7) hx hb hts inc_X4_keep_4 hown hK hP 0 rfl rfl 2 (by decide) (hts (.fieldLink RX4 26 "BedHouse" "present" "LBedHouse$Moment;") (by decide +kernel)) (fun _ h9 => h9) rfl dX4_keep_34 ?_
      refine va_getN (D := D) (ci := 0) (C := RX0) (T := TX0) (N := 8) hx hb hts inc_X4_keep_0 hown hK hP 1 rfl rfl 1 (by decide) ((NW.at hN0 4 rfl).use rfl) (fun _ h9 => h9) rfl dX4_keep_37 ?_
      exact wr_reti M dX4_keep_40 (u := ((hm, dy, ac, lk, cl, li, da, 1), (chm, cdy, cac, clk, ccl, cli, cda, ckp))) ⟨(congrArg zI (by rw [if_pos c_5])), (by rw [if_pos c_5, if_pos e_im0])⟩ hP hD hS
    refine z_aaldq hx hb hK hP 2 3 rfl rfl (Nat.le_of_ble_eq_true rfl) dX4_keep_15 (by omega) (v := cma) (by rw [e_im1]; rfl) ?_
    refine lv_aload_n hx hb dX4_keep_16 rfl (lv_at hl 0 rfl) ?_
    refine va_get (D := D) (ci := 4) (C := RX4) (T := TX4) (N := 7) hx hb hts inc_X4_keep_4 hown hK hP 0 rfl rfl 2 (by decide) (hts (.fieldLink RX4 26 "BedHouse" "present" "LBedHouse$Moment;") (by decide +kernel)) (fun _ h9 => h9) rfl dX4_keep_17 ?_
    refine wc_VNv (As := [.ref ma]) (rest := []) (wr := [(xa, .inr (4, [.ref ta, .ref ga, .ref ma, .ref im, .ref pa, .ref qpa, .long tr])), (im, .inl (cM, 2, .inr (.inr (.inr (.inr (imF bma cma)))))), (bma, .inr (0, [.int (zI bhm), .int (zI bdy), .int (zI bac), .int (zI blk), .int (zI bcl), .int (zI bli), .int (zI bda), .int (zI bkp)]))]) (ws' := (fun _u : Unit => [(xa, .inr (4, [.ref ta, .ref ga, .ref ma, .ref im, .ref pa, .ref qpa, .long tr])), (ma, .inr (0, [.int (zI hm), .int (zI dy), .int (zI ac), .int (zI lk), .int (zI cl), .int (zI li), .int (zI da), .int (zI kp)])), (im, .inl (cM, 2, .inr (.inr (.inr (.inr (imF bma cma)))))), (bma, .inr (0, [.int (zI bhm), .int (zI bdy), .int (zI bac), .int (zI blk), .int (zI bcl), .int (zI bli), .int (zI bda), .int (zI bkp)])), (cma, .inr (0, [.int (zI hm), .int (zI dy), .int (zI ac), .int (zI lk), .int (zI cl), .int (zI li), .int (zI da), .int (zI ckp)]))])) M (c_X0_copyFrom l D cB cI cZ cM _ cma chm cdy cac clk ccl cli cda ckp ma hm dy ac lk cl li da kp ) gX4_keep_X0_copyFrom_n197 rfl (NW.at hN0 74 rfl) (by decide +kernel) (by decide +kernel) (by decide +kernel) hd_X0_copyFrom ⟨Nat.le_of_ble_eq_true rfl, Nat.le_of_ble_eq_true rfl⟩ hK hP hD hS hA [4, 1] [0, 2, 3] [0, 4, 1, 2, 3] rfl rfl (by decide) (by decide) (by decide) (fun _ => rfl) 4 0 rfl rfl rfl hl.1 rfl rfl (Nat.le_of_ble_eq_true rfl) dX4_keep_20 ⟨Nat.le_of_ble_eq_true rfl, Nat.le_of_ble_eq_true rfl⟩ (by decide) (fun _u H locs h_20 hP hD hS => ?_)
    refine lv_aload_n hx hb dX4_keep_23 rfl (lv_at hl 0 rfl) ?_
    refine va_get (D := D) (ci := 4) (C := RX4) (T := TX4) (N := 7) hx hb hts inc_X4_keep_4 hown hK hP 0 rfl rfl 3 (by decide) (hts (.fieldLink RX4 30 "BedHouse" "images" "[LBedHouse$Moment;") (by decide +kernel)) (fun _ h9 => h9) rfl dX4_keep_24 ?_
    refine lv_iload_n hx hb dX4_keep_27 rfl (lv_at hl 1 rfl) ?_
    refine z_aaldq hx hb hK hP 2 3 rfl rfl (Nat.le_of_ble_eq_true rfl) dX4_keep_28 (by omega) (v := cma) (by rw [e_im1]; rfl) ?_
    refine lv_iconst (v := zI 1) hx hb dX4_keep_29 rfl ?_
    refine va_putN (D := D) (ci := 0) (v := .int (zI 1)) (ty := .boolean) (C := RX0) (T := TX0) (N := 8) hx hb hts inc_X4_keep_0 tyX0 tyX0_ok nmX0 hown hK hP hD hS 4 rfl rfl 7 (by decide) ((NW.at hN0 14 rfl).use rfl) (fun _ h9 => h9) rfl (by decide +kernel) (rfl) (rfl) (Nat.le_of_ble_eq_true rfl) dX4_keep_30 (fun H locs hP hD hS => ?_)
    have hP : va_P D vwCl [(xa, .inr (4, [.ref ta, .ref ga, .ref ma, .ref im, .ref pa, .ref qpa, .long tr])), (ma, .inr (0, [.int (zI hm), .int (zI dy), .int (zI ac), .int (zI lk), .int (zI cl), .int (zI li), .int (zI da), .int (zI kp)])), (im, .inl (cM, 2, .inr (.inr (.inr (.inr (imF bma cma)))))), (bma, .inr (0, [.int (zI bhm), .int (zI bdy), .int (zI bac), .int (zI blk), .int (zI bcl), .int (zI bli), .int (zI bda), .int (zI bkp)])), (cma, .inr (0, [.int (zI hm), .int (zI dy), .int (zI ac), .int (zI lk), .int (zI cl), .int (zI li), .int (zI da), .int (zI 1)]))] H := hP
    have hD : va_D A [(xa, .inr (4, [.ref ta, .ref ga, .ref ma, .ref im, .ref pa, .ref qpa, .long tr])), (ma, .inr (0, [.int (zI hm), .int (zI dy), .int (zI ac), .int (zI lk), .int (zI cl), .int (zI li), .int (zI da), .int (zI kp)])), (im, .inl (cM, 2, .inr (.inr (.inr (.inr (imF bma cma)))))), (bma, .inr (0, [.int (zI bhm), .int (zI bdy), .int (zI bac), .int (zI blk), .int (zI bcl), .int (zI bli), .int (zI bda), .int (zI bkp)])), (cma, .inr (0, [.int (zI hm), .int (zI dy), .int (zI ac), .int (zI lk), .int (zI cl), .int (zI li), .int (zI da), .int (zI 1)]))] := hD
    refine lv_aload_n hx hb dX4_keep_33 rfl (lv_at hl 0 rfl) ?_
    refine va_get (D := D) (ci := 4) (C := RX4) (T := TX4) (N := 7) hx hb hts inc_X4_keep_4 hown hK hP 0 rfl rfl 2 (by decide) (hts (.fieldLink RX4 26 "BedHouse" "present" "LBedHouse$Moment;") (by decide +kernel)) (fun _ h9 => h9) rfl dX4_keep_34 ?_
    refine va_getN (D := D) (ci := 0) (C := RX0) (T := TX0) (N := 8) hx hb hts inc_X4_keep_0 hown hK hP 1 rfl rfl 1 (by decide) ((NW.at hN0 4 rfl).use rfl) (fun _ h9 => h9) rfl dX4_keep_37 ?_
    exact wr_reti M dX4_keep_40 (u := ((bhm, bdy, bac, blk, bcl, bli, bda, bkp), (hm, dy, ac, lk, cl, li, da, 1))) ⟨(congrArg zI (by rw [if_pos c_5])), (by rw [if_pos c_5, if_neg (by omega)])⟩ hP hD hS
  have c_5 := zb_f c_5
  refine lv_iconst (v := zI (-1)) hx hb dX4_keep_8 rfl ?_
  exact wr_reti M dX4_keep_9 (u := ((bhm, bdy, bac, blk, bcl, bli, bda, bkp), (chm, cdy, cac, clk, ccl, cli, cda, ckp))) ⟨(congrArg zI (by rw [if_neg c_5])), (by rw [if_neg c_5])⟩ hP hD hS
set_option maxHeartbeats 4000000 in
set_option maxRecDepth 100000 in
theorem c_X4_back (l : Launch) (D : va_G) (cB cI cZ cM : ClassId) (Hp : Heap) (xa : Nat) (ta : Nat) (ga : Nat) (ma : Nat) (im : Nat) (pa : Nat) (qpa : Nat) (tr : Int64) (hm : Int) (dy : Int) (ac : Int) (lk : Int) (cl : Int) (li : Int) (da : Int) (kp : Int) (bma : Nat) (bhm : Int) (bdy : Int) (bac : Int) (blk : Int) (bcl : Int) (bli : Int) (bda : Int) (bkp : Int) (cma : Nat) (chm : Int) (cdy : Int) (cac : Int) (clk : Int) (ccl : Int) (cli : Int) (cda : Int) (ckp : Int) (g : Int) (hmb : okM bhm bdy bac blk bcl bli bda bkp) (hmc : okM chm cdy cac clk ccl cli cda ckp) (hg0 : -2147483648 ≤ g ∧ g < 2147483648) : cWi l yX4_back wsX4_back (rmW 1 0 0 21) D (TYS cB cI cZ cM) [.ref xa, .int (zI g)] [(xa, .inr (4, [.ref ta, .ref ga, .ref ma, .ref im, .ref pa, .ref qpa, .long tr])), (ma, .inr (0, [.int (zI hm), .int (zI dy), .int (zI ac), .int (zI lk), .int (zI cl), .int (zI li), .int (zI da), .int (zI kp)])), (im, .inl (cM, 2, .inr (.inr (.inr (.inr (imF bma cma)))))), (bma, .inr (0, [.int (zI bhm), .int (zI bdy), .int (zI bac), .int (zI blk), .int (zI bcl), .int (zI bli), .int (zI bda), .int (zI bkp)])), (cma, .inr (0, [.int (zI chm), .int (zI cdy), .int (zI cac), .int (zI clk), .int (zI ccl), .int (zI cli), .int (zI cda), .int (zI ckp)]))] Hp (fun (r : Int32) (u : Int × Int × Int × Int × Int × Int × Int × Int) => r = zI (if ¬ (0 ≤ g ∧ g < 2) then -1 else if g = 0 then (if bkp = 0 then -2 else bdy) else (if ckp = 0 then -2 else cdy)) ∧ (u = (if ¬ (0 ≤ g ∧ g < 2) then (hm, dy, ac, lk, cl, li, da, kp) else if g = 0 then (if bkp = 0 then (hm, dy, ac, lk, cl, li, da, kp) else (bhm, bdy, bac, blk, bcl, bli, bda, kp)) else (if ckp = 0 then (hm, dy, ac, lk, cl, li, da, kp) else (chm, cdy, cac, clk, ccl, cli, cda, kp))))) (fun (u : Int × Int × Int × Int × Int × Int × Int × Int) => [(xa, .inr (4, [.ref ta, .ref ga, .ref ma, .ref im, .ref pa, .ref qpa, .long tr])), (ma, .inr (0, [.int (zI u.1), .int (zI u.2.1), .int (zI u.2.2.1), .int (zI u.2.2.2.1), .int (zI u.2.2.2.2.1), .int (zI u.2.2.2.2.2.1), .int (zI u.2.2.2.2.2.2.1), .int (zI u.2.2.2.2.2.2.2)])), (im, .inl (cM, 2, .inr (.inr (.inr (.inr (imF bma cma)))))), (bma, .inr (0, [.int (zI bhm), .int (zI bdy), .int (zI bac), .int (zI blk), .int (zI bcl), .int (zI bli), .int (zI bda), .int (zI bkp)])), (cma, .inr (0, [.int (zI chm), .int (zI cdy), .int (zI cac), .int (zI clk), .int (zI ccl), .int (zI cli), .int (zI cda), .int (zI ckp)]))]) 0 0 := by
  refine wr_starti (by decide) rfl (Nat.le_of_ble_eq_true rfl) ?_
  intro pg ev sx mm args below meth cd ls A M hP hD hS hA hK hl
  obtain ⟨hx, hb, hr, hml, hown, hts, hlk, hN0⟩ := id M
  have hl : lv_has ls 2 [(0, .ref xa), (1, .int (zI g))] := hl
  refine W.widen (k := 0) (n := 0) (Nat.zero_le _) (Nat.zero_le _) ?_
  obtain ⟨hbhm, hbdy, hbac, hblk, hbcl, hbli, hbda, hbkp⟩ := id hmb
  obtain ⟨hchm, hcdy, hcac, hclk, hccl, hcli, hcda, hckp⟩ := id hmc
  refine lv_aload_n hx hb dX4_back_0 rfl (lv_at hl 0 rfl) ?_
  refine lv_iload_n hx hb dX4_back_1 rfl (lv_at hl 1 rfl) ?_
  refine pc_V (As := [.int (zI g)]) (rest := []) M (c_X4_isImage l D cB cI cZ cM _ xa ta ga ma im pa qpa tr bma cma g (by first | assumption | omega)) gX4_back_X4_isImage rfl ⟨rfl, hd_X4_isImage⟩ ⟨Nat.le_of_ble_eq_true rfl, Nat.le_of_ble_eq_true rfl⟩ hK hP [0, 2] rfl 0 4 rfl rfl rfl hl.1 rfl rfl (Nat.le_of_ble_eq_true rfl) dX4_back_2 ⟨Nat.le_of_ble_eq_true rfl, Nat.le_of_ble_eq_true rfl⟩ (fun r_2 h_2 => ?_)
  subst h_2
  refine z_if_ne (tgt := 10) hx hb dX4_back_5 (by decide) (zb_bd _) (fun c_5 => ?_) (fun c_5 => ?_)
  · skip
    have c_5 := zb_t c_5
    refine lv_aload_n hx hb dX4_back_10 rfl (lv_at hl 0 rfl) ?_
    refine va_get (D := D) (ci := 4) (C := RX4) (T := TX4) (N := 7) hx hb hts inc_X4_back_4 hown hK hP 0 rfl rfl 3 (by decide) (hts (.fieldLink RX4 30 "BedHouse" "images" "[LBedHouse$Moment;") (by decide +kernel)) (fun _ h9 => h9) rfl dX4_back_11 ?_
    refine lv_iload_n hx hb dX4_back_14 rfl (lv_at hl 1 rfl) ?_
    rcases (show g = 0 ∨ g = 1 by omega) with e_im0 | e_im1
    · skip
      refine z_aaldq hx hb hK hP 2 3 rfl rfl (Nat.le_of_ble_eq_true rfl) dX4_back_15 (by omega) (v := bma) (by rw [e_im0]; rfl) ?_
      refine va_getN (D := D) (ci := 0) (C := RX0) (T := TX0) (N := 8) hx hb hts inc_X4_back_0 hown hK hP 3 rfl rfl 7 (by decide) ((NW.at hN0 14 rfl).use rfl) (fun _ h9 => h9) rfl dX4_back_16 ?_
      refine z_if_ne (tgt := 25) hx hb dX4_back_19 (by decide) (by omega) (fun c_19 => ?_) (fun c_19 => ?_)
      · skip
        refine lv_aload_n hx hb dX4_back_25 rfl (lv_at hl 0 rfl) ?_
        refine va_get (D := D) (ci := 4) (C := RX4) (T := TX4) (N := 7) hx hb hts inc_X4_back_4 hown hK hP 0 rfl rfl 2 (by decide) (hts (.fieldLink RX4 26 "BedHouse" "present" "LBedHouse$Moment;") (by decide +kernel)) (fun _ h9 => h9) rfl dX4_back_26 ?_
        refine lv_aload_n hx hb dX4_back_29 rfl (lv_at hl 0 rfl) ?_
        refine va_get (D := D) (ci := 4) (C := RX4) (T := TX4) (N := 7) hx hb hts inc_X4_back_4 hown hK hP 0 rfl rfl 3 (by decide) (hts (.fieldLink RX4 30 "BedHouse" "images" "[LBedHouse$Moment;") (by decide +kernel)) (fun _ h9 => h9) rfl dX4_back_30 ?_
        refine lv_iload_n hx hb dX4_back_33 rfl (lv_at hl 1 rfl) ?_
        refine z_aaldq hx hb hK hP 2 3 rfl rfl (Nat.le_of_ble_eq_true rfl) dX4_back_34 (by omega) (v := bma) (by rw [e_im0]; rfl) ?_
        refine wc_VNv (As := [.ref bma]) (rest := []) (wr := [(xa, .inr (4, [.ref ta, .ref ga, .ref ma, .ref im, .ref pa, .ref qpa, .long tr])), (im, .inl (cM, 2, .inr (.inr (.inr (.inr (imF bma cma)))))), (cma, .inr (0, [.int (zI chm), .int (zI cdy), .int (zI cac), .int (zI clk), .int (zI ccl), .int (zI cli), .int (zI cda), .int (zI ckp)]))]) (ws' := (fun _u : Unit => [(xa, .inr (4, [.ref ta, .ref ga, .ref ma, .ref im, .ref pa, .ref qpa, .long tr])), (ma, .inr (0, [.int (zI bhm), .int (zI bdy), .int (zI bac), .int (zI blk), .int (zI bcl), .int (zI bli), .int (zI bda), .int (zI kp)])), (im, .inl (cM, 2, .inr (.inr (.inr (.inr (imF bma cma)))))), (bma, .inr (0, [.int (zI bhm), .int (zI bdy), .int (zI bac), .int (zI blk), .int (zI bcl), .int (zI bli), .int (zI bda), .int (zI bkp)])), (cma, .inr (0, [.int (zI chm), .int (zI cdy), .int (zI cac), .int (zI clk), .int (zI ccl), .int (zI cli), .int (zI cda), .int (zI ckp)]))])) M (c_X0_copyFrom l D cB cI cZ cM _ ma hm dy ac lk cl li da kp bma bhm bdy bac blk bcl bli bda bkp ) gX4_back_X0_copyFrom_n197 rfl (NW.at hN0 74 rfl) (by decide +kernel) (by decide +kernel) (by decide +kernel) hd_X0_copyFrom ⟨Nat.le_of_ble_eq_true rfl, Nat.le_of_ble_eq_true rfl⟩ hK hP hD hS hA [1, 3] [0, 2, 4] [0, 3, 1, 4, 2] rfl rfl (by decide) (by decide) (by decide) (fun _ => rfl) 1 0 rfl rfl rfl hl.1 rfl rfl (Nat.le_of_ble_eq_true rfl) dX4_back_35 ⟨Nat.le_of_ble_eq_true rfl, Nat.le_of_ble_eq_true rfl⟩ (by decide) (fun _u H locs h_35 hP hD hS => ?_)
        refine lv_aload_n hx hb dX4_back_38 rfl (lv_at hl 0 rfl) ?_
        refine va_get (D := D) (ci := 4) (C := RX4) (T := TX4) (N := 7) hx hb hts inc_X4_back_4 hown hK hP 0 rfl rfl 2 (by decide) (hts (.fieldLink RX4 26 "BedHouse" "present" "LBedHouse$Moment;") (by decide +kernel)) (fun _ h9 => h9) rfl dX4_back_39 ?_
        refine va_getN (D := D) (ci := 0) (C := RX0) (T := TX0) (N := 8) hx hb hts inc_X4_back_0 hown hK hP 1 rfl rfl 1 (by decide) ((NW.at hN0 4 rfl).use rfl) (fun _ h9 => h9) rfl dX4_back_42 ?_
        exact wr_reti M dX4_back_45 (u := (bhm, bdy, bac, blk, bcl, bli, bda, kp)) ⟨(congrArg zI (by rw [if_neg (fun q => q c_5), if_pos e_im0, if_neg c_19])), (by rw [if_neg (fun q => q c_5), if_pos e_im0, if_neg c_19])⟩ hP hD hS
      refine lv_bipush (v := zI (-2)) hx hb dX4_back_22 (by decide) ?_
      exact wr_reti M dX4_back_24 (u := (hm, dy, ac, lk, cl, li, da, kp)) ⟨(congrArg zI (by rw [if_neg (fun q => q c_5), if_pos e_im0, if_pos c_19])), (by rw [if_neg (fun q => q c_5), if_pos e_im0, if_pos c_19])⟩ hP hD hS
    refine z_aaldq hx hb hK hP 2 3 rfl rfl (Nat.le_of_ble_eq_true rfl) dX4_back_15 (by omega) (v := cma) (by rw [e_im1]; rfl) ?_
    refine va_getN (D := D) (ci := 0) (C := RX0) (T := TX0) (N := 8) hx hb hts inc_X4_back_0 hown hK hP 4 rfl rfl 7 (by decide) ((NW.at hN0 14 rfl).use rfl) (fun _ h9 => h9) rfl dX4_back_16 ?_
    refine z_if_ne (tgt := 25) hx hb dX4_back_19 (by decide) (by omega) (fun c_19 => ?_) (fun c_19 => ?_)
    · skip
      refine lv_aload_n hx hb dX4_back_25 rfl (lv_at hl 0 rfl) ?_
      refine va_get (D := D) (ci := 4) (C := RX4) (T := TX4) (N := 7) hx hb hts inc_X4_back_4 hown hK hP 0 rfl rfl 2 (by decide) (hts (.fieldLink RX4 26 "BedHouse" "present" "LBedHouse$Moment;") (by decide +kernel)) (fun _ h9 => h9) rfl dX4_back_26 ?_
      refine lv_aload_n hx hb dX4_back_29 rfl (lv_at hl 0 rfl) ?_
      refine va_get (D := D) (ci := 4) (C := RX4) (T := TX4) (N := 7) hx hb hts inc_X4_back_4 hown hK hP 0 rfl rfl 3 (by decide) (hts (.fieldLink RX4 30 "BedHouse" "images" "[LBedHouse$Moment;") (by decide +kernel)) (fun _ h9 => h9) rfl dX4_back_30 ?_
      refine lv_iload_n hx hb dX4_back_33 rfl (lv_at hl 1 rfl) ?_
      refine z_aaldq hx hb hK hP 2 3 rfl rfl (Nat.le_of_ble_eq_true rfl) dX4_back_34 (by omega) (v := cma) (by rw [e_im1]; rfl) ?_
      refine wc_VNv (As := [.ref cma]) (rest := []) (wr := [(xa, .inr (4, [.ref ta, .ref ga, .ref ma, .ref im, .ref pa, .ref qpa, .long tr])), (im, .inl (cM, 2, .inr (.inr (.inr (.inr (imF bma cma)))))), (bma, .inr (0, [.int (zI bhm), .int (zI bdy), .int (zI bac), .int (zI blk), .int (zI bcl), .int (zI bli), .int (zI bda), .int (zI bkp)]))]) (ws' := (fun _u : Unit => [(xa, .inr (4, [.ref ta, .ref ga, .ref ma, .ref im, .ref pa, .ref qpa, .long tr])), (ma, .inr (0, [.int (zI chm), .int (zI cdy), .int (zI cac), .int (zI clk), .int (zI ccl), .int (zI cli), .int (zI cda), .int (zI kp)])), (im, .inl (cM, 2, .inr (.inr (.inr (.inr (imF bma cma)))))), (bma, .inr (0, [.int (zI bhm), .int (zI bdy), .int (zI bac), .int (zI blk), .int (zI bcl), .int (zI bli), .int (zI bda), .int (zI bkp)])), (cma, .inr (0, [.int (zI chm), .int (zI cdy), .int (zI cac), .int (zI clk), .int (zI ccl), .int (zI cli), .int (zI cda), .int (zI ckp)]))])) M (c_X0_copyFrom l D cB cI cZ cM _ ma hm dy ac lk cl li da kp cma chm cdy cac clk ccl cli cda ckp ) gX4_back_X0_copyFrom_n197 rfl (NW.at hN0 74 rfl) (by decide +kernel) (by decide +kernel) (by decide +kernel) hd_X0_copyFrom ⟨Nat.le_of_ble_eq_true rfl, Nat.le_of_ble_eq_true rfl⟩ hK hP hD hS hA [1, 4] [0, 2, 3] [0, 3, 1, 2, 4] rfl rfl (by decide) (by decide) (by decide) (fun _ => rfl) 1 0 rfl rfl rfl hl.1 rfl rfl (Nat.le_of_ble_eq_true rfl) dX4_back_35 ⟨Nat.le_of_ble_eq_true rfl, Nat.le_of_ble_eq_true rfl⟩ (by decide) (fun _u H locs h_35 hP hD hS => ?_)
      refine lv_aload_n hx hb dX4_back_38 rfl (lv_at hl 0 rfl) ?_
      refine va_get (D := D) (ci := 4) (C := RX4) (T := TX4) (N := 7) hx hb hts inc_X4_back_4 hown hK hP 0 rfl rfl 2 (by decide) (hts (.fieldLink RX4 26 "BedHouse" "present" "LBedHouse$Moment;") (by decide +kernel)) (fun _ h9 => h9) rfl dX4_back_39 ?_
      refine va_getN (D := D) (ci := 0) (C := RX0) (T := TX0) (N := 8) hx hb hts inc_X4_back_0 hown hK hP 1 rfl rfl 1 (by decide) ((NW.at hN0 4 rfl).use rfl) (fun _ h9 => h9) rfl dX4_back_42 ?_
      exact wr_reti M dX4_back_45 (u := (chm, cdy, cac, clk, ccl, cli, cda, kp)) ⟨(congrArg zI (by rw [if_neg (fun q => q c_5), if_neg (by omega), if_neg c_19])), (by rw [if_neg (fun q => q c_5), if_neg (by omega), if_neg c_19])⟩ hP hD hS
    refine lv_bipush (v := zI (-2)) hx hb dX4_back_22 (by decide) ?_
    exact wr_reti M dX4_back_24 (u := (hm, dy, ac, lk, cl, li, da, kp)) ⟨(congrArg zI (by rw [if_neg (fun q => q c_5), if_neg (by omega), if_pos c_19])), (by rw [if_neg (fun q => q c_5), if_neg (by omega), if_pos c_19])⟩ hP hD hS
  have c_5 := zb_f c_5
  refine lv_iconst (v := zI (-1)) hx hb dX4_back_8 rfl ?_
  exact wr_reti M dX4_back_9 (u := (hm, dy, ac, lk, cl, li, da, kp)) ⟨(congrArg zI (by rw [if_pos c_5])), (by rw [if_pos c_5])⟩ hP hD hS
set_option maxHeartbeats 4000000 in
set_option maxRecDepth 100000 in
theorem c_X4_count (l : Launch) (D : va_G) (cB cI cZ cM : ClassId) (Hp : Heap) (xa : Nat) (ta : Nat) (ga : Nat) (ma : Nat) (im : Nat) (pa : Nat) (qpa : Nat) (tr : Int64) (sa : Nat) (ba : Nat) (so : Int → Int) (bm : Int → Int) (P : Int) (TH : Int) (B : Int) (ra : Int) (su : Int) (vw : Int) (no : Int) (dn : Int) (ha : Int) (hm : Int) (dy : Int) (ac : Int) (lk : Int) (cl : Int) (li : Int) (da : Int) (kp : Int) (yb : Nat) (tx : Int → Int) (ln : Int) (ax : Int) (ts : Int) (tk : Int) (vl : Int) (dt : Int) (ht : Int) (wh : Int) (hok : okP so bm P TH B ra su vw no dn ha) (hmo : okM hm dy ac lk cl li da kp) (hwh0 : -2147483648 ≤ wh ∧ wh < 2147483648) : cP l yX4_count wsX4_count 2 44 D (TYS cB cI cZ cM) [.ref xa, .int (zI wh)] [(xa, .inr (4, [.ref ta, .ref ga, .ref ma, .ref im, .ref pa, .ref qpa, .long tr])), (ta, .inr (3, [.ref yb, .int (zI ln), .int (zI ax), .int (zI ts), .int (zI tk), .int (zI vl), .int (zI dt), .int (zI ht)])), (yb, .inl (cI, 200, .inl (zia tx))), (pa, .inr (1, [.ref sa, .int (zI P), .int (zI TH), .ref ba, .int (zI B), .int (zI ra), .int (zI su), .int (zI vw), .int (zI no), .int (zI dn), .int (zI ha)])), (sa, .inl (cI, 4, .inl (zia so))), (ba, .inl (cI, 2, .inl (zia bm))), (ma, .inr (0, [.int (zI hm), .int (zI dy), .int (zI ac), .int (zI lk), .int (zI cl), .int (zI li), .int (zI da), .int (zI kp)]))] Hp (fun r => r = zI (if wh = 0 then P else if wh = 1 then B else if wh = 2 then lyC (pl hm) P.toNat 0 else if wh = 3 then cl else if wh = 4 then ln else -1)) := by
  refine pu_start (by decide) rfl (Nat.le_of_ble_eq_true rfl) ?_
  intro pg ev sx mm args below meth cd ls M hP hK hl
  obtain ⟨hx, hb, hr, hml, hown, hts, hlk, hN0⟩ := id M
  have hl : lv_has ls 2 [(0, .ref xa), (1, .int (zI wh))] := hl
  obtain ⟨hP4, hTH, hB2, hra, hsu, hvw, hno, hdn, hha, hso, hbm⟩ := id hok
  obtain ⟨hhm, hdy, hac, hlk, hcl, hli, hda, hkp⟩ := id hmo
  refine lv_iload_n hx hb dX4_count_0 rfl (lv_at hl 1 rfl) ?_
  by_cases c_1_0 : wh = 0
  · skip
    refine lv_tableIn (tgt := 36) hx hb dX4_count_1 (by rw [zI_toInt (by omega)]; omega) (by rw [zI_toInt (by omega)]; omega) (by rw [zI_toInt (by omega), c_1_0]; rfl) (by decide) ?_
    refine lv_aload_n hx hb dX4_count_36 rfl (lv_at hl 0 rfl) ?_
    refine va_get (D := D) (ci := 4) (C := RX4) (T := TX4) (N := 7) hx hb hts inc_X4_count_4 hown hK hP 0 rfl rfl 4 (by decide) (hts (.fieldLink RX4 37 "BedHouse" "plan" "LBedHouse$Plan;") (by decide +kernel)) (fun _ h9 => h9) rfl dX4_count_37 ?_
    refine va_getN (D := D) (ci := 1) (C := RX1) (T := TX1) (N := 11) hx hb hts inc_X4_count_1 hown hK hP 3 rfl rfl 1 (by decide) ((NW.at hN0 17 rfl).use rfl) (fun _ h9 => h9) rfl dX4_count_40 ?_
    exact pu_ret M dX4_count_43 (congrArg zI (by rw [if_pos c_1_0]))
  by_cases c_1_1 : wh = 1
  · skip
    refine lv_tableIn (tgt := 44) hx hb dX4_count_1 (by rw [zI_toInt (by omega)]; omega) (by rw [zI_toInt (by omega)]; omega) (by rw [zI_toInt (by omega), c_1_1]; rfl) (by decide) ?_
    refine lv_aload_n hx hb dX4_count_44 rfl (lv_at hl 0 rfl) ?_
    refine va_get (D := D) (ci := 4) (C := RX4) (T := TX4) (N := 7) hx hb hts inc_X4_count_4 hown hK hP 0 rfl rfl 4 (by decide) (hts (.fieldLink RX4 37 "BedHouse" "plan" "LBedHouse$Plan;") (by decide +kernel)) (fun _ h9 => h9) rfl dX4_count_45 ?_
    refine va_getN (D := D) (ci := 1) (C := RX1) (T := TX1) (N := 11) hx hb hts inc_X4_count_1 hown hK hP 3 rfl rfl 4 (by decide) ((NW.at hN0 21 rfl).use rfl) (fun _ h9 => h9) rfl dX4_count_48 ?_
    exact pu_ret M dX4_count_51 (congrArg zI (by rw [if_neg c_1_0, if_pos c_1_1]))
  by_cases c_1_2 : wh = 2
  · skip
    refine lv_tableIn (tgt := 52) hx hb dX4_count_1 (by rw [zI_toInt (by omega)]; omega) (by rw [zI_toInt (by omega)]; omega) (by rw [zI_toInt (by omega), c_1_2]; rfl) (by decide) ?_
    refine lv_aload_n hx hb dX4_count_52 rfl (lv_at hl 0 rfl) ?_
    refine va_get (D := D) (ci := 4) (C := RX4) (T := TX4) (N := 7) hx hb hts inc_X4_count_4 hown hK hP 0 rfl rfl 4 (by decide) (hts (.fieldLink RX4 37 "BedHouse" "plan" "LBedHouse$Plan;") (by decide +kernel)) (fun _ h9 => h9) rfl dX4_count_53 ?_
    refine lv_aload_n hx hb dX4_count_56 rfl (lv_at hl 0 rfl) ?_
    refine va_get (D := D) (ci := 4) (C := RX4) (T := TX4) (N := 7) hx hb hts inc_X4_count_4 hown hK hP 0 rfl rfl 2 (by decide) (hts (.fieldLink RX4 26 "BedHouse" "present" "LBedHouse$Moment;") (by decide +kernel)) (fun _ h9 => h9) rfl dX4_count_57 ?_
    refine va_getN (D := D) (ci := 0) (C := RX0) (T := TX0) (N := 8) hx hb hts inc_X4_count_0 hown hK hP 6 rfl rfl 0 (by decide) ((NW.at hN0 2 rfl).use rfl) (fun _ h9 => h9) rfl dX4_count_60 ?_
    refine pc_VN (As := [.int (zI hm)]) (rest := []) M (c_X1_lyingIn l D cB cI cZ cM _ pa sa ba so bm P TH B ra su vw no dn ha hm (by first | assumption | omega) (by first | assumption | omega)) gX4_count_X1_lyingIn_n207 rfl (NW.at hN0 55 rfl) (by decide +kernel) (by decide +kernel) (by decide +kernel) hd_X1_lyingIn ⟨Nat.le_of_ble_eq_true rfl, Nat.le_of_ble_eq_true rfl⟩ hK hP [3, 4, 5] rfl 3 1 rfl rfl rfl hl.1 rfl rfl (Nat.le_of_ble_eq_true rfl) dX4_count_63 ⟨Nat.le_of_ble_eq_true rfl, Nat.le_of_ble_eq_true rfl⟩ (fun r_63 h_63 => ?_)
    subst h_63
    exact pu_ret M dX4_count_66 (congrArg zI (by rw [if_neg c_1_0, if_neg c_1_1, if_pos c_1_2]))
  by_cases c_1_3 : wh = 3
  · skip
    refine lv_tableIn (tgt := 67) hx hb dX4_count_1 (by rw [zI_toInt (by omega)]; omega) (by rw [zI_toInt (by omega)]; omega) (by rw [zI_toInt (by omega), c_1_3]; rfl) (by decide) ?_
    refine lv_aload_n hx hb dX4_count_67 rfl (lv_at hl 0 rfl) ?_
    refine va_get (D := D) (ci := 4) (C := RX4) (T := TX4) (N := 7) hx hb hts inc_X4_count_4 hown hK hP 0 rfl rfl 2 (by decide) (hts (.fieldLink RX4 26 "BedHouse" "present" "LBedHouse$Moment;") (by decide +kernel)) (fun _ h9 => h9) rfl dX4_count_68 ?_
    refine va_getN (D := D) (ci := 0) (C := RX0) (T := TX0) (N := 8) hx hb hts inc_X4_count_0 hown hK hP 6 rfl rfl 4 (by decide) ((NW.at hN0 9 rfl).use rfl) (fun _ h9 => h9) rfl dX4_count_71 ?_
    exact pu_ret M dX4_count_74 (congrArg zI (by rw [if_neg c_1_0, if_neg c_1_1, if_neg c_1_2, if_pos c_1_3]))
  by_cases c_1_4 : wh = 4
  · skip
    refine lv_tableIn (tgt := 75) hx hb dX4_count_1 (by rw [zI_toInt (by omega)]; omega) (by rw [zI_toInt (by omega)]; omega) (by rw [zI_toInt (by omega), c_1_4]; rfl) (by decide) ?_
    refine lv_aload_n hx hb dX4_count_75 rfl (lv_at hl 0 rfl) ?_
    refine va_get (D := D) (ci := 4) (C := RX4) (T := TX4) (N := 7) hx hb hts inc_X4_count_4 hown hK hP 0 rfl rfl 0 (by decide) (hts (.fieldLink RX4 12 "BedHouse" "text" "LBedHouse$Text;") (by decide +kernel)) (fun _ h9 => h9) rfl dX4_count_76 ?_
    refine va_getN (D := D) (ci := 3) (C := RX3) (T := TX3) (N := 8) hx hb hts inc_X4_count_3 hown hK hP 1 rfl rfl 1 (by decide) ((NW.at hN0 0 rfl).use rfl) (fun _ h9 => h9) rfl dX4_count_79 ?_
    exact pu_ret M dX4_count_82 (congrArg zI (by rw [if_neg c_1_0, if_neg c_1_1, if_neg c_1_2, if_neg c_1_3, if_pos c_1_4]))
  refine lv_tableOut (tgt := 83) hx hb dX4_count_1 (by rw [zI_toInt (by omega)]; omega) (by decide) ?_
  refine lv_iconst (v := zI (-1)) hx hb dX4_count_83 rfl ?_
  exact pu_ret M dX4_count_84 (congrArg zI (by rw [if_neg c_1_0, if_neg c_1_1, if_neg c_1_2, if_neg c_1_3, if_neg c_1_4]))
set_option maxHeartbeats 4000000 in
set_option maxRecDepth 100000 in
theorem c_X4_trace (l : Launch) (D : va_G) (cB cI cZ cM : ClassId) (Hp : Heap) (xa : Nat) (ta : Nat) (ga : Nat) (ma : Nat) (im : Nat) (pa : Nat) (qpa : Nat) (tr : Int64)  : cPl l yX4_trace wsX4_trace 0 0 D (TYS cB cI cZ cM) [.ref xa] [(xa, .inr (4, [.ref ta, .ref ga, .ref ma, .ref im, .ref pa, .ref qpa, .long tr]))] Hp (fun r => r = tr) := by
  refine pul_start (by decide) rfl (Nat.le_of_ble_eq_true rfl) ?_
  intro pg ev sx mm args below meth cd ls M hP hK hl
  obtain ⟨hx, hb, hr, hml, hown, hts, hlk, hN0⟩ := id M
  have hl : lv_has ls 1 [(0, .ref xa)] := hl
  refine lv_aload_n hx hb dX4_trace_0 rfl (lv_at hl 0 rfl) ?_
  refine va_get (D := D) (ci := 4) (C := RX4) (T := TX4) (N := 7) hx hb hts inc_X4_trace_4 hown hK hP 0 rfl rfl 6 (by decide) (hts (.fieldLink RX4 210 "BedHouse" "traced" "J") (by decide +kernel)) (fun _ h9 => h9) rfl dX4_trace_1 ?_
  exact pu_lret M dX4_trace_4 rfl
set_option maxHeartbeats 4000000 in
set_option maxRecDepth 100000 in
theorem c_X4_clear (l : Launch) (D : va_G) (cB cI cZ cM : ClassId) (Hp : Heap) (xa : Nat) (ta : Nat) (ga : Nat) (ma : Nat) (im : Nat) (pa : Nat) (qpa : Nat) (tr : Int64) (yb : Nat) (tx : Int → Int) (ln : Int) (ax : Int) (ts : Int) (tk : Int) (vl : Int) (dt : Int) (ht : Int)  : cWi l yX4_clear wsX4_clear (rmW 0 0 0 0) D (TYS cB cI cZ cM) [.ref xa] [(xa, .inr (4, [.ref ta, .ref ga, .ref ma, .ref im, .ref pa, .ref qpa, .long tr])), (ta, .inr (3, [.ref yb, .int (zI ln), .int (zI ax), .int (zI ts), .int (zI tk), .int (zI vl), .int (zI dt), .int (zI ht)])), (yb, .inl (cI, 200, .inl (zia tx)))] Hp (fun (r : Int32) (_u : Unit) => r = zI ln) (fun (_u : Unit) => [(xa, .inr (4, [.ref ta, .ref ga, .ref ma, .ref im, .ref pa, .ref qpa, .long tr])), (ta, .inr (3, [.ref yb, .int (zI 0), .int (zI ax), .int (zI ts), .int (zI tk), .int (zI vl), .int (zI dt), .int (zI ht)])), (yb, .inl (cI, 200, .inl (zia tx)))]) 0 0 := by
  refine wr_starti (by decide) rfl (Nat.le_of_ble_eq_true rfl) ?_
  intro pg ev sx mm args below meth cd ls A M hP hD hS hA hK hl
  obtain ⟨hx, hb, hr, hml, hown, hts, hlk, hN0⟩ := id M
  have hl : lv_has ls 2 [(0, .ref xa)] := hl
  refine W.widen (k := 0) (n := 0) (Nat.zero_le _) (Nat.zero_le _) ?_
  refine lv_aload_n hx hb dX4_clear_0 rfl (lv_at hl 0 rfl) ?_
  refine va_get (D := D) (ci := 4) (C := RX4) (T := TX4) (N := 7) hx hb hts inc_X4_clear_4 hown hK hP 0 rfl rfl 0 (by decide) (hts (.fieldLink RX4 12 "BedHouse" "text" "LBedHouse$Text;") (by decide +kernel)) (fun _ h9 => h9) rfl dX4_clear_1 ?_
  refine va_getN (D := D) (ci := 3) (C := RX3) (T := TX3) (N := 8) hx hb hts inc_X4_clear_3 hown hK hP 1 rfl rfl 1 (by decide) ((NW.at hN0 0 rfl).use rfl) (fun _ h9 => h9) rfl dX4_clear_4 ?_
  refine lv_istore_n (lv' := [(1, .int (zI ln)), (0, .ref xa)]) hx hb dX4_clear_7 rfl hl (by decide) rfl (fun ls hl => ?_)
  refine lv_aload_n hx hb dX4_clear_8 rfl (lv_at hl 1 rfl) ?_
  refine va_get (D := D) (ci := 4) (C := RX4) (T := TX4) (N := 7) hx hb hts inc_X4_clear_4 hown hK hP 0 rfl rfl 0 (by decide) (hts (.fieldLink RX4 12 "BedHouse" "text" "LBedHouse$Text;") (by decide +kernel)) (fun _ h9 => h9) rfl dX4_clear_9 ?_
  refine lv_iconst (v := zI 0) hx hb dX4_clear_12 rfl ?_
  refine va_putN (D := D) (ci := 3) (v := .int (zI 0)) (ty := .int) (C := RX3) (T := TX3) (N := 8) hx hb hts inc_X4_clear_3 tyX3 tyX3_ok nmX3 hown hK hP hD hS 1 rfl rfl 1 (by decide) ((NW.at hN0 0 rfl).use rfl) (fun _ h9 => h9) rfl (by decide +kernel) rfl rfl (Nat.le_of_ble_eq_true rfl) dX4_clear_13 (fun H locs hP hD hS => ?_)
  have hP : va_P D vwCl [(xa, .inr (4, [.ref ta, .ref ga, .ref ma, .ref im, .ref pa, .ref qpa, .long tr])), (ta, .inr (3, [.ref yb, .int (zI 0), .int (zI ax), .int (zI ts), .int (zI tk), .int (zI vl), .int (zI dt), .int (zI ht)])), (yb, .inl (cI, 200, .inl (zia tx)))] H := hP
  have hD : va_D A [(xa, .inr (4, [.ref ta, .ref ga, .ref ma, .ref im, .ref pa, .ref qpa, .long tr])), (ta, .inr (3, [.ref yb, .int (zI 0), .int (zI ax), .int (zI ts), .int (zI tk), .int (zI vl), .int (zI dt), .int (zI ht)])), (yb, .inl (cI, 200, .inl (zia tx)))] := hD
  refine lv_iload_n hx hb dX4_clear_16 rfl (lv_at hl 0 rfl) ?_
  exact wr_reti M dX4_clear_17 (u := ()) (congrArg zI (by rfl)) hP hD hS
set_option maxHeartbeats 4000000 in
set_option maxRecDepth 100000 in
theorem lp_X4_type_36 (l : Launch) (D : va_G) (cB cI cZ cM : ClassId) (xa : Nat) (ta : Nat) (ga : Nat) (ma : Nat) (im : Nat) (pa : Nat) (qpa : Nat) (tr : Int64) (yb : Nat) (tx : Int → Int) (ln : Int) (ax : Int) (ts : Int) (tk : Int) (vl : Int) (dt : Int) (ht : Int) (v : Int64) (n : Int) (hln : 0 ≤ ln ∧ ln ≤ 200) (hn0 : -2147483648 ≤ n ∧ n < 2147483648) {pg : Program} {ev : Env} {sx : State} {mm : MethodId} {args : Array Value} {below : List Frame} {meth : Method} {cd : Code} (M : MX pg sx mm args meth cd cX4_type 5 (some .int) RX4 wsX4_type) (hK : va_K D vwCl (TYS cB cI cZ cM) sx) {A : Nat → Prop} (hA : ∀ q : Nat, sx.heap.size ≤ q → A q) : ∀ (N : Nat) (j : Nat) (i : Int) (s : (Int → Int) × Int), (j < N) → (-1 ≤ i ∧ i + 1 = j) → (1 ≤ n ∧ n ≤ 8 ∧ i < n) → (s.2 = ln + (n - 1 - i)) → (ln + n ≤ 200) → (tyF v j i s = tyF v n.toNat (n - 1) (tx, ln)) → ∀ (H : Heap) (locs : List Loc), va_P D vwCl [(xa, .inr (4, [.ref ta, .ref ga, .ref ma, .ref im, .ref pa, .ref qpa, .long tr])), (ta, .inr (3, [.ref yb, .int (zI s.2), .int (zI ax), .int (zI ts), .int (zI tk), .int (zI vl), .int (zI dt), .int (zI ht)])), (yb, .inl (cI, 200, .inl (zia s.1)))] H → va_D A [(xa, .inr (4, [.ref ta, .ref ga, .ref ma, .ref im, .ref pa, .ref qpa, .long tr])), (ta, .inr (3, [.ref yb, .int (zI s.2), .int (zI ax), .int (zI ts), .int (zI tk), .int (zI vl), .int (zI dt), .int (zI ht)])), (yb, .inl (cI, 200, .inl (zia s.1)))] → va_S A sx.heap H locs → ∀ ls : Array Slot, lv_has ls 5 [(0, .ref xa), (1, .long v), (3, .int (zI n)), (4, .int (zI i))] → W pg l ev (rmW 1 0 0 21) sx mm args below meth cd H locs 0 0 (QWi below args sx A D (fun (r : Int32) (u : (Int → Int) × Int) => r = zI (if 1 ≤ n ∧ n ≤ 8 then (if 200 < ln + n then -3 else ln + n) else -1) ∧ (u = tyA v n tx ln)) (fun (u : (Int → Int) × Int) => [(xa, .inr (4, [.ref ta, .ref ga, .ref ma, .ref im, .ref pa, .ref qpa, .long tr])), (ta, .inr (3, [.ref yb, .int (zI u.2), .int (zI ax), .int (zI ts), .int (zI tk), .int (zI vl), .int (zI dt), .int (zI ht)])), (yb, .inl (cI, 200, .inl (zia u.1)))]) 0 0) (F0 mm 36 ls []) := by
  intro N
  induction N with
  | zero => intro j i s hN; exact absurd hN (Nat.not_lt_zero _)
  | succ N ih =>
    intro j i s hN hi hn hs hnn hv H locs hP hD hS ls hl
    obtain ⟨hx, hb, hr, hml, hown, hts, hlk, hN0⟩ := id M
    refine lv_iload hx hb dX4_type_36 (lv_at hl 3 rfl) ?_
    refine z_if_lt (tgt := 66) hx hb dX4_type_38 (by decide) (by omega) (fun c_38 => ?_) (fun c_38 => ?_)
    · skip
      refine lv_aload_n hx hb dX4_type_66 rfl (lv_at hl 0 rfl) ?_
      refine va_get (D := D) (ci := 4) (C := RX4) (T := TX4) (N := 7) hx hb hts inc_X4_type_4 hown hK hP 0 rfl rfl 0 (by decide) (hts (.fieldLink RX4 12 "BedHouse" "text" "LBedHouse$Text;") (by decide +kernel)) (fun _ h9 => h9) rfl dX4_type_67 ?_
      refine va_getN (D := D) (ci := 3) (C := RX3) (T := TX3) (N := 8) hx hb hts inc_X4_type_3 hown hK hP 1 rfl rfl 1 (by decide) ((NW.at hN0 0 rfl).use rfl) (fun _ h9 => h9) rfl dX4_type_70 ?_
      obtain rfl : j = 0 := by omega
      exact wr_reti M dX4_type_73 (u := s) ⟨(congrArg zI (by rw [if_pos (by omega), if_neg (by omega)]; omega)), (by unfold tyA; rw [if_pos (by omega), ← hv]; rfl)⟩ hP hD hS
    obtain ⟨j, rfl⟩ : ∃ x : Nat, j = x + 1 := ⟨j - 1, by omega⟩
    refine lv_aload_n hx hb dX4_type_41 rfl (lv_at hl 0 rfl) ?_
    refine va_get (D := D) (ci := 4) (C := RX4) (T := TX4) (N := 7) hx hb hts inc_X4_type_4 hown hK hP 0 rfl rfl 0 (by decide) (hts (.fieldLink RX4 12 "BedHouse" "text" "LBedHouse$Text;") (by decide +kernel)) (fun _ h9 => h9) rfl dX4_type_42 ?_
    refine lv_lload_n hx hb dX4_type_45 rfl (lv_at hl 1 rfl) ?_
    refine lv_bipush (v := zI 8) hx hb dX4_type_46 (by decide) ?_
    refine lv_iload hx hb dX4_type_48 (lv_at hl 3 rfl) ?_
    refine z_imul hx hb dX4_type_50 ?_
    refine lv_lushr hx hb dX4_type_51 rfl ?_
    refine lv_l2i hx hb dX4_type_52 rfl ?_
    refine lv_sipush (v := zI 255) hx hb dX4_type_53 (by decide) ?_
    refine lv_iand hx hb dX4_type_56 ?_
    refine z_top (y := zI (byL v i)) (byL_u (by omega)) ?_
    refine wc_VNv (As := [.int (zI (byL v i))]) (rest := []) (wr := [(xa, .inr (4, [.ref ta, .ref ga, .ref ma, .ref im, .ref pa, .ref qpa, .long tr]))]) (ws' := (fun _u : Unit => [(xa, .inr (4, [.ref ta, .ref ga, .ref ma, .ref im, .ref pa, .ref qpa, .long tr])), (ta, .inr (3, [.ref yb, .int (zI (s.2 + 1)), .int (zI ax), .int (zI ts), .int (zI tk), .int (zI vl), .int (zI dt), .int (zI ht)])), (yb, .inl (cI, 200, .inl (zia (zup s.1 s.2 (byL v i)))))])) M (c_X3_append l D cB cI cZ cM _ ta yb s.1 s.2 ax ts tk vl dt ht (byL v i) (by first | assumption | omega)) gX4_type_X3_append_n48 rfl (NW.at hN0 39 rfl) (by decide +kernel) (by decide +kernel) (by decide +kernel) hd_X3_append ⟨Nat.le_of_ble_eq_true rfl, Nat.le_of_ble_eq_true rfl⟩ hK hP hD hS hA [1, 2] [0] [0, 1, 2] rfl rfl (by decide) (by decide) (by decide) (fun _ => rfl) 1 3 rfl rfl rfl hl.1 rfl rfl (Nat.le_of_ble_eq_true rfl) dX4_type_57 ⟨Nat.le_of_ble_eq_true rfl, Nat.le_of_ble_eq_true rfl⟩ (by decide) (fun _u H locs h_57 hP hD hS => ?_)
    refine z_iinc (a := i) (k := 3) (lv' := [(4, .int (zI (i + (-1)))), (0, .ref xa), (1, .long v), (3, .int (zI n))]) hx hb dX4_type_60 hl rfl (by decide) rfl (fun ls hl => ?_)
    refine lv_goto (tgt := 36) hx hb dX4_type_63 (by decide) ?_
    exact ih j (i + (-1)) (zup s.1 s.2 (byL v i), s.2 + 1) (by omega) (by omega) (by omega) (by dsimp only; omega) (by omega) (by rw [← hv, tyF]) _ _ hP hD hS _ (lv_sub hl [1, 2, 3, 0] rfl)
set_option maxHeartbeats 4000000 in
set_option maxRecDepth 100000 in
theorem c_X4_type (l : Launch) (D : va_G) (cB cI cZ cM : ClassId) (Hp : Heap) (xa : Nat) (ta : Nat) (ga : Nat) (ma : Nat) (im : Nat) (pa : Nat) (qpa : Nat) (tr : Int64) (yb : Nat) (tx : Int → Int) (ln : Int) (ax : Int) (ts : Int) (tk : Int) (vl : Int) (dt : Int) (ht : Int) (v : Int64) (n : Int) (hln : 0 ≤ ln ∧ ln ≤ 200) (hn0 : -2147483648 ≤ n ∧ n < 2147483648) : cWi l yX4_type wsX4_type (rmW 1 0 0 21) D (TYS cB cI cZ cM) [.ref xa, .long v, .int (zI n)] [(xa, .inr (4, [.ref ta, .ref ga, .ref ma, .ref im, .ref pa, .ref qpa, .long tr])), (ta, .inr (3, [.ref yb, .int (zI ln), .int (zI ax), .int (zI ts), .int (zI tk), .int (zI vl), .int (zI dt), .int (zI ht)])), (yb, .inl (cI, 200, .inl (zia tx)))] Hp (fun (r : Int32) (u : (Int → Int) × Int) => r = zI (if 1 ≤ n ∧ n ≤ 8 then (if 200 < ln + n then -3 else ln + n) else -1) ∧ (u = tyA v n tx ln)) (fun (u : (Int → Int) × Int) => [(xa, .inr (4, [.ref ta, .ref ga, .ref ma, .ref im, .ref pa, .ref qpa, .long tr])), (ta, .inr (3, [.ref yb, .int (zI u.2), .int (zI ax), .int (zI ts), .int (zI tk), .int (zI vl), .int (zI dt), .int (zI ht)])), (yb, .inl (cI, 200, .inl (zia u.1)))]) 0 0 := by
  refine wr_starti (by decide) rfl (Nat.le_of_ble_eq_true rfl) ?_
  intro pg ev sx mm args below meth cd ls A M hP hD hS hA hK hl
  obtain ⟨hx, hb, hr, hml, hown, hts, hlk, hN0⟩ := id M
  have hl : lv_has ls 5 [(0, .ref xa), (1, .long v), (3, .int (zI n))] := hl
  refine W.widen (k := 0) (n := 0) (Nat.zero_le _) (Nat.zero_le _) ?_
  refine lv_iload_n hx hb dX4_type_0 rfl (lv_at hl 2 rfl) ?_
  refine lv_iconst (v := zI 1) hx hb dX4_type_1 rfl ?_
  refine z_icmp_lt (tgt := 11) hx hb dX4_type_2 (by decide) (by omega) (fun c_2 => ?_) (fun c_2 => ?_)
  · skip
    refine lv_iconst (v := zI (-1)) hx hb dX4_type_11 rfl ?_
    exact wr_reti M dX4_type_12 (u := (tx, ln)) ⟨(congrArg zI (by rw [if_neg (by omega)])), (by unfold tyA; rw [if_neg (by omega)])⟩ hP hD hS
  refine lv_iload_n hx hb dX4_type_5 rfl (lv_at hl 2 rfl) ?_
  refine lv_bipush (v := zI 8) hx hb dX4_type_6 (by decide) ?_
  refine z_icmp_le (tgt := 13) hx hb dX4_type_8 (by decide) (by omega) (fun c_8 => ?_) (fun c_8 => ?_)
  · skip
    refine lv_iload_n hx hb dX4_type_13 rfl (lv_at hl 2 rfl) ?_
    refine lv_sipush (v := zI 200) hx hb dX4_type_14 (by decide) ?_
    refine lv_aload_n hx hb dX4_type_17 rfl (lv_at hl 0 rfl) ?_
    refine va_get (D := D) (ci := 4) (C := RX4) (T := TX4) (N := 7) hx hb hts inc_X4_type_4 hown hK hP 0 rfl rfl 0 (by decide) (hts (.fieldLink RX4 12 "BedHouse" "text" "LBedHouse$Text;") (by decide +kernel)) (fun _ h9 => h9) rfl dX4_type_18 ?_
    refine va_getN (D := D) (ci := 3) (C := RX3) (T := TX3) (N := 8) hx hb hts inc_X4_type_3 hown hK hP 1 rfl rfl 1 (by decide) ((NW.at hN0 0 rfl).use rfl) (fun _ h9 => h9) rfl dX4_type_21 ?_
    refine z_isub hx hb dX4_type_24 ?_
    refine z_icmp_le (tgt := 31) hx hb dX4_type_25 (by decide) (by omega) (fun c_25 => ?_) (fun c_25 => ?_)
    · skip
      refine lv_iload_n hx hb dX4_type_31 rfl (lv_at hl 2 rfl) ?_
      refine lv_iconst (v := zI 1) hx hb dX4_type_32 rfl ?_
      refine z_isub hx hb dX4_type_33 ?_
      refine lv_istore (lv' := [(4, .int (zI (n - 1))), (0, .ref xa), (1, .long v), (3, .int (zI n))]) hx hb dX4_type_34 hl (by decide) rfl (fun ls hl => ?_)
      exact lp_X4_type_36 l D cB cI cZ cM xa ta ga ma im pa qpa tr yb tx ln ax ts tk vl dt ht v n hln hn0 M hK hA (n.toNat + 1) n.toNat (n - 1) (tx, ln) (Nat.lt_succ_self _) (by omega) (by omega) (by dsimp only; omega) (by omega) (by rfl) _ _ hP hD hS _ (lv_sub hl [1, 2, 3, 0] rfl)
    refine lv_bipush (v := zI (-3)) hx hb dX4_type_28 (by decide) ?_
    exact wr_reti M dX4_type_30 (u := (tx, ln)) ⟨(congrArg zI (by rw [if_pos (by omega), if_pos (by omega)])), (by unfold tyA; rw [if_neg (by omega)])⟩ hP hD hS
  refine lv_iconst (v := zI (-1)) hx hb dX4_type_11 rfl ?_
  exact wr_reti M dX4_type_12 (u := (tx, ln)) ⟨(congrArg zI (by rw [if_neg (by omega)])), (by unfold tyA; rw [if_neg (by omega)])⟩ hP hD hS
