theorem hd_J0_checkIndex_df160 : yJ0_checkIndex_df160.cls ≠ "java/lang/invoke/MethodHandle" ∧ yJ0_checkIndex_df160.cls ≠ "java/lang/invoke/VarHandle" ∧ (parseMethodDescriptor yJ0_checkIndex_df160.desc).map (fun d => d.parameters.length) = some 2 := by decide +kernel
theorem hd_J0_coder_7d493 : yJ0_coder_7d493.cls ≠ "java/lang/invoke/MethodHandle" ∧ yJ0_coder_7d493.cls ≠ "java/lang/invoke/VarHandle" ∧ (parseMethodDescriptor yJ0_coder_7d493.desc).map (fun d => d.parameters.length) = some 0 := by decide +kernel
theorem hd_J0_isLatin1_aae02 : yJ0_isLatin1_aae02.cls ≠ "java/lang/invoke/MethodHandle" ∧ yJ0_isLatin1_aae02.cls ≠ "java/lang/invoke/VarHandle" ∧ (parseMethodDescriptor yJ0_isLatin1_aae02.desc).map (fun d => d.parameters.length) = some 0 := by decide +kernel
theorem hd_J1_charAt_3b067 : yJ1_charAt_3b067.cls ≠ "java/lang/invoke/MethodHandle" ∧ yJ1_charAt_3b067.cls ≠ "java/lang/invoke/VarHandle" ∧ (parseMethodDescriptor yJ1_charAt_3b067.desc).map (fun d => d.parameters.length) = some 2 := by decide +kernel
theorem hd_J3_checkIndex_8e157 : yJ3_checkIndex_8e157.cls ≠ "java/lang/invoke/MethodHandle" ∧ yJ3_checkIndex_8e157.cls ≠ "java/lang/invoke/VarHandle" ∧ (parseMethodDescriptor yJ3_checkIndex_8e157.desc).map (fun d => d.parameters.length) = some 3 := by decide +kernel
set_option maxHeartbeats 4000000 in
set_option maxRecDepth 100000 in
theorem c_J0_coder_7d493 (l : Launch) (D : va_G) (cB cI cZ cM : ClassId) (Hp : Heap) (K V : Nat → Nat) (i : Nat) (hi : i < 11) : cPe l yJ0_coder_7d493 wsJ0_coder_7d493 0 0 D (TYS cB cI cZ cM) [.ref (K i)] [] Hp K V (fun r => r = zI 0) := by
  refine pue_startG (Qc := fun h => Qpu h (fun r => r = zI 0)) (by decide) rfl (Nat.le_of_ble_eq_true rfl) ?_
  intro pg ev sx mm args below meth cd ls M hP hK hE hl
  show W pg l ev _ sx mm args below meth cd sx.heap [] 0 0 (QP below args sx (fun r => r = zI 0)) _
  obtain ⟨hx, hb, hr, hml, hown, hts, hlk, hN0⟩ := id M
  have hl : lv_has ls 1 [(0, .ref (K i))] := hl
  refine va_gets hx hb hE.2.2.1 va_S.rf hown (hts (.fieldLink RJ0 38 "java/lang/String" "COMPACT_STRINGS" "Z") (by decide +kernel)) (fun _ h9 => h9) dJ0_coder_7d493_0 ?_
  refine z_top (y := zI 1) (by decide) ?_
  refine z_if_eq (tgt := 13) hx hb dJ0_coder_7d493_3 (by decide) (by omega) (fun c_3 => ?_) (fun c_3 => ?_)
  · skip
    exfalso; omega
  refine lv_aload_n hx hb dJ0_coder_7d493_6 rfl (lv_at hl 0 rfl) ?_
  refine vk_getf hx hb (hE.1.1 i (hi)).2.1 va_S.rf hown (hts (.fieldLink RJ0 15 "java/lang/String" "coder" "B") (by decide +kernel)) (fun _ h9 => h9) dJ0_coder_7d493_7 ?_
  refine z_top (y := zI 0) (by decide) ?_
  refine lv_goto (tgt := 14) hx hb dJ0_coder_7d493_10 (by decide) ?_
  exact pu_retz M (rfl) dJ0_coder_7d493_14 (congrArg zI (by rfl))
set_option maxHeartbeats 4000000 in
set_option maxRecDepth 100000 in
theorem c_J0_length_8abf5 (l : Launch) (D : va_G) (cB cI cZ cM : ClassId) (Hp : Heap) (K V : Nat → Nat) (i : Nat) (hi : i < 11) : cPe l yJ0_length_8abf5 wsJ0_length_8abf5 1 20 D (TYS cB cI cZ cM) [.ref (K i)] [] Hp K V (fun r => r = zI (strLen.getD i 0 : Nat)) := by
  refine pue_startG (Qc := fun h => Qpu h (fun r => r = zI (strLen.getD i 0 : Nat))) (by decide) rfl (Nat.le_of_ble_eq_true rfl) ?_
  intro pg ev sx mm args below meth cd ls M hP hK hE hl
  show W pg l ev _ sx mm args below meth cd sx.heap [] 0 0 (QP below args sx (fun r => r = zI (strLen.getD i 0 : Nat))) _
  obtain ⟨hx, hb, hr, hml, hown, hts, hlk, hN0⟩ := id M
  have hl : lv_has ls 1 [(0, .ref (K i))] := hl
  refine lv_aload_n hx hb dJ0_length_8abf5_0 rfl (lv_at hl 0 rfl) ?_
  refine vk_getf hx hb (hE.1.1 i (hi)).2.2.1 va_S.rf hown (hts (.fieldLink RJ0 9 "java/lang/String" "value" "[B") (by decide +kernel)) (fun _ h9 => h9) dJ0_length_8abf5_1 ?_
  refine va_tlen hx hb (hE.1.1 i (hi)).2.2.2 va_S.rf (v := zI (strLen.getD i 0 : Nat)) (zI_nat _) dJ0_length_8abf5_4 ?_
  refine lv_aload_n hx hb dJ0_length_8abf5_5 rfl (lv_at hl 0 rfl) ?_
  refine pce_V (As := []) (rest := [.int (zI (strLen.getD i 0 : Nat))]) M (c_J0_coder_7d493 l D cB cI cZ cM _ K V i (by first | assumption | omega)) gJ0_length_8abf5_J0_coder_7d493 rfl ⟨rfl, hd_J0_coder_7d493⟩ ⟨Nat.le_of_ble_eq_true rfl, Nat.le_of_ble_eq_true rfl⟩ hK hP [] rfl hE (vk_recv hE.1 (hi) va_S.rf) hl.1 rfl rfl (Nat.le_of_ble_eq_true rfl) dJ0_length_8abf5_6 ⟨Nat.le_of_ble_eq_true rfl, Nat.le_of_ble_eq_true rfl⟩ (fun r_6 h_6 => ?_)
  subst h_6
  have h7 := strLen_rng i hi
  refine z_ishr hx hb dJ0_length_8abf5_9 (by omega) ?_
  exact pu_ret M dJ0_length_8abf5_10 (congrArg zI (by exact zshr0 _ (by omega)))
set_option maxHeartbeats 4000000 in
set_option maxRecDepth 100000 in
theorem c_J0_isLatin1_aae02 (l : Launch) (D : va_G) (cB cI cZ cM : ClassId) (Hp : Heap) (K V : Nat → Nat) (i : Nat) (hi : i < 11) : cPe l yJ0_isLatin1_aae02 wsJ0_isLatin1_aae02 0 0 D (TYS cB cI cZ cM) [.ref (K i)] [] Hp K V (fun r => r = zI 1) := by
  refine pue_startG (Qc := fun h => Qpu h (fun r => r = zI 1)) (by decide) rfl (Nat.le_of_ble_eq_true rfl) ?_
  intro pg ev sx mm args below meth cd ls M hP hK hE hl
  show W pg l ev _ sx mm args below meth cd sx.heap [] 0 0 (QP below args sx (fun r => r = zI 1)) _
  obtain ⟨hx, hb, hr, hml, hown, hts, hlk, hN0⟩ := id M
  have hl : lv_has ls 1 [(0, .ref (K i))] := hl
  refine va_gets hx hb hE.2.2.1 va_S.rf hown (hts (.fieldLink RJ0 38 "java/lang/String" "COMPACT_STRINGS" "Z") (by decide +kernel)) (fun _ h9 => h9) dJ0_isLatin1_aae02_0 ?_
  refine z_top (y := zI 1) (by decide) ?_
  refine z_if_eq (tgt := 17) hx hb dJ0_isLatin1_aae02_3 (by decide) (by omega) (fun c_3 => ?_) (fun c_3 => ?_)
  · skip
    exfalso; omega
  refine lv_aload_n hx hb dJ0_isLatin1_aae02_6 rfl (lv_at hl 0 rfl) ?_
  refine vk_getf hx hb (hE.1.1 i (hi)).2.1 va_S.rf hown (hts (.fieldLink RJ0 15 "java/lang/String" "coder" "B") (by decide +kernel)) (fun _ h9 => h9) dJ0_isLatin1_aae02_7 ?_
  refine z_top (y := zI 0) (by decide) ?_
  refine z_if_ne (tgt := 17) hx hb dJ0_isLatin1_aae02_10 (by decide) (by omega) (fun c_10 => ?_) (fun c_10 => ?_)
  · skip
    exfalso; omega
  refine lv_iconst (v := zI 1) hx hb dJ0_isLatin1_aae02_13 rfl ?_
  refine lv_goto (tgt := 18) hx hb dJ0_isLatin1_aae02_14 (by decide) ?_
  exact pu_retz M (rfl) dJ0_isLatin1_aae02_18 (congrArg zI (by rfl))
set_option maxHeartbeats 4000000 in
set_option maxRecDepth 100000 in
theorem c_J3_checkIndex_n (l : Launch) (D : va_G) (cB cI cZ cM : ClassId) (Hp : Heap) (x : Int) (n : Int) (hx0 : 0 ≤ x ∧ x < n) (hn0 : n < 2147483648) : cP l yJ3_checkIndex_8e157 wsJ3_checkIndex_8e157 0 0 D (TYS cB cI cZ cM) [.int (zI x), .int (zI n), .null] [] Hp (fun r => r = zI x) := by
  refine pu_start (by decide) rfl (Nat.le_of_ble_eq_true rfl) ?_
  intro pg ev sx mm args below meth cd ls M hP hK hl
  obtain ⟨hx, hb, hr, hml, hown, hts, hlk, hN0⟩ := id M
  have hl : lv_has ls 3 [(0, .int (zI x)), (1, .int (zI n)), (2, .null)] := hl
  refine lv_iload_n hx hb dJ3_checkIndex_8e157_0 rfl (lv_at hl 0 rfl) ?_
  refine z_if_lt (tgt := 9) hx hb dJ3_checkIndex_8e157_1 (by decide) (by omega) (fun c_1 => ?_) (fun c_1 => ?_)
  · skip
    exfalso; omega
  refine lv_iload_n hx hb dJ3_checkIndex_8e157_4 rfl (lv_at hl 0 rfl) ?_
  refine lv_iload_n hx hb dJ3_checkIndex_8e157_5 rfl (lv_at hl 1 rfl) ?_
  refine z_icmp_lt (tgt := 16) hx hb dJ3_checkIndex_8e157_6 (by decide) (by omega) (fun c_6 => ?_) (fun c_6 => ?_)
  · skip
    refine lv_iload_n hx hb dJ3_checkIndex_8e157_16 rfl (lv_at hl 0 rfl) ?_
    exact pu_ret M dJ3_checkIndex_8e157_17 (congrArg zI (by rfl))
  exfalso; omega
set_option maxHeartbeats 4000000 in
set_option maxRecDepth 100000 in
theorem c_J3_checkIndex_r (l : Launch) (D : va_G) (cB cI cZ cM : ClassId) (Hp : Heap) (x : Int) (n : Int) (t : Nat) (hx0 : 0 ≤ x ∧ x < n) (hn0 : n < 2147483648) : cP l yJ3_checkIndex_8e157 wsJ3_checkIndex_8e157 0 0 D (TYS cB cI cZ cM) [.int (zI x), .int (zI n), .ref t] [] Hp (fun r => r = zI x) := by
  refine pu_start (by decide) rfl (Nat.le_of_ble_eq_true rfl) ?_
  intro pg ev sx mm args below meth cd ls M hP hK hl
  obtain ⟨hx, hb, hr, hml, hown, hts, hlk, hN0⟩ := id M
  have hl : lv_has ls 3 [(0, .int (zI x)), (1, .int (zI n)), (2, .ref t)] := hl
  refine lv_iload_n hx hb dJ3_checkIndex_8e157_0 rfl (lv_at hl 0 rfl) ?_
  refine z_if_lt (tgt := 9) hx hb dJ3_checkIndex_8e157_1 (by decide) (by omega) (fun c_1 => ?_) (fun c_1 => ?_)
  · skip
    exfalso; omega
  refine lv_iload_n hx hb dJ3_checkIndex_8e157_4 rfl (lv_at hl 0 rfl) ?_
  refine lv_iload_n hx hb dJ3_checkIndex_8e157_5 rfl (lv_at hl 1 rfl) ?_
  refine z_icmp_lt (tgt := 16) hx hb dJ3_checkIndex_8e157_6 (by decide) (by omega) (fun c_6 => ?_) (fun c_6 => ?_)
  · skip
    refine lv_iload_n hx hb dJ3_checkIndex_8e157_16 rfl (lv_at hl 0 rfl) ?_
    exact pu_ret M dJ3_checkIndex_8e157_17 (congrArg zI (by rfl))
  exfalso; omega
set_option maxHeartbeats 4000000 in
set_option maxRecDepth 100000 in
theorem c_J0_checkIndex_df160 (l : Launch) (D : va_G) (cB cI cZ cM : ClassId) (Hp : Heap) (K V : Nat → Nat) (x : Int) (n : Int) (hx0 : 0 ≤ x ∧ x < n) (hn0 : n < 2147483648) : cPev l yJ0_checkIndex_df160 wsJ0_checkIndex_df160 1 22 D (TYS cB cI cZ cM) [.int (zI x), .int (zI n)] [] Hp K V := by
  refine pue_startG (Qc := fun h => Qpv h) (by decide) rfl (Nat.le_of_ble_eq_true rfl) ?_
  intro pg ev sx mm args below meth cd ls M hP hK hE hl
  show W pg l ev _ sx mm args below meth cd sx.heap [] 0 0 (MQ below (Qpv sx.heap) args sx 0 0 (fun _ => False)) _
  obtain ⟨hx, hb, hr, hml, hown, hts, hlk, hN0⟩ := id M
  have hl : lv_has ls 2 [(0, .int (zI x)), (1, .int (zI n))] := hl
  refine lv_iload_n hx hb dJ0_checkIndex_df160_0 rfl (lv_at hl 0 rfl) ?_
  refine lv_iload_n hx hb dJ0_checkIndex_df160_1 rfl (lv_at hl 1 rfl) ?_
  rcases hE.2.2.2 with hz9 | ⟨t9, hz9⟩
  · skip
    refine va_gets hx hb hz9 va_S.rf hown (hts (.fieldLink RJ0 1053 "jdk/internal/util/Preconditions" "SIOOBE_FORMATTER" "Ljava/util/function/BiFunction;") (by decide +kernel)) (fun _ h9 => h9) dJ0_checkIndex_df160_2 ?_
    refine pc_J (As := [.int (zI x), .int (zI n), .null]) (rest := []) M (c_J3_checkIndex_n l D cB cI cZ cM _ x n (by first | assumption | omega) (by first | assumption | omega)) gJ0_checkIndex_df160_J3_checkIndex_8e157 rfl hd_J3_checkIndex_8e157 ⟨Nat.le_of_ble_eq_true rfl, Nat.le_of_ble_eq_true rfl⟩ hK hP [] rfl hl.1 rfl rfl (Nat.le_of_ble_eq_true rfl) dJ0_checkIndex_df160_5 ⟨Nat.le_of_ble_eq_true rfl, Nat.le_of_ble_eq_true rfl⟩ (fun r_5 h_5 => ?_)
    subst h_5
    refine lv_pop hx hb dJ0_checkIndex_df160_8 rfl ?_
    exact pe_vret M dJ0_checkIndex_df160_9
  refine va_gets hx hb hz9 va_S.rf hown (hts (.fieldLink RJ0 1053 "jdk/internal/util/Preconditions" "SIOOBE_FORMATTER" "Ljava/util/function/BiFunction;") (by decide +kernel)) (fun _ h9 => h9) dJ0_checkIndex_df160_2 ?_
  refine pc_J (As := [.int (zI x), .int (zI n), .ref t9]) (rest := []) M (c_J3_checkIndex_r l D cB cI cZ cM _ x n t9 (by first | assumption | omega) (by first | assumption | omega)) gJ0_checkIndex_df160_J3_checkIndex_8e157 rfl hd_J3_checkIndex_8e157 ⟨Nat.le_of_ble_eq_true rfl, Nat.le_of_ble_eq_true rfl⟩ hK hP [] rfl hl.1 rfl rfl (Nat.le_of_ble_eq_true rfl) dJ0_checkIndex_df160_5 ⟨Nat.le_of_ble_eq_true rfl, Nat.le_of_ble_eq_true rfl⟩ (fun r_5 h_5 => ?_)
  subst h_5
  refine lv_pop hx hb dJ0_checkIndex_df160_8 rfl ?_
  exact pe_vret M dJ0_checkIndex_df160_9
set_option maxHeartbeats 4000000 in
set_option maxRecDepth 100000 in
theorem c_J1_charAt_3b067 (l : Launch) (D : va_G) (cB cI cZ cM : ClassId) (Hp : Heap) (K V : Nat → Nat) (i : Nat) (k : Int) (hi : i < 11) (hk : 0 ≤ k ∧ k < (strLen.getD i 0 : Nat)) : cPe l yJ1_charAt_3b067 wsJ1_charAt_3b067 2 43 D (TYS cB cI cZ cM) [.ref (V i), .int (zI k)] [] Hp K V (fun r => r = zI (strC i k)) := by
  refine pue_startG (Qc := fun h => Qpu h (fun r => r = zI (strC i k))) (by decide) rfl (Nat.le_of_ble_eq_true rfl) ?_
  intro pg ev sx mm args below meth cd ls M hP hK hE hl
  show W pg l ev _ sx mm args below meth cd sx.heap [] 0 0 (QP below args sx (fun r => r = zI (strC i k))) _
  obtain ⟨hx, hb, hr, hml, hown, hts, hlk, hN0⟩ := id M
  have hl : lv_has ls 2 [(0, .ref (V i)), (1, .int (zI k))] := hl
  refine lv_iload_n hx hb dJ1_charAt_3b067_0 rfl (lv_at hl 1 rfl) ?_
  refine lv_aload_n hx hb dJ1_charAt_3b067_1 rfl (lv_at hl 0 rfl) ?_
  refine va_tlen hx hb (hE.1.1 i (hi)).2.2.2 va_S.rf (v := zI (strLen.getD i 0 : Nat)) (zI_nat _) dJ1_charAt_3b067_2 ?_
  have h7 := strLen_rng i hi
  refine pce_Jv (As := [.int (zI k), .int (zI (strLen.getD i 0 : Nat))]) (rest := []) M (c_J0_checkIndex_df160 l D cB cI cZ cM _ K V k (strLen.getD i 0 : Nat) (by first | assumption | omega) (by first | assumption | omega)) gJ1_charAt_3b067_J0_checkIndex_df160 rfl hd_J0_checkIndex_df160 ⟨Nat.le_of_ble_eq_true rfl, Nat.le_of_ble_eq_true rfl⟩ hK hP [] rfl hE hl.1 rfl rfl (Nat.le_of_ble_eq_true rfl) dJ1_charAt_3b067_3 ⟨Nat.le_of_ble_eq_true rfl, Nat.le_of_ble_eq_true rfl⟩ ?_
  refine lv_aload_n hx hb dJ1_charAt_3b067_6 rfl (lv_at hl 0 rfl) ?_
  refine lv_iload_n hx hb dJ1_charAt_3b067_7 rfl (lv_at hl 1 rfl) ?_
  have h7 := strLen_rng i hi
  refine va_tb hx hb (hE.1.1 i (hi)).2.2.2 va_S.rf (zI_in (by omega) (by omega)) rfl dJ1_charAt_3b067_8 ?_
  refine lv_sipush (v := zI 255) hx hb dJ1_charAt_3b067_9 (by decide) ?_
  refine lv_iand hx hb dJ1_charAt_3b067_12 ?_
  refine lv_i2c hx hb dJ1_charAt_3b067_13 rfl ?_
  exact pu_retz M (by rw [str_ch hi hk]; exact zchar (by have := strC_rng hi hk; omega)) dJ1_charAt_3b067_14 (by exact str_ch hi hk)
set_option maxHeartbeats 4000000 in
set_option maxRecDepth 100000 in
theorem c_J0_charAt_5068e (l : Launch) (D : va_G) (cB cI cZ cM : ClassId) (Hp : Heap) (K V : Nat → Nat) (i : Nat) (k : Int) (hi : i < 11) (hk : 0 ≤ k ∧ k < (strLen.getD i 0 : Nat)) : cPe l yJ0_charAt_5068e wsJ0_charAt_5068e 3 64 D (TYS cB cI cZ cM) [.ref (K i), .int (zI k)] [] Hp K V (fun r => r = zI (strC i k)) := by
  refine pue_startG (Qc := fun h => Qpu h (fun r => r = zI (strC i k))) (by decide) rfl (Nat.le_of_ble_eq_true rfl) ?_
  intro pg ev sx mm args below meth cd ls M hP hK hE hl
  show W pg l ev _ sx mm args below meth cd sx.heap [] 0 0 (QP below args sx (fun r => r = zI (strC i k))) _
  obtain ⟨hx, hb, hr, hml, hown, hts, hlk, hN0⟩ := id M
  have hl : lv_has ls 2 [(0, .ref (K i)), (1, .int (zI k))] := hl
  refine lv_aload_n hx hb dJ0_charAt_5068e_0 rfl (lv_at hl 0 rfl) ?_
  refine pce_V (As := []) (rest := []) M (c_J0_isLatin1_aae02 l D cB cI cZ cM _ K V i (by first | assumption | omega)) gJ0_charAt_5068e_J0_isLatin1_aae02 rfl ⟨rfl, hd_J0_isLatin1_aae02⟩ ⟨Nat.le_of_ble_eq_true rfl, Nat.le_of_ble_eq_true rfl⟩ hK hP [] rfl hE (vk_recv hE.1 (hi) va_S.rf) hl.1 rfl rfl (Nat.le_of_ble_eq_true rfl) dJ0_charAt_5068e_1 ⟨Nat.le_of_ble_eq_true rfl, Nat.le_of_ble_eq_true rfl⟩ (fun r_1 h_1 => ?_)
  subst h_1
  refine z_if_eq (tgt := 16) hx hb dJ0_charAt_5068e_4 (by decide) (by omega) (fun c_4 => ?_) (fun c_4 => ?_)
  · skip
    exfalso; omega
  refine lv_aload_n hx hb dJ0_charAt_5068e_7 rfl (lv_at hl 0 rfl) ?_
  refine vk_getf hx hb (hE.1.1 i (hi)).2.2.1 va_S.rf hown (hts (.fieldLink RJ0 9 "java/lang/String" "value" "[B") (by decide +kernel)) (fun _ h9 => h9) dJ0_charAt_5068e_8 ?_
  refine lv_iload_n hx hb dJ0_charAt_5068e_11 rfl (lv_at hl 1 rfl) ?_
  refine pce_J (As := [.ref (V i), .int (zI k)]) (rest := []) M (c_J1_charAt_3b067 l D cB cI cZ cM _ K V i k (by first | assumption | omega) (by first | assumption | omega)) gJ0_charAt_5068e_J1_charAt_3b067 rfl hd_J1_charAt_3b067 ⟨Nat.le_of_ble_eq_true rfl, Nat.le_of_ble_eq_true rfl⟩ hK hP [] rfl hE hl.1 rfl rfl (Nat.le_of_ble_eq_true rfl) dJ0_charAt_5068e_12 ⟨Nat.le_of_ble_eq_true rfl, Nat.le_of_ble_eq_true rfl⟩ (fun r_12 h_12 => ?_)
  subst h_12
  exact pu_retz M (zchar (by have := strC_rng hi hk; omega)) dJ0_charAt_5068e_15 (congrArg zI (by rfl))
