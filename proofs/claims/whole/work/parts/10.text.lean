theorem inc_X3_append_3 : ∀ w ∈ wsX30, w ∈ wsX3_append := by decide +kernel
theorem inc_X3_byteAt_3 : ∀ w ∈ wsX30, w ∈ wsX3_byteAt := by decide +kernel
theorem inc_X3_isSpelled_3 : ∀ w ∈ wsX30, w ∈ wsX3_isSpelled := by decide +kernel
theorem inc_X3_readWord_3 : ∀ w ∈ wsX30, w ∈ wsX3_readWord := by decide +kernel
theorem hd_J0_charAt_5068e : yJ0_charAt_5068e.cls ≠ "java/lang/invoke/MethodHandle" ∧ yJ0_charAt_5068e.cls ≠ "java/lang/invoke/VarHandle" ∧ (parseMethodDescriptor yJ0_charAt_5068e.desc).map (fun d => d.parameters.length) = some 1 := by decide +kernel
theorem hd_J0_length_8abf5 : yJ0_length_8abf5.cls ≠ "java/lang/invoke/MethodHandle" ∧ yJ0_length_8abf5.cls ≠ "java/lang/invoke/VarHandle" ∧ (parseMethodDescriptor yJ0_length_8abf5.desc).map (fun d => d.parameters.length) = some 0 := by decide +kernel
theorem hd_X3_byteAt : yX3_byteAt.cls ≠ "java/lang/invoke/MethodHandle" ∧ yX3_byteAt.cls ≠ "java/lang/invoke/VarHandle" ∧ (parseMethodDescriptor yX3_byteAt.desc).map (fun d => d.parameters.length) = some 1 := by decide +kernel
theorem hd_X3_isLetter : yX3_isLetter.cls ≠ "java/lang/invoke/MethodHandle" ∧ yX3_isLetter.cls ≠ "java/lang/invoke/VarHandle" ∧ (parseMethodDescriptor yX3_isLetter.desc).map (fun d => d.parameters.length) = some 1 := by decide +kernel
theorem hd_X3_isSpelled : yX3_isSpelled.cls ≠ "java/lang/invoke/MethodHandle" ∧ yX3_isSpelled.cls ≠ "java/lang/invoke/VarHandle" ∧ (parseMethodDescriptor yX3_isSpelled.desc).map (fun d => d.parameters.length) = some 1 := by decide +kernel
theorem hd_X3_spelling : yX3_spelling.cls ≠ "java/lang/invoke/MethodHandle" ∧ yX3_spelling.cls ≠ "java/lang/invoke/VarHandle" ∧ (parseMethodDescriptor yX3_spelling.desc).map (fun d => d.parameters.length) = some 1 := by decide +kernel
set_option maxHeartbeats 4000000 in
set_option maxRecDepth 100000 in
theorem c_X3_byteAt (l : Launch) (D : va_G) (cB cI cZ cM : ClassId) (Hp : Heap) (ta : Nat) (yb : Nat) (tx : Int → Int) (ln : Int) (ax : Int) (ts : Int) (tk : Int) (vl : Int) (dt : Int) (ht : Int) (i : Int) (hln : 0 ≤ ln ∧ ln ≤ 200) (hi0 : -2147483648 ≤ i ∧ i < 2147483648) : cP l yX3_byteAt wsX3_byteAt 0 0 D (TYS cB cI cZ cM) [.ref ta, .int (zI i)] [(ta, .inr (3, [.ref yb, .int (zI ln), .int (zI ax), .int (zI ts), .int (zI tk), .int (zI vl), .int (zI dt), .int (zI ht)])), (yb, .inl (cI, 200, .inl (zia tx)))] Hp (fun r => r = zI (btA tx ln i)) := by
  refine pu_start (by decide) rfl (Nat.le_of_ble_eq_true rfl) ?_
  intro pg ev sx mm args below meth cd ls M hP hK hl
  obtain ⟨hx, hb, hr, hml, hown, hts, hlk, hN0⟩ := id M
  have hl : lv_has ls 2 [(0, .ref ta), (1, .int (zI i))] := hl
  refine lv_iload_n hx hb dX3_byteAt_0 rfl (lv_at hl 1 rfl) ?_
  refine z_if_lt (tgt := 30) hx hb dX3_byteAt_1 (by decide) (by omega) (fun c_1 => ?_) (fun c_1 => ?_)
  · skip
    refine lv_iconst (v := zI (-1)) hx hb dX3_byteAt_30 rfl ?_
    exact pu_ret M dX3_byteAt_31 (congrArg zI (by unfold btA; rw [if_neg (by omega)]))
  refine lv_iload_n hx hb dX3_byteAt_4 rfl (lv_at hl 1 rfl) ?_
  refine lv_aload_n hx hb dX3_byteAt_5 rfl (lv_at hl 0 rfl) ?_
  refine va_get (D := D) (ci := 3) (C := RX3) (T := TX3) (N := 8) hx hb hts inc_X3_byteAt_3 hown hK hP 0 rfl rfl 1 (by decide) (hts (.fieldLink RX3 15 "BedHouse$Text" "length" "I") (by decide +kernel)) (fun _ h9 => h9) rfl dX3_byteAt_6 ?_
  refine z_icmp_ge (tgt := 30) hx hb dX3_byteAt_9 (by decide) (by omega) (fun c_9 => ?_) (fun c_9 => ?_)
  · skip
    refine lv_iconst (v := zI (-1)) hx hb dX3_byteAt_30 rfl ?_
    exact pu_ret M dX3_byteAt_31 (congrArg zI (by unfold btA; rw [if_neg (by omega)]))
  refine lv_iload_n hx hb dX3_byteAt_12 rfl (lv_at hl 1 rfl) ?_
  refine lv_aload_n hx hb dX3_byteAt_13 rfl (lv_at hl 0 rfl) ?_
  refine va_get (D := D) (ci := 3) (C := RX3) (T := TX3) (N := 8) hx hb hts inc_X3_byteAt_3 hown hK hP 0 rfl rfl 0 (by decide) (hts (.fieldLink RX3 11 "BedHouse$Text" "bytes" "[I") (by decide +kernel)) (fun _ h9 => h9) rfl dX3_byteAt_14 ?_
  refine z_alen (n := 200) hx hb hK hP 1 1 rfl rfl dX3_byteAt_17 ?_
  refine z_icmp_ge (tgt := 30) hx hb dX3_byteAt_18 (by decide) (by omega) (fun c_18 => ?_) (fun c_18 => ?_)
  · skip
    refine lv_iconst (v := zI (-1)) hx hb dX3_byteAt_30 rfl ?_
    exact pu_ret M dX3_byteAt_31 (congrArg zI (by unfold btA; rw [if_neg (by omega)]))
  refine lv_aload_n hx hb dX3_byteAt_21 rfl (lv_at hl 0 rfl) ?_
  refine va_get (D := D) (ci := 3) (C := RX3) (T := TX3) (N := 8) hx hb hts inc_X3_byteAt_3 hown hK hP 0 rfl rfl 0 (by decide) (hts (.fieldLink RX3 11 "BedHouse$Text" "bytes" "[I") (by decide +kernel)) (fun _ h9 => h9) rfl dX3_byteAt_22 ?_
  refine lv_iload_n hx hb dX3_byteAt_25 rfl (lv_at hl 1 rfl) ?_
  refine z_iald hx hb hK hP 1 1 rfl rfl (Nat.le_of_ble_eq_true rfl) dX3_byteAt_26 (by omega) ?_
  refine lv_goto (tgt := 31) hx hb dX3_byteAt_27 (by decide) ?_
  exact pu_ret M dX3_byteAt_31 (congrArg zI (by unfold btA; rw [if_pos (by omega)]))
set_option maxHeartbeats 4000000 in
set_option maxRecDepth 100000 in
theorem c_X3_append (l : Launch) (D : va_G) (cB cI cZ cM : ClassId) (Hp : Heap) (ta : Nat) (yb : Nat) (tx : Int → Int) (ln : Int) (ax : Int) (ts : Int) (tk : Int) (vl : Int) (dt : Int) (ht : Int) (o : Int) (hln : 0 ≤ ln ∧ ln < 200) : cWv l yX3_append wsX3_append (rmW 0 0 0 0) D (TYS cB cI cZ cM) [.ref ta, .int (zI o)] [(ta, .inr (3, [.ref yb, .int (zI ln), .int (zI ax), .int (zI ts), .int (zI tk), .int (zI vl), .int (zI dt), .int (zI ht)])), (yb, .inl (cI, 200, .inl (zia tx)))] Hp (fun (_u : Unit) => True) (fun (_u : Unit) => [(ta, .inr (3, [.ref yb, .int (zI (ln + 1)), .int (zI ax), .int (zI ts), .int (zI tk), .int (zI vl), .int (zI dt), .int (zI ht)])), (yb, .inl (cI, 200, .inl (zia (zup tx ln o))))]) 0 0 := by
  refine wr_startv (by decide) rfl (Nat.le_of_ble_eq_true rfl) ?_
  intro pg ev sx mm args below meth cd ls A M hP hD hS hA hK hl
  obtain ⟨hx, hb, hr, hml, hown, hts, hlk, hN0⟩ := id M
  have hl : lv_has ls 2 [(0, .ref ta), (1, .int (zI o))] := hl
  refine W.widen (k := 0) (n := 0) (Nat.zero_le _) (Nat.zero_le _) ?_
  refine lv_aload_n hx hb dX3_append_0 rfl (lv_at hl 0 rfl) ?_
  refine va_get (D := D) (ci := 3) (C := RX3) (T := TX3) (N := 8) hx hb hts inc_X3_append_3 hown hK hP 0 rfl rfl 1 (by decide) (hts (.fieldLink RX3 15 "BedHouse$Text" "length" "I") (by decide +kernel)) (fun _ h9 => h9) rfl dX3_append_1 ?_
  refine z_if_lt (tgt := 39) hx hb dX3_append_4 (by decide) (by omega) (fun c_4 => ?_) (fun c_4 => ?_)
  · skip
    exfalso; omega
  refine lv_aload_n hx hb dX3_append_7 rfl (lv_at hl 0 rfl) ?_
  refine va_get (D := D) (ci := 3) (C := RX3) (T := TX3) (N := 8) hx hb hts inc_X3_append_3 hown hK hP 0 rfl rfl 1 (by decide) (hts (.fieldLink RX3 15 "BedHouse$Text" "length" "I") (by decide +kernel)) (fun _ h9 => h9) rfl dX3_append_8 ?_
  refine lv_aload_n hx hb dX3_append_11 rfl (lv_at hl 0 rfl) ?_
  refine va_get (D := D) (ci := 3) (C := RX3) (T := TX3) (N := 8) hx hb hts inc_X3_append_3 hown hK hP 0 rfl rfl 0 (by decide) (hts (.fieldLink RX3 11 "BedHouse$Text" "bytes" "[I") (by decide +kernel)) (fun _ h9 => h9) rfl dX3_append_12 ?_
  refine z_alen (n := 200) hx hb hK hP 1 1 rfl rfl dX3_append_15 ?_
  refine z_icmp_ge (tgt := 39) hx hb dX3_append_16 (by decide) (by omega) (fun c_16 => ?_) (fun c_16 => ?_)
  · skip
    exfalso; omega
  refine lv_aload_n hx hb dX3_append_19 rfl (lv_at hl 0 rfl) ?_
  refine va_get (D := D) (ci := 3) (C := RX3) (T := TX3) (N := 8) hx hb hts inc_X3_append_3 hown hK hP 0 rfl rfl 0 (by decide) (hts (.fieldLink RX3 11 "BedHouse$Text" "bytes" "[I") (by decide +kernel)) (fun _ h9 => h9) rfl dX3_append_20 ?_
  refine lv_aload_n hx hb dX3_append_23 rfl (lv_at hl 0 rfl) ?_
  refine va_get (D := D) (ci := 3) (C := RX3) (T := TX3) (N := 8) hx hb hts inc_X3_append_3 hown hK hP 0 rfl rfl 1 (by decide) (hts (.fieldLink RX3 15 "BedHouse$Text" "length" "I") (by decide +kernel)) (fun _ h9 => h9) rfl dX3_append_24 ?_
  refine lv_iload_n hx hb dX3_append_27 rfl (lv_at hl 1 rfl) ?_
  refine z_iast (ws' := [(ta, .inr (3, [.ref yb, .int (zI ln), .int (zI ax), .int (zI ts), .int (zI tk), .int (zI vl), .int (zI dt), .int (zI ht)])), (yb, .inl (cI, 200, .inl (zia (zup tx ln o))))]) hx hb hK hP hD hS 1 1 rfl rfl (Nat.le_of_ble_eq_true rfl) dX3_append_28 rfl (by omega) (fun H locs hP hD hS => ?_)
  refine lv_aload_n hx hb dX3_append_29 rfl (lv_at hl 0 rfl) ?_
  refine lv_dup hx hb dX3_append_30 rfl ?_
  refine va_get (D := D) (ci := 3) (C := RX3) (T := TX3) (N := 8) hx hb hts inc_X3_append_3 hown hK hP 0 rfl rfl 1 (by decide) (hts (.fieldLink RX3 15 "BedHouse$Text" "length" "I") (by decide +kernel)) (fun _ h9 => h9) rfl dX3_append_31 ?_
  refine lv_iconst (v := zI 1) hx hb dX3_append_34 rfl ?_
  refine z_iadd hx hb dX3_append_35 ?_
  refine va_put (D := D) (ci := 3) (v := .int (zI (ln + 1))) (ty := .int) (C := RX3) (T := TX3) (N := 8) hx hb hts inc_X3_append_3 tyX3 tyX3_ok nmX3 hown hK hP hD hS 0 rfl rfl 1 (by decide) (hts (.fieldLink RX3 15 "BedHouse$Text" "length" "I") (by decide +kernel)) (fun _ h9 => h9) rfl (by decide +kernel) rfl rfl (Nat.le_of_ble_eq_true rfl) dX3_append_36 (fun H locs hP hD hS => ?_)
  have hP : va_P D vwCl [(ta, .inr (3, [.ref yb, .int (zI (ln + 1)), .int (zI ax), .int (zI ts), .int (zI tk), .int (zI vl), .int (zI dt), .int (zI ht)])), (yb, .inl (cI, 200, .inl (zia (zup tx ln o))))] H := hP
  have hD : va_D A [(ta, .inr (3, [.ref yb, .int (zI (ln + 1)), .int (zI ax), .int (zI ts), .int (zI tk), .int (zI vl), .int (zI dt), .int (zI ht)])), (yb, .inl (cI, 200, .inl (zia (zup tx ln o))))] := hD
  exact wr_retv M dX3_append_39 (u := ()) (trivial) hP hD hS
set_option maxHeartbeats 4000000 in
set_option maxRecDepth 100000 in
theorem c_X3_isLetter (l : Launch) (D : va_G) (cB cI cZ cM : ClassId) (Hp : Heap) (c : Int) (hc0 : -2147483648 ≤ c ∧ c < 2147483648) : cP l yX3_isLetter wsX3_isLetter 0 0 D (TYS cB cI cZ cM) [.int (zI c)] [] Hp (fun r => r = zI (zb (97 ≤ c ∧ c ≤ 122))) := by
  refine pu_start (by decide) rfl (Nat.le_of_ble_eq_true rfl) ?_
  intro pg ev sx mm args below meth cd ls M hP hK hl
  obtain ⟨hx, hb, hr, hml, hown, hts, hlk, hN0⟩ := id M
  have hl : lv_has ls 1 [(0, .int (zI c))] := hl
  refine lv_iload_n hx hb dX3_isLetter_0 rfl (lv_at hl 0 rfl) ?_
  refine lv_bipush (v := zI 97) hx hb dX3_isLetter_1 (by decide) ?_
  refine z_icmp_lt (tgt := 16) hx hb dX3_isLetter_3 (by decide) (by omega) (fun c_3 => ?_) (fun c_3 => ?_)
  · skip
    refine lv_iconst (v := zI 0) hx hb dX3_isLetter_16 rfl ?_
    exact pu_retz M (rfl) dX3_isLetter_17 (congrArg zI (by unfold zb; first | (rw [if_pos (by omega)]; done) | (rw [if_neg (by omega)]; done)))
  refine lv_iload_n hx hb dX3_isLetter_6 rfl (lv_at hl 0 rfl) ?_
  refine lv_bipush (v := zI 122) hx hb dX3_isLetter_7 (by decide) ?_
  refine z_icmp_gt (tgt := 16) hx hb dX3_isLetter_9 (by decide) (by omega) (fun c_9 => ?_) (fun c_9 => ?_)
  · skip
    refine lv_iconst (v := zI 0) hx hb dX3_isLetter_16 rfl ?_
    exact pu_retz M (rfl) dX3_isLetter_17 (congrArg zI (by unfold zb; first | (rw [if_pos (by omega)]; done) | (rw [if_neg (by omega)]; done)))
  refine lv_iconst (v := zI 1) hx hb dX3_isLetter_12 rfl ?_
  refine lv_goto (tgt := 17) hx hb dX3_isLetter_13 (by decide) ?_
  exact pu_retz M (rfl) dX3_isLetter_17 (congrArg zI (by unfold zb; first | (rw [if_pos (by omega)]; done) | (rw [if_neg (by omega)]; done)))
set_option maxHeartbeats 4000000 in
set_option maxRecDepth 100000 in
theorem c_X3_isDigit (l : Launch) (D : va_G) (cB cI cZ cM : ClassId) (Hp : Heap) (c : Int) (hc0 : -2147483648 ≤ c ∧ c < 2147483648) : cP l yX3_isDigit wsX3_isDigit 0 0 D (TYS cB cI cZ cM) [.int (zI c)] [] Hp (fun r => r = zI (zb (48 ≤ c ∧ c ≤ 57))) := by
  refine pu_start (by decide) rfl (Nat.le_of_ble_eq_true rfl) ?_
  intro pg ev sx mm args below meth cd ls M hP hK hl
  obtain ⟨hx, hb, hr, hml, hown, hts, hlk, hN0⟩ := id M
  have hl : lv_has ls 1 [(0, .int (zI c))] := hl
  refine lv_iload_n hx hb dX3_isDigit_0 rfl (lv_at hl 0 rfl) ?_
  refine lv_bipush (v := zI 48) hx hb dX3_isDigit_1 (by decide) ?_
  refine z_icmp_lt (tgt := 16) hx hb dX3_isDigit_3 (by decide) (by omega) (fun c_3 => ?_) (fun c_3 => ?_)
  · skip
    refine lv_iconst (v := zI 0) hx hb dX3_isDigit_16 rfl ?_
    exact pu_retz M (rfl) dX3_isDigit_17 (congrArg zI (by unfold zb; first | (rw [if_pos (by omega)]; done) | (rw [if_neg (by omega)]; done)))
  refine lv_iload_n hx hb dX3_isDigit_6 rfl (lv_at hl 0 rfl) ?_
  refine lv_bipush (v := zI 57) hx hb dX3_isDigit_7 (by decide) ?_
  refine z_icmp_gt (tgt := 16) hx hb dX3_isDigit_9 (by decide) (by omega) (fun c_9 => ?_) (fun c_9 => ?_)
  · skip
    refine lv_iconst (v := zI 0) hx hb dX3_isDigit_16 rfl ?_
    exact pu_retz M (rfl) dX3_isDigit_17 (congrArg zI (by unfold zb; first | (rw [if_pos (by omega)]; done) | (rw [if_neg (by omega)]; done)))
  refine lv_iconst (v := zI 1) hx hb dX3_isDigit_12 rfl ?_
  refine lv_goto (tgt := 17) hx hb dX3_isDigit_13 (by decide) ?_
  exact pu_retz M (rfl) dX3_isDigit_17 (congrArg zI (by unfold zb; first | (rw [if_pos (by omega)]; done) | (rw [if_neg (by omega)]; done)))
set_option maxHeartbeats 4000000 in
set_option maxRecDepth 100000 in
theorem lp_X3_slotsFrom_4 (l : Launch) (D : va_G) (cB cI cZ cM : ClassId) (a : Int) (sz : Int) (ha : 0 ≤ a ∧ a < 8) (hsz : 0 ≤ sz ∧ sz ≤ 8) {pg : Program} {ev : Env} {sx : State} {mm : MethodId} {args : Array Value} {below : List Frame} {meth : Method} {cd : Code} (M : MX pg sx mm args meth cd cX3_slotsFrom 4 (some .int) RX3 wsX3_slotsFrom) (hP : va_P D vwCl [] sx.heap) (hK : va_K D vwCl (TYS cB cI cZ cM) sx) : ∀ (N : Nat) (n : Nat) (i : Int) (acc : Int), (n < N) → (0 ≤ i ∧ i + n = sz) → (0 ≤ acc ∧ acc < 256) → (sfF a n i acc = sfF a sz.toNat 0 0) → ∀ ls : Array Slot, lv_has ls 4 [(0, .int (zI a)), (1, .int (zI sz)), (2, .int (zI acc)), (3, .int (zI i))] → W pg l ev (rmP 0 0) sx mm args below meth cd sx.heap [] 0 0 (QP below args sx (fun r => r = zI (sfF a sz.toNat 0 0))) (F0 mm 4 ls []) := by
  intro N
  induction N with
  | zero => intro n i acc hN; exact absurd hN (Nat.not_lt_zero _)
  | succ N ih =>
    intro n i acc hN hi hac hv ls hl
    obtain ⟨hx, hb, hr, hml, hown, hts, hlk, hN0⟩ := id M
    refine lv_iload_n hx hb dX3_slotsFrom_4 rfl (lv_at hl 3 rfl) ?_
    refine lv_iload_n hx hb dX3_slotsFrom_5 rfl (lv_at hl 1 rfl) ?_
    refine z_icmp_ge (tgt := 32) hx hb dX3_slotsFrom_6 (by decide) (by omega) (fun c_6 => ?_) (fun c_6 => ?_)
    · skip
      refine lv_iload_n hx hb dX3_slotsFrom_32 rfl (lv_at hl 2 rfl) ?_
      obtain rfl : n = 0 := by omega
      exact pu_ret M dX3_slotsFrom_33 (congrArg zI (by rw [← hv]; rfl))
    obtain ⟨n, rfl⟩ : ∃ j : Nat, n = j + 1 := ⟨n - 1, by omega⟩
    refine lv_iload_n hx hb dX3_slotsFrom_9 rfl (lv_at hl 3 rfl) ?_
    refine lv_bipush (v := zI 8) hx hb dX3_slotsFrom_10 (by decide) ?_
    refine z_icmp_ge (tgt := 32) hx hb dX3_slotsFrom_12 (by decide) (by omega) (fun c_12 => ?_) (fun c_12 => ?_)
    · skip
      exfalso; omega
    refine lv_iload_n hx hb dX3_slotsFrom_15 rfl (lv_at hl 2 rfl) ?_
    refine lv_iconst (v := zI 1) hx hb dX3_slotsFrom_16 rfl ?_
    refine lv_iload_n hx hb dX3_slotsFrom_17 rfl (lv_at hl 0 rfl) ?_
    refine lv_iload_n hx hb dX3_slotsFrom_18 rfl (lv_at hl 3 rfl) ?_
    refine z_iadd hx hb dX3_slotsFrom_19 ?_
    refine lv_bipush (v := zI 8) hx hb dX3_slotsFrom_20 (by decide) ?_
    refine z_irem hx hb dX3_slotsFrom_22 (by omega) ?_
    refine z_ishl1 hx hb dX3_slotsFrom_23 (by omega) ?_
    refine z_ior hx hb dX3_slotsFrom_24 (⟨by omega, zpw_nn _⟩) ?_
    refine lv_istore_n (lv' := [(2, .int (zI (zbor acc (zpw ((a + i) % 8))))), (0, .int (zI a)), (1, .int (zI sz)), (3, .int (zI i))]) hx hb dX3_slotsFrom_25 rfl hl (by decide) rfl (fun ls hl => ?_)
    refine z_iinc (a := i) (k := 3) (lv' := [(3, .int (zI (i + 1))), (2, .int (zI (zbor acc (zpw ((a + i) % 8))))), (0, .int (zI a)), (1, .int (zI sz))]) hx hb dX3_slotsFrom_26 hl rfl (by decide) rfl (fun ls hl => ?_)
    refine lv_goto (tgt := 4) hx hb dX3_slotsFrom_29 (by decide) ?_
    exact ih n (i + 1) (zbor acc (zpw ((a + i) % 8))) (by omega) (by omega) (by first | omega | exact ⟨zbor_nn _ _, zbor_lt 8 (by omega) (zpw_lt (n := 8) (by omega) (by omega))⟩) (by rw [← hv, sfF]) _ (lv_sub hl [2, 3, 1, 0] rfl)
set_option maxHeartbeats 4000000 in
set_option maxRecDepth 100000 in
theorem c_X3_slotsFrom (l : Launch) (D : va_G) (cB cI cZ cM : ClassId) (Hp : Heap) (a : Int) (sz : Int) (ha : 0 ≤ a ∧ a < 8) (hsz : 0 ≤ sz ∧ sz ≤ 8) : cP l yX3_slotsFrom wsX3_slotsFrom 0 0 D (TYS cB cI cZ cM) [.int (zI a), .int (zI sz)] [] Hp (fun r => r = zI (sfF a sz.toNat 0 0)) := by
  refine pu_start (by decide) rfl (Nat.le_of_ble_eq_true rfl) ?_
  intro pg ev sx mm args below meth cd ls M hP hK hl
  obtain ⟨hx, hb, hr, hml, hown, hts, hlk, hN0⟩ := id M
  have hl : lv_has ls 4 [(0, .int (zI a)), (1, .int (zI sz))] := hl
  refine lv_iconst (v := zI 0) hx hb dX3_slotsFrom_0 rfl ?_
  refine lv_istore_n (lv' := [(2, .int (zI 0)), (0, .int (zI a)), (1, .int (zI sz))]) hx hb dX3_slotsFrom_1 rfl hl (by decide) rfl (fun ls hl => ?_)
  refine lv_iconst (v := zI 0) hx hb dX3_slotsFrom_2 rfl ?_
  refine lv_istore_n (lv' := [(3, .int (zI 0)), (2, .int (zI 0)), (0, .int (zI a)), (1, .int (zI sz))]) hx hb dX3_slotsFrom_3 rfl hl (by decide) rfl (fun ls hl => ?_)
  exact lp_X3_slotsFrom_4 l D cB cI cZ cM a sz ha hsz M hP hK (sz.toNat + 1) sz.toNat 0 0 (Nat.lt_succ_self _) (by omega) (by first | omega | exact ⟨zbor_nn _ _, zbor_lt 8 (by omega) (zpw_lt (n := 8) (by omega) (by omega))⟩) (by rfl) _ (lv_sub hl [2, 3, 1, 0] rfl)
set_option maxHeartbeats 4000000 in
set_option maxRecDepth 100000 in
theorem c_X3_spelling (l : Launch) (D : va_G) (cB cI cZ cM : ClassId) (Hp : Heap) (K V : Nat → Nat) (w : Int) (hw0 : -2147483648 ≤ w ∧ w < 2147483648) : cPer l yX3_spelling wsX3_spelling 0 0 D (TYS cB cI cZ cM) [.int (zI w)] [] Hp K V (fun a => a = K (spI w)) := by
  refine pue_startG (Qc := fun h => Qpr h (fun a => a = K (spI w))) (by decide) rfl (Nat.le_of_ble_eq_true rfl) ?_
  intro pg ev sx mm args below meth cd ls M hP hK hE hl
  show W pg l ev _ sx mm args below meth cd sx.heap [] 0 0 (MQ below (Qpr sx.heap (fun a => a = K (spI w))) args sx 0 0 (fun _ => False)) _
  obtain ⟨hx, hb, hr, hml, hown, hts, hlk, hN0⟩ := id M
  have hl : lv_has ls 1 [(0, .int (zI w))] := hl
  refine lv_iload_n hx hb dX3_spelling_0 rfl (lv_at hl 0 rfl) ?_
  by_cases c_1_0 : w = 0
  · skip
    refine lv_tableIn (tgt := 56) hx hb dX3_spelling_1 (by rw [zI_toInt (by omega)]; omega) (by rw [zI_toInt (by omega)]; omega) (by rw [zI_toInt (by omega), c_1_0]; rfl) (by decide) ?_
    refine va_ldcS hx hb hown (hE.2.1 0 (by decide)) dX3_spelling_56 ?_
    exact pe_aret M dX3_spelling_58 (by rw [c_1_0]; rfl)
  by_cases c_1_1 : w = 1
  · skip
    refine lv_tableIn (tgt := 59) hx hb dX3_spelling_1 (by rw [zI_toInt (by omega)]; omega) (by rw [zI_toInt (by omega)]; omega) (by rw [zI_toInt (by omega), c_1_1]; rfl) (by decide) ?_
    refine va_ldcS hx hb hown (hE.2.1 1 (by decide)) dX3_spelling_59 ?_
    exact pe_aret M dX3_spelling_61 (by rw [c_1_1]; rfl)
  by_cases c_1_2 : w = 2
  · skip
    refine lv_tableIn (tgt := 62) hx hb dX3_spelling_1 (by rw [zI_toInt (by omega)]; omega) (by rw [zI_toInt (by omega)]; omega) (by rw [zI_toInt (by omega), c_1_2]; rfl) (by decide) ?_
    refine va_ldcS hx hb hown (hE.2.1 2 (by decide)) dX3_spelling_62 ?_
    exact pe_aret M dX3_spelling_64 (by rw [c_1_2]; rfl)
  by_cases c_1_3 : w = 3
  · skip
    refine lv_tableIn (tgt := 65) hx hb dX3_spelling_1 (by rw [zI_toInt (by omega)]; omega) (by rw [zI_toInt (by omega)]; omega) (by rw [zI_toInt (by omega), c_1_3]; rfl) (by decide) ?_
    refine va_ldcS hx hb hown (hE.2.1 3 (by decide)) dX3_spelling_65 ?_
    exact pe_aret M dX3_spelling_67 (by rw [c_1_3]; rfl)
  by_cases c_1_4 : w = 4
  · skip
    refine lv_tableIn (tgt := 68) hx hb dX3_spelling_1 (by rw [zI_toInt (by omega)]; omega) (by rw [zI_toInt (by omega)]; omega) (by rw [zI_toInt (by omega), c_1_4]; rfl) (by decide) ?_
    refine va_ldcS hx hb hown (hE.2.1 4 (by decide)) dX3_spelling_68 ?_
    exact pe_aret M dX3_spelling_70 (by rw [c_1_4]; rfl)
  by_cases c_1_5 : w = 5
  · skip
    refine lv_tableIn (tgt := 71) hx hb dX3_spelling_1 (by rw [zI_toInt (by omega)]; omega) (by rw [zI_toInt (by omega)]; omega) (by rw [zI_toInt (by omega), c_1_5]; rfl) (by decide) ?_
    refine va_ldcS hx hb hown (hE.2.1 5 (by decide)) dX3_spelling_71 ?_
    exact pe_aret M dX3_spelling_73 (by rw [c_1_5]; rfl)
  by_cases c_1_6 : w = 6
  · skip
    refine lv_tableIn (tgt := 74) hx hb dX3_spelling_1 (by rw [zI_toInt (by omega)]; omega) (by rw [zI_toInt (by omega)]; omega) (by rw [zI_toInt (by omega), c_1_6]; rfl) (by decide) ?_
    refine va_ldcS hx hb hown (hE.2.1 6 (by decide)) dX3_spelling_74 ?_
    exact pe_aret M dX3_spelling_76 (by rw [c_1_6]; rfl)
  by_cases c_1_7 : w = 7
  · skip
    refine lv_tableIn (tgt := 77) hx hb dX3_spelling_1 (by rw [zI_toInt (by omega)]; omega) (by rw [zI_toInt (by omega)]; omega) (by rw [zI_toInt (by omega), c_1_7]; rfl) (by decide) ?_
    refine va_ldcS hx hb hown (hE.2.1 7 (by decide)) dX3_spelling_77 ?_
    exact pe_aret M dX3_spelling_79 (by rw [c_1_7]; rfl)
  by_cases c_1_8 : w = 8
  · skip
    refine lv_tableIn (tgt := 80) hx hb dX3_spelling_1 (by rw [zI_toInt (by omega)]; omega) (by rw [zI_toInt (by omega)]; omega) (by rw [zI_toInt (by omega), c_1_8]; rfl) (by decide) ?_
    refine va_ldcS hx hb hown (hE.2.1 8 (by decide)) dX3_spelling_80 ?_
    exact pe_aret M dX3_spelling_82 (by rw [c_1_8]; rfl)
  by_cases c_1_9 : w = 9
  · skip
    refine lv_tableIn (tgt := 83) hx hb dX3_spelling_1 (by rw [zI_toInt (by omega)]; omega) (by rw [zI_toInt (by omega)]; omega) (by rw [zI_toInt (by omega), c_1_9]; rfl) (by decide) ?_
    refine va_ldcS hx hb hown (hE.2.1 9 (by decide)) dX3_spelling_83 ?_
    exact pe_aret M dX3_spelling_85 (by rw [c_1_9]; rfl)
  refine lv_tableOut (tgt := 86) hx hb dX3_spelling_1 (by rw [zI_toInt (by omega)]; omega) (by decide) ?_
  refine va_ldcS hx hb hown (hE.2.1 10 (by decide)) dX3_spelling_86 ?_
  exact pe_aret M dX3_spelling_88 (by unfold spI; rw [if_neg (by omega)])
set_option maxHeartbeats 4000000 in
set_option maxRecDepth 100000 in
theorem lp_X3_isSpelled_20 (l : Launch) (D : va_G) (cB cI cZ cM : ClassId) (K V : Nat → Nat) (ta : Nat) (yb : Nat) (tx : Int → Int) (ln : Int) (ax : Int) (ts : Int) (tk : Int) (vl : Int) (dt : Int) (ht : Int) (j : Nat) (hj : j < 11) (hln : 0 ≤ ln ∧ ln ≤ 200) (htx : ∀ i : Int, 0 ≤ i → i < 200 → 0 ≤ tx i ∧ tx i ≤ 255) (hax : 0 ≤ ax ∧ ax ≤ 200) (htsr : 0 ≤ ts ∧ ts ≤ 200) {pg : Program} {ev : Env} {sx : State} {mm : MethodId} {args : Array Value} {below : List Frame} {meth : Method} {cd : Code} (M : MX pg sx mm args meth cd cX3_isSpelled 3 (some .boolean) RX3 wsX3_isSpelled) (hP : va_P D vwCl [(ta, .inr (3, [.ref yb, .int (zI ln), .int (zI ax), .int (zI ts), .int (zI tk), .int (zI vl), .int (zI dt), .int (zI ht)])), (yb, .inl (cI, 200, .inl (zia tx)))] sx.heap) (hK : va_K D vwCl (TYS cB cI cZ cM) sx) (hE : ENV K V (fun _ => False) sx sx.heap) : ∀ (N : Nat) (n : Nat) (k : Int), (n < N) → (0 ≤ k ∧ k + n = (strLen.getD j 0 : Nat)) → (((strLen.getD j 0 : Nat) : Int) = ax - ts) → (chF (btA tx ln) ts j n k = chF (btA tx ln) ts j (strLen.getD j 0) 0) → ∀ ls : Array Slot, lv_has ls 3 [(0, .ref ta), (1, .ref (K j)), (2, .int (zI k))] → W pg l ev (rmP 4 85) sx mm args below meth cd sx.heap [] 0 0 (QP below args sx (fun r => r = zI (zb (spA (btA tx ln) ax ts j = true)))) (F0 mm 20 ls []) := by
  intro N
  induction N with
  | zero => intro n k hN; exact absurd hN (Nat.not_lt_zero _)
  | succ N ih =>
    intro n k hN hi hlen hv ls hl
    obtain ⟨hx, hb, hr, hml, hown, hts, hlk, hN0⟩ := id M
    refine lv_iload_n hx hb dX3_isSpelled_20 rfl (lv_at hl 2 rfl) ?_
    refine lv_aload_n hx hb dX3_isSpelled_21 rfl (lv_at hl 1 rfl) ?_
    refine pce_V (As := []) (rest := [.int (zI k)]) M (c_J0_length_8abf5 l D cB cI cZ cM _ K V j (by first | assumption | omega)) gX3_isSpelled_J0_length_8abf5 rfl ⟨rfl, hd_J0_length_8abf5⟩ ⟨Nat.le_of_ble_eq_true rfl, Nat.le_of_ble_eq_true rfl⟩ hK hP [] rfl hE (vk_recv hE.1 (hj) va_S.rf) hl.1 rfl rfl (Nat.le_of_ble_eq_true rfl) dX3_isSpelled_22 ⟨Nat.le_of_ble_eq_true rfl, Nat.le_of_ble_eq_true rfl⟩ (fun r_22 h_22 => ?_)
    subst h_22
    have h7 := strLen_rng j hj
    refine z_icmp_ge (tgt := 54) hx hb dX3_isSpelled_25 (by decide) (by omega) (fun c_25 => ?_) (fun c_25 => ?_)
    · skip
      refine lv_iconst (v := zI 1) hx hb dX3_isSpelled_54 rfl ?_
      obtain rfl : n = 0 := by omega
      exact pu_retz M (rfl) dX3_isSpelled_55 (congrArg zI (by rw [zb_1]; unfold spA; rw [← hv, chF, decide_eq_true hlen]; rfl))
    obtain ⟨n, rfl⟩ : ∃ j : Nat, n = j + 1 := ⟨n - 1, by omega⟩
    refine lv_aload_n hx hb dX3_isSpelled_28 rfl (lv_at hl 1 rfl) ?_
    refine lv_iload_n hx hb dX3_isSpelled_29 rfl (lv_at hl 2 rfl) ?_
    refine pce_V (As := [.int (zI k)]) (rest := []) M (c_J0_charAt_5068e l D cB cI cZ cM _ K V j k (by first | assumption | omega) (by first | assumption | omega)) gX3_isSpelled_J0_charAt_5068e rfl ⟨rfl, hd_J0_charAt_5068e⟩ ⟨Nat.le_of_ble_eq_true rfl, Nat.le_of_ble_eq_true rfl⟩ hK hP [] rfl hE (vk_recv hE.1 (hj) va_S.rf) hl.1 rfl rfl (Nat.le_of_ble_eq_true rfl) dX3_isSpelled_30 ⟨Nat.le_of_ble_eq_true rfl, Nat.le_of_ble_eq_true rfl⟩ (fun r_30 h_30 => ?_)
    subst h_30
    refine lv_aload_n hx hb dX3_isSpelled_33 rfl (lv_at hl 0 rfl) ?_
    refine lv_aload_n hx hb dX3_isSpelled_34 rfl (lv_at hl 0 rfl) ?_
    refine va_get (D := D) (ci := 3) (C := RX3) (T := TX3) (N := 8) hx hb hts inc_X3_isSpelled_3 hown hK hP 0 rfl rfl 3 (by decide) (hts (.fieldLink RX3 44 "BedHouse$Text" "tokenStart" "I") (by decide +kernel)) (fun _ h9 => h9) rfl dX3_isSpelled_35 ?_
    refine lv_iload_n hx hb dX3_isSpelled_38 rfl (lv_at hl 2 rfl) ?_
    refine z_iadd hx hb dX3_isSpelled_39 ?_
    refine pc_V (As := [.int (zI (ts + k))]) (rest := [.int (zI (strC j k))]) M (c_X3_byteAt l D cB cI cZ cM _ ta yb tx ln ax ts tk vl dt ht (ts + k) (by first | assumption | omega) (by first | assumption | omega)) gX3_isSpelled_X3_byteAt rfl ⟨rfl, hd_X3_byteAt⟩ ⟨Nat.le_of_ble_eq_true rfl, Nat.le_of_ble_eq_true rfl⟩ hK hP [0, 1] rfl 0 3 rfl rfl rfl hl.1 rfl rfl (Nat.le_of_ble_eq_true rfl) dX3_isSpelled_40 ⟨Nat.le_of_ble_eq_true rfl, Nat.le_of_ble_eq_true rfl⟩ (fun r_40 h_40 => ?_)
    subst h_40
    have hbr := btA_rng htx ln (ts + k)
    have hsr := strC_rng hj (k := k) (by omega)
    refine z_icmp_eq (tgt := 48) hx hb dX3_isSpelled_43 (by decide) (by omega) (fun c_43 => ?_) (fun c_43 => ?_)
    · skip
      refine z_iinc (a := k) (k := 2) (lv' := [(2, .int (zI (k + 1))), (0, .ref ta), (1, .ref (K j))]) hx hb dX3_isSpelled_48 hl rfl (by decide) rfl (fun ls hl => ?_)
      refine lv_goto (tgt := 20) hx hb dX3_isSpelled_51 (by decide) ?_
      exact ih n (k + 1) (by omega) (by omega) (by assumption) (by rw [← hv, chF, decide_eq_true c_43, Bool.true_and]) _ (lv_sub hl [1, 2, 0] rfl)
    refine lv_iconst (v := zI 0) hx hb dX3_isSpelled_46 rfl ?_
    exact pu_retz M (rfl) dX3_isSpelled_47 (congrArg zI (by rw [zb_0]; unfold spA; rw [← hv, chF, decide_eq_false c_43]; simp))
set_option maxHeartbeats 4000000 in
set_option maxRecDepth 100000 in
theorem c_X3_isSpelled (l : Launch) (D : va_G) (cB cI cZ cM : ClassId) (Hp : Heap) (K V : Nat → Nat) (ta : Nat) (yb : Nat) (tx : Int → Int) (ln : Int) (ax : Int) (ts : Int) (tk : Int) (vl : Int) (dt : Int) (ht : Int) (j : Nat) (hj : j < 11) (hln : 0 ≤ ln ∧ ln ≤ 200) (htx : ∀ i : Int, 0 ≤ i → i < 200 → 0 ≤ tx i ∧ tx i ≤ 255) (hax : 0 ≤ ax ∧ ax ≤ 200) (htsr : 0 ≤ ts ∧ ts ≤ 200) : cPe l yX3_isSpelled wsX3_isSpelled 4 85 D (TYS cB cI cZ cM) [.ref ta, .ref (K j)] [(ta, .inr (3, [.ref yb, .int (zI ln), .int (zI ax), .int (zI ts), .int (zI tk), .int (zI vl), .int (zI dt), .int (zI ht)])), (yb, .inl (cI, 200, .inl (zia tx)))] Hp K V (fun r => r = zI (zb (spA (btA tx ln) ax ts j = true))) := by
  refine pue_startG (Qc := fun h => Qpu h (fun r => r = zI (zb (spA (btA tx ln) ax ts j = true)))) (by decide) rfl (Nat.le_of_ble_eq_true rfl) ?_
  intro pg ev sx mm args below meth cd ls M hP hK hE hl
  show W pg l ev _ sx mm args below meth cd sx.heap [] 0 0 (QP below args sx (fun r => r = zI (zb (spA (btA tx ln) ax ts j = true)))) _
  obtain ⟨hx, hb, hr, hml, hown, hts, hlk, hN0⟩ := id M
  have hl : lv_has ls 3 [(0, .ref ta), (1, .ref (K j))] := hl
  refine lv_aload_n hx hb dX3_isSpelled_0 rfl (lv_at hl 1 rfl) ?_
  refine pce_V (As := []) (rest := []) M (c_J0_length_8abf5 l D cB cI cZ cM _ K V j (by first | assumption | omega)) gX3_isSpelled_J0_length_8abf5 rfl ⟨rfl, hd_J0_length_8abf5⟩ ⟨Nat.le_of_ble_eq_true rfl, Nat.le_of_ble_eq_true rfl⟩ hK hP [] rfl hE (vk_recv hE.1 (hj) va_S.rf) hl.1 rfl rfl (Nat.le_of_ble_eq_true rfl) dX3_isSpelled_1 ⟨Nat.le_of_ble_eq_true rfl, Nat.le_of_ble_eq_true rfl⟩ (fun r_1 h_1 => ?_)
  subst h_1
  refine lv_aload_n hx hb dX3_isSpelled_4 rfl (lv_at hl 0 rfl) ?_
  refine va_get (D := D) (ci := 3) (C := RX3) (T := TX3) (N := 8) hx hb hts inc_X3_isSpelled_3 hown hK hP 0 rfl rfl 2 (by decide) (hts (.fieldLink RX3 31 "BedHouse$Text" "at" "I") (by decide +kernel)) (fun _ h9 => h9) rfl dX3_isSpelled_5 ?_
  refine lv_aload_n hx hb dX3_isSpelled_8 rfl (lv_at hl 0 rfl) ?_
  refine va_get (D := D) (ci := 3) (C := RX3) (T := TX3) (N := 8) hx hb hts inc_X3_isSpelled_3 hown hK hP 0 rfl rfl 3 (by decide) (hts (.fieldLink RX3 44 "BedHouse$Text" "tokenStart" "I") (by decide +kernel)) (fun _ h9 => h9) rfl dX3_isSpelled_9 ?_
  refine z_isub hx hb dX3_isSpelled_12 ?_
  have h7 := strLen_rng j hj
  refine z_icmp_eq (tgt := 18) hx hb dX3_isSpelled_13 (by decide) (by omega) (fun c_13 => ?_) (fun c_13 => ?_)
  · skip
    refine lv_iconst (v := zI 0) hx hb dX3_isSpelled_18 rfl ?_
    refine lv_istore_n (lv' := [(2, .int (zI 0)), (0, .ref ta), (1, .ref (K j))]) hx hb dX3_isSpelled_19 rfl hl (by decide) rfl (fun ls hl => ?_)
    exact lp_X3_isSpelled_20 l D cB cI cZ cM K V ta yb tx ln ax ts tk vl dt ht j hj hln htx hax htsr M hP hK hE ((strLen.getD j 0) + 1) (strLen.getD j 0) 0 (Nat.lt_succ_self _) (by omega) (by assumption) (by rfl) _ (lv_sub hl [1, 2, 0] rfl)
  refine lv_iconst (v := zI 0) hx hb dX3_isSpelled_16 rfl ?_
  exact pu_retz M (rfl) dX3_isSpelled_17 (congrArg zI (by rw [zb_0]; unfold spA; rw [decide_eq_false c_13, Bool.false_and]; simp))
set_option maxHeartbeats 4000000 in
set_option maxRecDepth 100000 in
theorem lp_X3_readWord_45 (l : Launch) (D : va_G) (cB cI cZ cM : ClassId) (K V : Nat → Nat) (ta : Nat) (yb : Nat) (tx : Int → Int) (ln : Int) (ax : Int) (ts : Int) (tk : Int) (vl : Int) (dt : Int) (ht : Int) (hln : 0 ≤ ln ∧ ln ≤ 200) (htx : ∀ i : Int, 0 ≤ i → i < 200 → 0 ≤ tx i ∧ tx i ≤ 255) (hax : 0 ≤ ts ∧ ts ≤ ax ∧ ax ≤ ln) {pg : Program} {ev : Env} {sx : State} {mm : MethodId} {args : Array Value} {below : List Frame} {meth : Method} {cd : Code} (M : MX pg sx mm args meth cd cX3_readWord 2 none RX3 wsX3_readWord) (hK : va_K D vwCl (TYS cB cI cZ cM) sx) {A : Nat → Prop} (hA : ∀ q : Nat, sx.heap.size ≤ q → A q) (hE : ENV K V A sx sx.heap) : ∀ (N : Nat) (n : Nat) (w : Int) (s : Int × Int), (n < N) → (0 ≤ w ∧ w + n = 11) → (wdF (btA tx ln) (enF (btA tx ln) 201 ax) ts n w s = wdF (btA tx ln) (enF (btA tx ln) 201 ax) ts 11 0 (4, vl)) → ∀ (H : Heap) (locs : List Loc), va_P D vwCl [(ta, .inr (3, [.ref yb, .int (zI ln), .int (zI (enF (btA tx ln) 201 ax)), .int (zI ts), .int (zI s.1), .int (zI s.2), .int (zI dt), .int (zI ht)])), (yb, .inl (cI, 200, .inl (zia tx)))] H → va_D A [(ta, .inr (3, [.ref yb, .int (zI ln), .int (zI (enF (btA tx ln) 201 ax)), .int (zI ts), .int (zI s.1), .int (zI s.2), .int (zI dt), .int (zI ht)])), (yb, .inl (cI, 200, .inl (zia tx)))] → va_S A sx.heap H locs → ∀ ls : Array Slot, lv_has ls 2 [(0, .ref ta), (1, .int (zI w))] → W pg l ev (rmW 5 0 0 107) sx mm args below meth cd H locs 0 0 (QWv below args sx A D (fun (u : Int × Int) => u = wdF (btA tx ln) (enF (btA tx ln) 201 ax) ts 11 0 (4, vl)) (fun (u : Int × Int) => [(ta, .inr (3, [.ref yb, .int (zI ln), .int (zI (enF (btA tx ln) 201 ax)), .int (zI ts), .int (zI u.1), .int (zI u.2), .int (zI dt), .int (zI ht)])), (yb, .inl (cI, 200, .inl (zia tx)))]) 0 0) (F0 mm 45 ls []) := by
  intro N
  induction N with
  | zero => intro n w s hN; exact absurd hN (Nat.not_lt_zero _)
  | succ N ih =>
    intro n w s hN hi hv H locs hP hD hS ls hl
    obtain ⟨hx, hb, hr, hml, hown, hts, hlk, hN0⟩ := id M
    refine lv_iload_n hx hb dX3_readWord_45 rfl (lv_at hl 1 rfl) ?_
    refine lv_bipush (v := zI 11) hx hb dX3_readWord_46 (by decide) ?_
    refine z_icmp_ge (tgt := 78) hx hb dX3_readWord_48 (by decide) (by omega) (fun c_48 => ?_) (fun c_48 => ?_)
    · skip
      obtain rfl : n = 0 := by omega
      exact wr_retv M dX3_readWord_78 (u := s) (hv) hP hD hS
    obtain ⟨n, rfl⟩ : ∃ j : Nat, n = j + 1 := ⟨n - 1, by omega⟩
    refine lv_aload_n hx hb dX3_readWord_51 rfl (lv_at hl 0 rfl) ?_
    refine lv_iload_n hx hb dX3_readWord_52 rfl (lv_at hl 1 rfl) ?_
    refine pce_Jr (As := [.int (zI w)]) (rest := [.ref ta]) M (c_X3_spelling l D cB cI cZ cM _ K V w (by first | assumption | omega)) gX3_readWord_X3_spelling rfl hd_X3_spelling ⟨Nat.le_of_ble_eq_true rfl, Nat.le_of_ble_eq_true rfl⟩ hK hP [] rfl (hE.kept hS.2.1) hl.1 rfl rfl (Nat.le_of_ble_eq_true rfl) dX3_readWord_53 ⟨Nat.le_of_ble_eq_true rfl, Nat.le_of_ble_eq_true rfl⟩ (fun r_53 h_53 => ?_)
    subst h_53
    have hen := enF_rng (tx := tx) (ln := ln) 201 ax (by omega)
    refine pce_V (As := [.ref (K (spI w))]) (rest := []) M (c_X3_isSpelled l D cB cI cZ cM _ K V ta yb tx ln (enF (btA tx ln) 201 ax) ts s.1 s.2 dt ht (spI w) (spI_lt w) (by first | assumption | omega) (by first | assumption | omega) (by first | assumption | omega) (by first | assumption | omega)) gX3_readWord_X3_isSpelled rfl ⟨rfl, hd_X3_isSpelled⟩ ⟨Nat.le_of_ble_eq_true rfl, Nat.le_of_ble_eq_true rfl⟩ hK hP [0, 1] rfl (hE.kept hS.2.1) (va_recv hK hP (ci := 3) (q0 := 0) rfl rfl) hl.1 rfl rfl (Nat.le_of_ble_eq_true rfl) dX3_readWord_56 ⟨Nat.le_of_ble_eq_true rfl, Nat.le_of_ble_eq_true rfl⟩ (fun r_56 h_56 => ?_)
    subst h_56
    refine z_if_eq (tgt := 72) hx hb dX3_readWord_59 (by decide) (zb_bd _) (fun c_59 => ?_) (fun c_59 => ?_)
    · skip
      have c_59 := zb_f c_59
      refine z_iinc (a := w) (k := 1) (lv' := [(1, .int (zI (w + 1))), (0, .ref ta)]) hx hb dX3_readWord_72 hl rfl (by decide) rfl (fun ls hl => ?_)
      refine lv_goto (tgt := 45) hx hb dX3_readWord_75 (by decide) ?_
      exact ih n (w + 1) s (by omega) (by omega) (by rw [← hv, wdF, if_neg c_59]) _ _ hP hD hS _ (lv_sub hl [1, 0] rfl)
    have c_59 := zb_t c_59
    refine lv_aload_n hx hb dX3_readWord_62 rfl (lv_at hl 0 rfl) ?_
    refine lv_iconst (v := zI 1) hx hb dX3_readWord_63 rfl ?_
    refine va_put (D := D) (ci := 3) (v := .int (zI 1)) (ty := .int) (C := RX3) (T := TX3) (N := 8) hx hb hts inc_X3_readWord_3 tyX3 tyX3_ok nmX3 hown hK hP hD hS 0 rfl rfl 4 (by decide) (hts (.fieldLink RX3 37 "BedHouse$Text" "token" "I") (by decide +kernel)) (fun _ h9 => h9) rfl (by decide +kernel) rfl rfl (Nat.le_of_ble_eq_true rfl) dX3_readWord_64 (fun H locs hP hD hS => ?_)
    have hP : va_P D vwCl [(ta, .inr (3, [.ref yb, .int (zI ln), .int (zI (enF (btA tx ln) 201 ax)), .int (zI ts), .int (zI 1), .int (zI s.2), .int (zI dt), .int (zI ht)])), (yb, .inl (cI, 200, .inl (zia tx)))] H := hP
    have hD : va_D A [(ta, .inr (3, [.ref yb, .int (zI ln), .int (zI (enF (btA tx ln) 201 ax)), .int (zI ts), .int (zI 1), .int (zI s.2), .int (zI dt), .int (zI ht)])), (yb, .inl (cI, 200, .inl (zia tx)))] := hD
    refine lv_aload_n hx hb dX3_readWord_67 rfl (lv_at hl 0 rfl) ?_
    refine lv_iload_n hx hb dX3_readWord_68 rfl (lv_at hl 1 rfl) ?_
    refine va_put (D := D) (ci := 3) (v := .int (zI w)) (ty := .int) (C := RX3) (T := TX3) (N := 8) hx hb hts inc_X3_readWord_3 tyX3 tyX3_ok nmX3 hown hK hP hD hS 0 rfl rfl 5 (by decide) (hts (.fieldLink RX3 47 "BedHouse$Text" "value" "I") (by decide +kernel)) (fun _ h9 => h9) rfl (by decide +kernel) rfl rfl (Nat.le_of_ble_eq_true rfl) dX3_readWord_69 (fun H locs hP hD hS => ?_)
    have hP : va_P D vwCl [(ta, .inr (3, [.ref yb, .int (zI ln), .int (zI (enF (btA tx ln) 201 ax)), .int (zI ts), .int (zI 1), .int (zI w), .int (zI dt), .int (zI ht)])), (yb, .inl (cI, 200, .inl (zia tx)))] H := hP
    have hD : va_D A [(ta, .inr (3, [.ref yb, .int (zI ln), .int (zI (enF (btA tx ln) 201 ax)), .int (zI ts), .int (zI 1), .int (zI w), .int (zI dt), .int (zI ht)])), (yb, .inl (cI, 200, .inl (zia tx)))] := hD
    refine z_iinc (a := w) (k := 1) (lv' := [(1, .int (zI (w + 1))), (0, .ref ta)]) hx hb dX3_readWord_72 hl rfl (by decide) rfl (fun ls hl => ?_)
    refine lv_goto (tgt := 45) hx hb dX3_readWord_75 (by decide) ?_
    exact ih n (w + 1) (1, w) (by omega) (by omega) (by rw [← hv, wdF, if_pos c_59]) _ _ hP hD hS _ (lv_sub hl [1, 0] rfl)
set_option maxHeartbeats 4000000 in
set_option maxRecDepth 100000 in
theorem lp_X3_readWord_0 (l : Launch) (D : va_G) (cB cI cZ cM : ClassId) (K V : Nat → Nat) (ta : Nat) (yb : Nat) (tx : Int → Int) (ln : Int) (ax : Int) (ts : Int) (tk : Int) (vl : Int) (dt : Int) (ht : Int) (hln : 0 ≤ ln ∧ ln ≤ 200) (htx : ∀ i : Int, 0 ≤ i → i < 200 → 0 ≤ tx i ∧ tx i ≤ 255) (hax : 0 ≤ ts ∧ ts ≤ ax ∧ ax ≤ ln) {pg : Program} {ev : Env} {sx : State} {mm : MethodId} {args : Array Value} {below : List Frame} {meth : Method} {cd : Code} (M : MX pg sx mm args meth cd cX3_readWord 2 none RX3 wsX3_readWord) (hK : va_K D vwCl (TYS cB cI cZ cM) sx) {A : Nat → Prop} (hA : ∀ q : Nat, sx.heap.size ≤ q → A q) (hE : ENV K V A sx sx.heap) : ∀ (N : Nat) (n : Nat) (i : Int), (n < N) → (0 ≤ i ∧ i ≤ ln) → (ln < i + n) → (enF (btA tx ln) n i = enF (btA tx ln) 201 ax) → ∀ (H : Heap) (locs : List Loc), va_P D vwCl [(ta, .inr (3, [.ref yb, .int (zI ln), .int (zI i), .int (zI ts), .int (zI tk), .int (zI vl), .int (zI dt), .int (zI ht)])), (yb, .inl (cI, 200, .inl (zia tx)))] H → va_D A [(ta, .inr (3, [.ref yb, .int (zI ln), .int (zI i), .int (zI ts), .int (zI tk), .int (zI vl), .int (zI dt), .int (zI ht)])), (yb, .inl (cI, 200, .inl (zia tx)))] → va_S A sx.heap H locs → ∀ ls : Array Slot, lv_has ls 2 [(0, .ref ta)] → W pg l ev (rmW 5 0 0 107) sx mm args below meth cd H locs 0 0 (QWv below args sx A D (fun (u : Int × Int) => u = wdF (btA tx ln) (enF (btA tx ln) 201 ax) ts 11 0 (4, vl)) (fun (u : Int × Int) => [(ta, .inr (3, [.ref yb, .int (zI ln), .int (zI (enF (btA tx ln) 201 ax)), .int (zI ts), .int (zI u.1), .int (zI u.2), .int (zI dt), .int (zI ht)])), (yb, .inl (cI, 200, .inl (zia tx)))]) 0 0) (F0 mm 0 ls []) := by
  intro N
  induction N with
  | zero => intro n i hN; exact absurd hN (Nat.not_lt_zero _)
  | succ N ih =>
    intro n i hN hi hn hv H locs hP hD hS ls hl
    obtain ⟨hx, hb, hr, hml, hown, hts, hlk, hN0⟩ := id M
    obtain ⟨n, rfl⟩ : ∃ x : Nat, n = x + 1 := ⟨n - 1, by omega⟩
    refine lv_aload_n hx hb dX3_readWord_0 rfl (lv_at hl 0 rfl) ?_
    refine va_get (D := D) (ci := 3) (C := RX3) (T := TX3) (N := 8) hx hb hts inc_X3_readWord_3 hown hK hP 0 rfl rfl 2 (by decide) (hts (.fieldLink RX3 31 "BedHouse$Text" "at" "I") (by decide +kernel)) (fun _ h9 => h9) rfl dX3_readWord_1 ?_
    refine lv_aload_n hx hb dX3_readWord_4 rfl (lv_at hl 0 rfl) ?_
    refine va_get (D := D) (ci := 3) (C := RX3) (T := TX3) (N := 8) hx hb hts inc_X3_readWord_3 hown hK hP 0 rfl rfl 1 (by decide) (hts (.fieldLink RX3 15 "BedHouse$Text" "length" "I") (by decide +kernel)) (fun _ h9 => h9) rfl dX3_readWord_5 ?_
    refine z_icmp_ge (tgt := 38) hx hb dX3_readWord_8 (by decide) (by omega) (fun c_8 => ?_) (fun c_8 => ?_)
    · skip
      have hend : enF (btA tx ln) 201 ax = i := by rw [← hv, enF, btA_end c_8, if_neg (by omega)]
      have hP : va_P D vwCl [(ta, .inr (3, [.ref yb, .int (zI ln), .int (zI (enF (btA tx ln) 201 ax)), .int (zI ts), .int (zI tk), .int (zI vl), .int (zI dt), .int (zI ht)])), (yb, .inl (cI, 200, .inl (zia tx)))] H := by rw [hend]; exact hP
      have hD : va_D A [(ta, .inr (3, [.ref yb, .int (zI ln), .int (zI (enF (btA tx ln) 201 ax)), .int (zI ts), .int (zI tk), .int (zI vl), .int (zI dt), .int (zI ht)])), (yb, .inl (cI, 200, .inl (zia tx)))] := by rw [hend]; exact hD
      refine lv_aload_n hx hb dX3_readWord_38 rfl (lv_at hl 0 rfl) ?_
      refine lv_iconst (v := zI 4) hx hb dX3_readWord_39 rfl ?_
      refine va_put (D := D) (ci := 3) (v := .int (zI 4)) (ty := .int) (C := RX3) (T := TX3) (N := 8) hx hb hts inc_X3_readWord_3 tyX3 tyX3_ok nmX3 hown hK hP hD hS 0 rfl rfl 4 (by decide) (hts (.fieldLink RX3 37 "BedHouse$Text" "token" "I") (by decide +kernel)) (fun _ h9 => h9) rfl (by decide +kernel) rfl rfl (Nat.le_of_ble_eq_true rfl) dX3_readWord_40 (fun H locs hP hD hS => ?_)
      have hP : va_P D vwCl [(ta, .inr (3, [.ref yb, .int (zI ln), .int (zI (enF (btA tx ln) 201 ax)), .int (zI ts), .int (zI 4), .int (zI vl), .int (zI dt), .int (zI ht)])), (yb, .inl (cI, 200, .inl (zia tx)))] H := hP
      have hD : va_D A [(ta, .inr (3, [.ref yb, .int (zI ln), .int (zI (enF (btA tx ln) 201 ax)), .int (zI ts), .int (zI 4), .int (zI vl), .int (zI dt), .int (zI ht)])), (yb, .inl (cI, 200, .inl (zia tx)))] := hD
      refine lv_iconst (v := zI 0) hx hb dX3_readWord_43 rfl ?_
      refine lv_istore_n (lv' := [(1, .int (zI 0)), (0, .ref ta)]) hx hb dX3_readWord_44 rfl hl (by decide) rfl (fun ls hl => ?_)
      exact lp_X3_readWord_45 l D cB cI cZ cM K V ta yb tx ln ax ts tk vl dt ht hln htx hax M hK hA hE (11 + 1) 11 0 (4, vl) (Nat.lt_succ_self _) (by omega) (by rfl) _ _ hP hD hS _ (lv_sub hl [1, 0] rfl)
    refine lv_aload_n hx hb dX3_readWord_11 rfl (lv_at hl 0 rfl) ?_
    refine lv_aload_n hx hb dX3_readWord_12 rfl (lv_at hl 0 rfl) ?_
    refine va_get (D := D) (ci := 3) (C := RX3) (T := TX3) (N := 8) hx hb hts inc_X3_readWord_3 hown hK hP 0 rfl rfl 2 (by decide) (hts (.fieldLink RX3 31 "BedHouse$Text" "at" "I") (by decide +kernel)) (fun _ h9 => h9) rfl dX3_readWord_13 ?_
    refine pc_V (As := [.int (zI i)]) (rest := []) M (c_X3_byteAt l D cB cI cZ cM _ ta yb tx ln i ts tk vl dt ht i (by first | assumption | omega) (by first | assumption | omega)) gX3_readWord_X3_byteAt rfl ⟨rfl, hd_X3_byteAt⟩ ⟨Nat.le_of_ble_eq_true rfl, Nat.le_of_ble_eq_true rfl⟩ hK hP [0, 1] rfl 0 3 rfl rfl rfl hl.1 rfl rfl (Nat.le_of_ble_eq_true rfl) dX3_readWord_16 ⟨Nat.le_of_ble_eq_true rfl, Nat.le_of_ble_eq_true rfl⟩ (fun r_16 h_16 => ?_)
    subst h_16
    have hbr := btA_rng htx ln i
    refine pc_J (As := [.int (zI (btA tx ln i))]) (rest := []) M (c_X3_isLetter l D cB cI cZ cM _ (btA tx ln i) (by first | assumption | omega)) gX3_readWord_X3_isLetter rfl hd_X3_isLetter ⟨Nat.le_of_ble_eq_true rfl, Nat.le_of_ble_eq_true rfl⟩ hK hP [] rfl hl.1 rfl rfl (Nat.le_of_ble_eq_true rfl) dX3_readWord_19 ⟨Nat.le_of_ble_eq_true rfl, Nat.le_of_ble_eq_true rfl⟩ (fun r_19 h_19 => ?_)
    subst h_19
    refine z_if_eq (tgt := 38) hx hb dX3_readWord_22 (by decide) (zb_bd _) (fun c_22 => ?_) (fun c_22 => ?_)
    · skip
      have c_22 := zb_f c_22
      have hend : enF (btA tx ln) 201 ax = i := by rw [← hv, enF, if_neg c_22]
      have hP : va_P D vwCl [(ta, .inr (3, [.ref yb, .int (zI ln), .int (zI (enF (btA tx ln) 201 ax)), .int (zI ts), .int (zI tk), .int (zI vl), .int (zI dt), .int (zI ht)])), (yb, .inl (cI, 200, .inl (zia tx)))] H := by rw [hend]; exact hP
      have hD : va_D A [(ta, .inr (3, [.ref yb, .int (zI ln), .int (zI (enF (btA tx ln) 201 ax)), .int (zI ts), .int (zI tk), .int (zI vl), .int (zI dt), .int (zI ht)])), (yb, .inl (cI, 200, .inl (zia tx)))] := by rw [hend]; exact hD
      refine lv_aload_n hx hb dX3_readWord_38 rfl (lv_at hl 0 rfl) ?_
      refine lv_iconst (v := zI 4) hx hb dX3_readWord_39 rfl ?_
      refine va_put (D := D) (ci := 3) (v := .int (zI 4)) (ty := .int) (C := RX3) (T := TX3) (N := 8) hx hb hts inc_X3_readWord_3 tyX3 tyX3_ok nmX3 hown hK hP hD hS 0 rfl rfl 4 (by decide) (hts (.fieldLink RX3 37 "BedHouse$Text" "token" "I") (by decide +kernel)) (fun _ h9 => h9) rfl (by decide +kernel) rfl rfl (Nat.le_of_ble_eq_true rfl) dX3_readWord_40 (fun H locs hP hD hS => ?_)
      have hP : va_P D vwCl [(ta, .inr (3, [.ref yb, .int (zI ln), .int (zI (enF (btA tx ln) 201 ax)), .int (zI ts), .int (zI 4), .int (zI vl), .int (zI dt), .int (zI ht)])), (yb, .inl (cI, 200, .inl (zia tx)))] H := hP
      have hD : va_D A [(ta, .inr (3, [.ref yb, .int (zI ln), .int (zI (enF (btA tx ln) 201 ax)), .int (zI ts), .int (zI 4), .int (zI vl), .int (zI dt), .int (zI ht)])), (yb, .inl (cI, 200, .inl (zia tx)))] := hD
      refine lv_iconst (v := zI 0) hx hb dX3_readWord_43 rfl ?_
      refine lv_istore_n (lv' := [(1, .int (zI 0)), (0, .ref ta)]) hx hb dX3_readWord_44 rfl hl (by decide) rfl (fun ls hl => ?_)
      exact lp_X3_readWord_45 l D cB cI cZ cM K V ta yb tx ln ax ts tk vl dt ht hln htx hax M hK hA hE (11 + 1) 11 0 (4, vl) (Nat.lt_succ_self _) (by omega) (by rfl) _ _ hP hD hS _ (lv_sub hl [1, 0] rfl)
    have c_22 := zb_t c_22
    refine lv_aload_n hx hb dX3_readWord_25 rfl (lv_at hl 0 rfl) ?_
    refine lv_dup hx hb dX3_readWord_26 rfl ?_
    refine va_get (D := D) (ci := 3) (C := RX3) (T := TX3) (N := 8) hx hb hts inc_X3_readWord_3 hown hK hP 0 rfl rfl 2 (by decide) (hts (.fieldLink RX3 31 "BedHouse$Text" "at" "I") (by decide +kernel)) (fun _ h9 => h9) rfl dX3_readWord_27 ?_
    refine lv_iconst (v := zI 1) hx hb dX3_readWord_30 rfl ?_
    refine z_iadd hx hb dX3_readWord_31 ?_
    refine va_put (D := D) (ci := 3) (v := .int (zI (i + 1))) (ty := .int) (C := RX3) (T := TX3) (N := 8) hx hb hts inc_X3_readWord_3 tyX3 tyX3_ok nmX3 hown hK hP hD hS 0 rfl rfl 2 (by decide) (hts (.fieldLink RX3 31 "BedHouse$Text" "at" "I") (by decide +kernel)) (fun _ h9 => h9) rfl (by decide +kernel) rfl rfl (Nat.le_of_ble_eq_true rfl) dX3_readWord_32 (fun H locs hP hD hS => ?_)
    have hP : va_P D vwCl [(ta, .inr (3, [.ref yb, .int (zI ln), .int (zI (i + 1)), .int (zI ts), .int (zI tk), .int (zI vl), .int (zI dt), .int (zI ht)])), (yb, .inl (cI, 200, .inl (zia tx)))] H := hP
    have hD : va_D A [(ta, .inr (3, [.ref yb, .int (zI ln), .int (zI (i + 1)), .int (zI ts), .int (zI tk), .int (zI vl), .int (zI dt), .int (zI ht)])), (yb, .inl (cI, 200, .inl (zia tx)))] := hD
    refine lv_goto (tgt := 0) hx hb dX3_readWord_35 (by decide) ?_
    exact ih n (i + 1) (by omega) (by omega) (by omega) (by rw [← hv, enF, if_pos c_22]) _ _ hP hD hS _ (lv_sub hl [0] rfl)
set_option maxHeartbeats 4000000 in
set_option maxRecDepth 100000 in
theorem c_X3_readWord (l : Launch) (D : va_G) (cB cI cZ cM : ClassId) (Hp : Heap) (K V : Nat → Nat) (ta : Nat) (yb : Nat) (tx : Int → Int) (ln : Int) (ax : Int) (ts : Int) (tk : Int) (vl : Int) (dt : Int) (ht : Int) (hln : 0 ≤ ln ∧ ln ≤ 200) (htx : ∀ i : Int, 0 ≤ i → i < 200 → 0 ≤ tx i ∧ tx i ≤ 255) (hax : 0 ≤ ts ∧ ts ≤ ax ∧ ax ≤ ln) : cWve l yX3_readWord wsX3_readWord (rmW 5 0 0 107) D (TYS cB cI cZ cM) [.ref ta] [(ta, .inr (3, [.ref yb, .int (zI ln), .int (zI ax), .int (zI ts), .int (zI tk), .int (zI vl), .int (zI dt), .int (zI ht)])), (yb, .inl (cI, 200, .inl (zia tx)))] Hp K V (fun (u : Int × Int) => u = wdF (btA tx ln) (enF (btA tx ln) 201 ax) ts 11 0 (4, vl)) (fun (u : Int × Int) => [(ta, .inr (3, [.ref yb, .int (zI ln), .int (zI (enF (btA tx ln) 201 ax)), .int (zI ts), .int (zI u.1), .int (zI u.2), .int (zI dt), .int (zI ht)])), (yb, .inl (cI, 200, .inl (zia tx)))]) 0 0 := by
  refine wre_startG (Qc := fun A => Qwv A D (fun (u : Int × Int) => u = wdF (btA tx ln) (enF (btA tx ln) 201 ax) ts 11 0 (4, vl)) (fun (u : Int × Int) => [(ta, .inr (3, [.ref yb, .int (zI ln), .int (zI (enF (btA tx ln) 201 ax)), .int (zI ts), .int (zI u.1), .int (zI u.2), .int (zI dt), .int (zI ht)])), (yb, .inl (cI, 200, .inl (zia tx)))])) (by decide) rfl (Nat.le_of_ble_eq_true rfl) ?_
  intro pg ev sx mm args below meth cd ls A M hP hD hS hA hK hE hl
  show W pg l ev _ sx mm args below meth cd sx.heap [] 0 0 (QWv below args sx A D (fun (u : Int × Int) => u = wdF (btA tx ln) (enF (btA tx ln) 201 ax) ts 11 0 (4, vl)) (fun (u : Int × Int) => [(ta, .inr (3, [.ref yb, .int (zI ln), .int (zI (enF (btA tx ln) 201 ax)), .int (zI ts), .int (zI u.1), .int (zI u.2), .int (zI dt), .int (zI ht)])), (yb, .inl (cI, 200, .inl (zia tx)))]) 0 0) _
  obtain ⟨hx, hb, hr, hml, hown, hts, hlk, hN0⟩ := id M
  have hl : lv_has ls 2 [(0, .ref ta)] := hl
  refine W.widen (k := 0) (n := 0) (Nat.zero_le _) (Nat.zero_le _) ?_
  exact lp_X3_readWord_0 l D cB cI cZ cM K V ta yb tx ln ax ts tk vl dt ht hln htx hax M hK hA hE (201 + 1) 201 ax (Nat.lt_succ_self _) (by omega) (by omega) (by rfl) _ _ hP hD hS _ (lv_sub hl [0] rfl)
