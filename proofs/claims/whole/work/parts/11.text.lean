theorem inc_X1_addBeam_1 : ∀ w ∈ wsX10, w ∈ wsX1_addBeam := by decide +kernel
theorem inc_X1_addPanel_1 : ∀ w ∈ wsX10, w ∈ wsX1_addPanel := by decide +kernel
theorem inc_X1_startAnew_1 : ∀ w ∈ wsX10, w ∈ wsX1_startAnew := by decide +kernel
theorem inc_X3_apply_1 : ∀ w ∈ wsX10, w ∈ wsX3_apply := by decide +kernel
theorem inc_X3_apply_3 : ∀ w ∈ wsX30, w ∈ wsX3_apply := by decide +kernel
theorem inc_X3_mayBeFirst_1 : ∀ w ∈ wsX10, w ∈ wsX3_mayBeFirst := by decide +kernel
theorem inc_X3_mayBegin_1 : ∀ w ∈ wsX10, w ∈ wsX3_mayBegin := by decide +kernel
theorem inc_X3_mayBegin_3 : ∀ w ∈ wsX30, w ∈ wsX3_mayBegin := by decide +kernel
theorem inc_X3_nextToken_3 : ∀ w ∈ wsX30, w ∈ wsX3_nextToken := by decide +kernel
theorem inc_X3_readNumber_3 : ∀ w ∈ wsX30, w ∈ wsX3_readNumber := by decide +kernel
theorem hd_X1_addBeam : yX1_addBeam.cls ≠ "java/lang/invoke/MethodHandle" ∧ yX1_addBeam.cls ≠ "java/lang/invoke/VarHandle" ∧ (parseMethodDescriptor yX1_addBeam.desc).map (fun d => d.parameters.length) = some 1 := by decide +kernel
theorem hd_X1_addPanel : yX1_addPanel.cls ≠ "java/lang/invoke/MethodHandle" ∧ yX1_addPanel.cls ≠ "java/lang/invoke/VarHandle" ∧ (parseMethodDescriptor yX1_addPanel.desc).map (fun d => d.parameters.length) = some 2 := by decide +kernel
theorem hd_X1_panelAt : yX1_panelAt.cls ≠ "java/lang/invoke/MethodHandle" ∧ yX1_panelAt.cls ≠ "java/lang/invoke/VarHandle" ∧ (parseMethodDescriptor yX1_panelAt.desc).map (fun d => d.parameters.length) = some 2 := by decide +kernel
theorem hd_X3_isDigit : yX3_isDigit.cls ≠ "java/lang/invoke/MethodHandle" ∧ yX3_isDigit.cls ≠ "java/lang/invoke/VarHandle" ∧ (parseMethodDescriptor yX3_isDigit.desc).map (fun d => d.parameters.length) = some 1 := by decide +kernel
theorem hd_X3_readNumber : yX3_readNumber.cls ≠ "java/lang/invoke/MethodHandle" ∧ yX3_readNumber.cls ≠ "java/lang/invoke/VarHandle" ∧ (parseMethodDescriptor yX3_readNumber.desc).map (fun d => d.parameters.length) = some 0 := by decide +kernel
theorem hd_X3_readWord : yX3_readWord.cls ≠ "java/lang/invoke/MethodHandle" ∧ yX3_readWord.cls ≠ "java/lang/invoke/VarHandle" ∧ (parseMethodDescriptor yX3_readWord.desc).map (fun d => d.parameters.length) = some 0 := by decide +kernel
theorem hd_X3_slotsFrom : yX3_slotsFrom.cls ≠ "java/lang/invoke/MethodHandle" ∧ yX3_slotsFrom.cls ≠ "java/lang/invoke/VarHandle" ∧ (parseMethodDescriptor yX3_slotsFrom.desc).map (fun d => d.parameters.length) = some 2 := by decide +kernel
theorem hd_X4_isSlot : yX4_isSlot.cls ≠ "java/lang/invoke/MethodHandle" ∧ yX4_isSlot.cls ≠ "java/lang/invoke/VarHandle" ∧ (parseMethodDescriptor yX4_isSlot.desc).map (fun d => d.parameters.length) = some 1 := by decide +kernel
set_option maxHeartbeats 4000000 in
set_option maxRecDepth 100000 in
theorem lp_X3_readNumber_5 (l : Launch) (D : va_G) (cB cI cZ cM : ClassId) (ta : Nat) (yb : Nat) (tx : Int → Int) (ln : Int) (ax : Int) (ts : Int) (tk : Int) (vl : Int) (dt : Int) (ht : Int) (hln : 0 ≤ ln ∧ ln ≤ 200) (htx : ∀ i : Int, 0 ≤ i → i < 200 → 0 ≤ tx i ∧ tx i ≤ 255) (hax : 0 ≤ ts ∧ ts ≤ ax ∧ ax ≤ ln) {pg : Program} {ev : Env} {sx : State} {mm : MethodId} {args : Array Value} {below : List Frame} {meth : Method} {cd : Code} (M : MX pg sx mm args meth cd cX3_readNumber 2 none RX3 wsX3_readNumber) (hK : va_K D vwCl (TYS cB cI cZ cM) sx) {A : Nat → Prop} (hA : ∀ q : Nat, sx.heap.size ≤ q → A q) : ∀ (N : Nat) (n : Nat) (v : Int) (i : Int), (n < N) → (ax ≤ i ∧ i ≤ ln) → (0 ≤ v ∧ v ≤ 100) → (ln < i + n) → (nuF (btA tx ln) n v i = (nuF (btA tx ln) 201 0 ax)) → ∀ (H : Heap) (locs : List Loc), va_P D vwCl [(ta, .inr (3, [.ref yb, .int (zI ln), .int (zI i), .int (zI ts), .int (zI tk), .int (zI v), .int (zI dt), .int (zI ht)])), (yb, .inl (cI, 200, .inl (zia tx)))] H → va_D A [(ta, .inr (3, [.ref yb, .int (zI ln), .int (zI i), .int (zI ts), .int (zI tk), .int (zI v), .int (zI dt), .int (zI ht)])), (yb, .inl (cI, 200, .inl (zia tx)))] → va_S A sx.heap H locs → ∀ ls : Array Slot, lv_has ls 2 [(0, .ref ta)] → W pg l ev (rmW 1 0 0 21) sx mm args below meth cd H locs 0 0 (QWv below args sx A D (fun (u : Int × Int × Int) => u = ((nuF (btA tx ln) 201 0 ax).2, (if (btA tx ln ts = 48 ∧ 1 < (nuF (btA tx ln) 201 0 ax).2 - ts) ∨ 99 < (nuF (btA tx ln) 201 0 ax).1 then 4 else 2), (nuF (btA tx ln) 201 0 ax).1)) (fun (u : Int × Int × Int) => [(ta, .inr (3, [.ref yb, .int (zI ln), .int (zI u.1), .int (zI ts), .int (zI u.2.1), .int (zI u.2.2), .int (zI dt), .int (zI ht)])), (yb, .inl (cI, 200, .inl (zia tx)))]) 0 0) (F0 mm 5 ls []) := by
  intro N
  induction N with
  | zero => intro n v i hN; exact absurd hN (Nat.not_lt_zero _)
  | succ N ih =>
    intro n v i hN hi hvr hn hv H locs hP hD hS ls hl
    obtain ⟨hx, hb, hr, hml, hown, hts, hlk, hN0⟩ := id M
    obtain ⟨n, rfl⟩ : ∃ x : Nat, n = x + 1 := ⟨n - 1, by omega⟩
    refine lv_aload_n hx hb dX3_readNumber_5 rfl (lv_at hl 0 rfl) ?_
    refine va_get (D := D) (ci := 3) (C := RX3) (T := TX3) (N := 8) hx hb hts inc_X3_readNumber_3 hown hK hP 0 rfl rfl 2 (by decide) (hts (.fieldLink RX3 31 "BedHouse$Text" "at" "I") (by decide +kernel)) (fun _ h9 => h9) rfl dX3_readNumber_6 ?_
    refine lv_aload_n hx hb dX3_readNumber_9 rfl (lv_at hl 0 rfl) ?_
    refine va_get (D := D) (ci := 3) (C := RX3) (T := TX3) (N := 8) hx hb hts inc_X3_readNumber_3 hown hK hP 0 rfl rfl 1 (by decide) (hts (.fieldLink RX3 15 "BedHouse$Text" "length" "I") (by decide +kernel)) (fun _ h9 => h9) rfl dX3_readNumber_10 ?_
    refine z_icmp_ge (tgt := 71) hx hb dX3_readNumber_13 (by decide) (by omega) (fun c_13 => ?_) (fun c_13 => ?_)
    · skip
      have hend : (nuF (btA tx ln) 201 0 ax) = (v, i) := by rw [← hv, nuF, btA_end c_13, if_neg (by omega)]
      refine lv_aload_n hx hb dX3_readNumber_71 rfl (lv_at hl 0 rfl) ?_
      refine lv_aload_n hx hb dX3_readNumber_72 rfl (lv_at hl 0 rfl) ?_
      refine va_get (D := D) (ci := 3) (C := RX3) (T := TX3) (N := 8) hx hb hts inc_X3_readNumber_3 hown hK hP 0 rfl rfl 3 (by decide) (hts (.fieldLink RX3 44 "BedHouse$Text" "tokenStart" "I") (by decide +kernel)) (fun _ h9 => h9) rfl dX3_readNumber_73 ?_
      refine pc_V (As := [.int (zI ts)]) (rest := []) M (c_X3_byteAt l D cB cI cZ cM _ ta yb tx ln i ts tk v dt ht ts (by first | assumption | omega) (by first | assumption | omega)) gX3_readNumber_X3_byteAt rfl ⟨rfl, hd_X3_byteAt⟩ ⟨Nat.le_of_ble_eq_true rfl, Nat.le_of_ble_eq_true rfl⟩ hK hP [0, 1] rfl 0 3 rfl rfl rfl hl.1 rfl rfl (Nat.le_of_ble_eq_true rfl) dX3_readNumber_76 ⟨Nat.le_of_ble_eq_true rfl, Nat.le_of_ble_eq_true rfl⟩ (fun r_76 h_76 => ?_)
      subst h_76
      have hbt := btA_rng htx ln ts
      refine lv_bipush (v := zI 48) hx hb dX3_readNumber_79 (by decide) ?_
      refine z_icmp_ne (tgt := 101) hx hb dX3_readNumber_81 (by decide) (by omega) (fun c_81 => ?_) (fun c_81 => ?_)
      · skip
        refine lv_iconst (v := zI 0) hx hb dX3_readNumber_101 rfl ?_
        refine lv_istore_n (lv' := [(1, .int (zI 0)), (0, .ref ta)]) hx hb dX3_readNumber_102 rfl hl (by decide) rfl (fun ls hl => ?_)
        refine lv_aload_n hx hb dX3_readNumber_103 rfl (lv_at hl 1 rfl) ?_
        refine lv_iload_n hx hb dX3_readNumber_104 rfl (lv_at hl 0 rfl) ?_
        refine z_if_ne (tgt := 117) hx hb dX3_readNumber_105 (by decide) (by omega) (fun c_105 => ?_) (fun c_105 => ?_)
        · skip
          exfalso; omega
        refine lv_aload_n hx hb dX3_readNumber_108 rfl (lv_at hl 1 rfl) ?_
        refine va_get (D := D) (ci := 3) (C := RX3) (T := TX3) (N := 8) hx hb hts inc_X3_readNumber_3 hown hK hP 0 rfl rfl 5 (by decide) (hts (.fieldLink RX3 47 "BedHouse$Text" "value" "I") (by decide +kernel)) (fun _ h9 => h9) rfl dX3_readNumber_109 ?_
        refine lv_bipush (v := zI 99) hx hb dX3_readNumber_112 (by decide) ?_
        refine z_icmp_le (tgt := 121) hx hb dX3_readNumber_114 (by decide) (by omega) (fun c_114 => ?_) (fun c_114 => ?_)
        · skip
          refine lv_iconst (v := zI 2) hx hb dX3_readNumber_121 rfl ?_
          refine va_put (D := D) (ci := 3) (v := .int (zI 2)) (ty := .int) (C := RX3) (T := TX3) (N := 8) hx hb hts inc_X3_readNumber_3 tyX3 tyX3_ok nmX3 hown hK hP hD hS 0 rfl rfl 4 (by decide) (hts (.fieldLink RX3 37 "BedHouse$Text" "token" "I") (by decide +kernel)) (fun _ h9 => h9) rfl (by decide +kernel) rfl rfl (Nat.le_of_ble_eq_true rfl) dX3_readNumber_122 (fun H locs hP hD hS => ?_)
          have hP : va_P D vwCl [(ta, .inr (3, [.ref yb, .int (zI ln), .int (zI i), .int (zI ts), .int (zI 2), .int (zI v), .int (zI dt), .int (zI ht)])), (yb, .inl (cI, 200, .inl (zia tx)))] H := hP
          have hD : va_D A [(ta, .inr (3, [.ref yb, .int (zI ln), .int (zI i), .int (zI ts), .int (zI 2), .int (zI v), .int (zI dt), .int (zI ht)])), (yb, .inl (cI, 200, .inl (zia tx)))] := hD
          exact wr_retv M dX3_readNumber_125 (u := (i, 2, v)) (by rw [hend]; dsimp only; rw [if_neg (by omega)]) hP hD hS
        refine lv_iconst (v := zI 4) hx hb dX3_readNumber_117 rfl ?_
        refine lv_goto (tgt := 122) hx hb dX3_readNumber_118 (by decide) ?_
        refine va_put (D := D) (ci := 3) (v := .int (zI 4)) (ty := .int) (C := RX3) (T := TX3) (N := 8) hx hb hts inc_X3_readNumber_3 tyX3 tyX3_ok nmX3 hown hK hP hD hS 0 rfl rfl 4 (by decide) (hts (.fieldLink RX3 37 "BedHouse$Text" "token" "I") (by decide +kernel)) (fun _ h9 => h9) rfl (by decide +kernel) rfl rfl (Nat.le_of_ble_eq_true rfl) dX3_readNumber_122 (fun H locs hP hD hS => ?_)
        have hP : va_P D vwCl [(ta, .inr (3, [.ref yb, .int (zI ln), .int (zI i), .int (zI ts), .int (zI 4), .int (zI v), .int (zI dt), .int (zI ht)])), (yb, .inl (cI, 200, .inl (zia tx)))] H := hP
        have hD : va_D A [(ta, .inr (3, [.ref yb, .int (zI ln), .int (zI i), .int (zI ts), .int (zI 4), .int (zI v), .int (zI dt), .int (zI ht)])), (yb, .inl (cI, 200, .inl (zia tx)))] := hD
        exact wr_retv M dX3_readNumber_125 (u := (i, 4, v)) (by rw [hend]; dsimp only; rw [if_pos (by omega)]) hP hD hS
      refine lv_aload_n hx hb dX3_readNumber_84 rfl (lv_at hl 0 rfl) ?_
      refine va_get (D := D) (ci := 3) (C := RX3) (T := TX3) (N := 8) hx hb hts inc_X3_readNumber_3 hown hK hP 0 rfl rfl 2 (by decide) (hts (.fieldLink RX3 31 "BedHouse$Text" "at" "I") (by decide +kernel)) (fun _ h9 => h9) rfl dX3_readNumber_85 ?_
      refine lv_aload_n hx hb dX3_readNumber_88 rfl (lv_at hl 0 rfl) ?_
      refine va_get (D := D) (ci := 3) (C := RX3) (T := TX3) (N := 8) hx hb hts inc_X3_readNumber_3 hown hK hP 0 rfl rfl 3 (by decide) (hts (.fieldLink RX3 44 "BedHouse$Text" "tokenStart" "I") (by decide +kernel)) (fun _ h9 => h9) rfl dX3_readNumber_89 ?_
      refine z_isub hx hb dX3_readNumber_92 ?_
      refine lv_iconst (v := zI 1) hx hb dX3_readNumber_93 rfl ?_
      refine z_icmp_le (tgt := 101) hx hb dX3_readNumber_94 (by decide) (by omega) (fun c_94 => ?_) (fun c_94 => ?_)
      · skip
        refine lv_iconst (v := zI 0) hx hb dX3_readNumber_101 rfl ?_
        refine lv_istore_n (lv' := [(1, .int (zI 0)), (0, .ref ta)]) hx hb dX3_readNumber_102 rfl hl (by decide) rfl (fun ls hl => ?_)
        refine lv_aload_n hx hb dX3_readNumber_103 rfl (lv_at hl 1 rfl) ?_
        refine lv_iload_n hx hb dX3_readNumber_104 rfl (lv_at hl 0 rfl) ?_
        refine z_if_ne (tgt := 117) hx hb dX3_readNumber_105 (by decide) (by omega) (fun c_105 => ?_) (fun c_105 => ?_)
        · skip
          exfalso; omega
        refine lv_aload_n hx hb dX3_readNumber_108 rfl (lv_at hl 1 rfl) ?_
        refine va_get (D := D) (ci := 3) (C := RX3) (T := TX3) (N := 8) hx hb hts inc_X3_readNumber_3 hown hK hP 0 rfl rfl 5 (by decide) (hts (.fieldLink RX3 47 "BedHouse$Text" "value" "I") (by decide +kernel)) (fun _ h9 => h9) rfl dX3_readNumber_109 ?_
        refine lv_bipush (v := zI 99) hx hb dX3_readNumber_112 (by decide) ?_
        refine z_icmp_le (tgt := 121) hx hb dX3_readNumber_114 (by decide) (by omega) (fun c_114 => ?_) (fun c_114 => ?_)
        · skip
          refine lv_iconst (v := zI 2) hx hb dX3_readNumber_121 rfl ?_
          refine va_put (D := D) (ci := 3) (v := .int (zI 2)) (ty := .int) (C := RX3) (T := TX3) (N := 8) hx hb hts inc_X3_readNumber_3 tyX3 tyX3_ok nmX3 hown hK hP hD hS 0 rfl rfl 4 (by decide) (hts (.fieldLink RX3 37 "BedHouse$Text" "token" "I") (by decide +kernel)) (fun _ h9 => h9) rfl (by decide +kernel) rfl rfl (Nat.le_of_ble_eq_true rfl) dX3_readNumber_122 (fun H locs hP hD hS => ?_)
          have hP : va_P D vwCl [(ta, .inr (3, [.ref yb, .int (zI ln), .int (zI i), .int (zI ts), .int (zI 2), .int (zI v), .int (zI dt), .int (zI ht)])), (yb, .inl (cI, 200, .inl (zia tx)))] H := hP
          have hD : va_D A [(ta, .inr (3, [.ref yb, .int (zI ln), .int (zI i), .int (zI ts), .int (zI 2), .int (zI v), .int (zI dt), .int (zI ht)])), (yb, .inl (cI, 200, .inl (zia tx)))] := hD
          exact wr_retv M dX3_readNumber_125 (u := (i, 2, v)) (by rw [hend]; dsimp only; rw [if_neg (by omega)]) hP hD hS
        refine lv_iconst (v := zI 4) hx hb dX3_readNumber_117 rfl ?_
        refine lv_goto (tgt := 122) hx hb dX3_readNumber_118 (by decide) ?_
        refine va_put (D := D) (ci := 3) (v := .int (zI 4)) (ty := .int) (C := RX3) (T := TX3) (N := 8) hx hb hts inc_X3_readNumber_3 tyX3 tyX3_ok nmX3 hown hK hP hD hS 0 rfl rfl 4 (by decide) (hts (.fieldLink RX3 37 "BedHouse$Text" "token" "I") (by decide +kernel)) (fun _ h9 => h9) rfl (by decide +kernel) rfl rfl (Nat.le_of_ble_eq_true rfl) dX3_readNumber_122 (fun H locs hP hD hS => ?_)
        have hP : va_P D vwCl [(ta, .inr (3, [.ref yb, .int (zI ln), .int (zI i), .int (zI ts), .int (zI 4), .int (zI v), .int (zI dt), .int (zI ht)])), (yb, .inl (cI, 200, .inl (zia tx)))] H := hP
        have hD : va_D A [(ta, .inr (3, [.ref yb, .int (zI ln), .int (zI i), .int (zI ts), .int (zI 4), .int (zI v), .int (zI dt), .int (zI ht)])), (yb, .inl (cI, 200, .inl (zia tx)))] := hD
        exact wr_retv M dX3_readNumber_125 (u := (i, 4, v)) (by rw [hend]; dsimp only; rw [if_pos (by omega)]) hP hD hS
      refine lv_iconst (v := zI 1) hx hb dX3_readNumber_97 rfl ?_
      refine lv_goto (tgt := 102) hx hb dX3_readNumber_98 (by decide) ?_
      refine lv_istore_n (lv' := [(1, .int (zI 1)), (0, .ref ta)]) hx hb dX3_readNumber_102 rfl hl (by decide) rfl (fun ls hl => ?_)
      refine lv_aload_n hx hb dX3_readNumber_103 rfl (lv_at hl 1 rfl) ?_
      refine lv_iload_n hx hb dX3_readNumber_104 rfl (lv_at hl 0 rfl) ?_
      refine z_if_ne (tgt := 117) hx hb dX3_readNumber_105 (by decide) (by omega) (fun c_105 => ?_) (fun c_105 => ?_)
      · skip
        refine lv_iconst (v := zI 4) hx hb dX3_readNumber_117 rfl ?_
        refine lv_goto (tgt := 122) hx hb dX3_readNumber_118 (by decide) ?_
        refine va_put (D := D) (ci := 3) (v := .int (zI 4)) (ty := .int) (C := RX3) (T := TX3) (N := 8) hx hb hts inc_X3_readNumber_3 tyX3 tyX3_ok nmX3 hown hK hP hD hS 0 rfl rfl 4 (by decide) (hts (.fieldLink RX3 37 "BedHouse$Text" "token" "I") (by decide +kernel)) (fun _ h9 => h9) rfl (by decide +kernel) rfl rfl (Nat.le_of_ble_eq_true rfl) dX3_readNumber_122 (fun H locs hP hD hS => ?_)
        have hP : va_P D vwCl [(ta, .inr (3, [.ref yb, .int (zI ln), .int (zI i), .int (zI ts), .int (zI 4), .int (zI v), .int (zI dt), .int (zI ht)])), (yb, .inl (cI, 200, .inl (zia tx)))] H := hP
        have hD : va_D A [(ta, .inr (3, [.ref yb, .int (zI ln), .int (zI i), .int (zI ts), .int (zI 4), .int (zI v), .int (zI dt), .int (zI ht)])), (yb, .inl (cI, 200, .inl (zia tx)))] := hD
        exact wr_retv M dX3_readNumber_125 (u := (i, 4, v)) (by rw [hend]; dsimp only; rw [if_pos (Or.inl ⟨c_81, c_94⟩)]) hP hD hS
      exfalso; omega
    refine lv_aload_n hx hb dX3_readNumber_16 rfl (lv_at hl 0 rfl) ?_
    refine lv_aload_n hx hb dX3_readNumber_17 rfl (lv_at hl 0 rfl) ?_
    refine va_get (D := D) (ci := 3) (C := RX3) (T := TX3) (N := 8) hx hb hts inc_X3_readNumber_3 hown hK hP 0 rfl rfl 2 (by decide) (hts (.fieldLink RX3 31 "BedHouse$Text" "at" "I") (by decide +kernel)) (fun _ h9 => h9) rfl dX3_readNumber_18 ?_
    refine pc_V (As := [.int (zI i)]) (rest := []) M (c_X3_byteAt l D cB cI cZ cM _ ta yb tx ln i ts tk v dt ht i (by first | assumption | omega) (by first | assumption | omega)) gX3_readNumber_X3_byteAt rfl ⟨rfl, hd_X3_byteAt⟩ ⟨Nat.le_of_ble_eq_true rfl, Nat.le_of_ble_eq_true rfl⟩ hK hP [0, 1] rfl 0 3 rfl rfl rfl hl.1 rfl rfl (Nat.le_of_ble_eq_true rfl) dX3_readNumber_21 ⟨Nat.le_of_ble_eq_true rfl, Nat.le_of_ble_eq_true rfl⟩ (fun r_21 h_21 => ?_)
    subst h_21
    have hbr := btA_rng htx ln i
    refine pc_J (As := [.int (zI (btA tx ln i))]) (rest := []) M (c_X3_isDigit l D cB cI cZ cM _ (btA tx ln i) (by first | assumption | omega)) gX3_readNumber_X3_isDigit rfl hd_X3_isDigit ⟨Nat.le_of_ble_eq_true rfl, Nat.le_of_ble_eq_true rfl⟩ hK hP [] rfl hl.1 rfl rfl (Nat.le_of_ble_eq_true rfl) dX3_readNumber_24 ⟨Nat.le_of_ble_eq_true rfl, Nat.le_of_ble_eq_true rfl⟩ (fun r_24 h_24 => ?_)
    subst h_24
    refine z_if_eq (tgt := 71) hx hb dX3_readNumber_27 (by decide) (zb_bd _) (fun c_27 => ?_) (fun c_27 => ?_)
    · skip
      have c_27 := zb_f c_27
      have hend : (nuF (btA tx ln) 201 0 ax) = (v, i) := by rw [← hv, nuF, if_neg c_27]
      refine lv_aload_n hx hb dX3_readNumber_71 rfl (lv_at hl 0 rfl) ?_
      refine lv_aload_n hx hb dX3_readNumber_72 rfl (lv_at hl 0 rfl) ?_
      refine va_get (D := D) (ci := 3) (C := RX3) (T := TX3) (N := 8) hx hb hts inc_X3_readNumber_3 hown hK hP 0 rfl rfl 3 (by decide) (hts (.fieldLink RX3 44 "BedHouse$Text" "tokenStart" "I") (by decide +kernel)) (fun _ h9 => h9) rfl dX3_readNumber_73 ?_
      refine pc_V (As := [.int (zI ts)]) (rest := []) M (c_X3_byteAt l D cB cI cZ cM _ ta yb tx ln i ts tk v dt ht ts (by first | assumption | omega) (by first | assumption | omega)) gX3_readNumber_X3_byteAt rfl ⟨rfl, hd_X3_byteAt⟩ ⟨Nat.le_of_ble_eq_true rfl, Nat.le_of_ble_eq_true rfl⟩ hK hP [0, 1] rfl 0 3 rfl rfl rfl hl.1 rfl rfl (Nat.le_of_ble_eq_true rfl) dX3_readNumber_76 ⟨Nat.le_of_ble_eq_true rfl, Nat.le_of_ble_eq_true rfl⟩ (fun r_76 h_76 => ?_)
      subst h_76
      have hbt := btA_rng htx ln ts
      refine lv_bipush (v := zI 48) hx hb dX3_readNumber_79 (by decide) ?_
      refine z_icmp_ne (tgt := 101) hx hb dX3_readNumber_81 (by decide) (by omega) (fun c_81 => ?_) (fun c_81 => ?_)
      · skip
        refine lv_iconst (v := zI 0) hx hb dX3_readNumber_101 rfl ?_
        refine lv_istore_n (lv' := [(1, .int (zI 0)), (0, .ref ta)]) hx hb dX3_readNumber_102 rfl hl (by decide) rfl (fun ls hl => ?_)
        refine lv_aload_n hx hb dX3_readNumber_103 rfl (lv_at hl 1 rfl) ?_
        refine lv_iload_n hx hb dX3_readNumber_104 rfl (lv_at hl 0 rfl) ?_
        refine z_if_ne (tgt := 117) hx hb dX3_readNumber_105 (by decide) (by omega) (fun c_105 => ?_) (fun c_105 => ?_)
        · skip
          exfalso; omega
        refine lv_aload_n hx hb dX3_readNumber_108 rfl (lv_at hl 1 rfl) ?_
        refine va_get (D := D) (ci := 3) (C := RX3) (T := TX3) (N := 8) hx hb hts inc_X3_readNumber_3 hown hK hP 0 rfl rfl 5 (by decide) (hts (.fieldLink RX3 47 "BedHouse$Text" "value" "I") (by decide +kernel)) (fun _ h9 => h9) rfl dX3_readNumber_109 ?_
        refine lv_bipush (v := zI 99) hx hb dX3_readNumber_112 (by decide) ?_
        refine z_icmp_le (tgt := 121) hx hb dX3_readNumber_114 (by decide) (by omega) (fun c_114 => ?_) (fun c_114 => ?_)
        · skip
          refine lv_iconst (v := zI 2) hx hb dX3_readNumber_121 rfl ?_
          refine va_put (D := D) (ci := 3) (v := .int (zI 2)) (ty := .int) (C := RX3) (T := TX3) (N := 8) hx hb hts inc_X3_readNumber_3 tyX3 tyX3_ok nmX3 hown hK hP hD hS 0 rfl rfl 4 (by decide) (hts (.fieldLink RX3 37 "BedHouse$Text" "token" "I") (by decide +kernel)) (fun _ h9 => h9) rfl (by decide +kernel) rfl rfl (Nat.le_of_ble_eq_true rfl) dX3_readNumber_122 (fun H locs hP hD hS => ?_)
          have hP : va_P D vwCl [(ta, .inr (3, [.ref yb, .int (zI ln), .int (zI i), .int (zI ts), .int (zI 2), .int (zI v), .int (zI dt), .int (zI ht)])), (yb, .inl (cI, 200, .inl (zia tx)))] H := hP
          have hD : va_D A [(ta, .inr (3, [.ref yb, .int (zI ln), .int (zI i), .int (zI ts), .int (zI 2), .int (zI v), .int (zI dt), .int (zI ht)])), (yb, .inl (cI, 200, .inl (zia tx)))] := hD
          exact wr_retv M dX3_readNumber_125 (u := (i, 2, v)) (by rw [hend]; dsimp only; rw [if_neg (by omega)]) hP hD hS
        refine lv_iconst (v := zI 4) hx hb dX3_readNumber_117 rfl ?_
        refine lv_goto (tgt := 122) hx hb dX3_readNumber_118 (by decide) ?_
        refine va_put (D := D) (ci := 3) (v := .int (zI 4)) (ty := .int) (C := RX3) (T := TX3) (N := 8) hx hb hts inc_X3_readNumber_3 tyX3 tyX3_ok nmX3 hown hK hP hD hS 0 rfl rfl 4 (by decide) (hts (.fieldLink RX3 37 "BedHouse$Text" "token" "I") (by decide +kernel)) (fun _ h9 => h9) rfl (by decide +kernel) rfl rfl (Nat.le_of_ble_eq_true rfl) dX3_readNumber_122 (fun H locs hP hD hS => ?_)
        have hP : va_P D vwCl [(ta, .inr (3, [.ref yb, .int (zI ln), .int (zI i), .int (zI ts), .int (zI 4), .int (zI v), .int (zI dt), .int (zI ht)])), (yb, .inl (cI, 200, .inl (zia tx)))] H := hP
        have hD : va_D A [(ta, .inr (3, [.ref yb, .int (zI ln), .int (zI i), .int (zI ts), .int (zI 4), .int (zI v), .int (zI dt), .int (zI ht)])), (yb, .inl (cI, 200, .inl (zia tx)))] := hD
        exact wr_retv M dX3_readNumber_125 (u := (i, 4, v)) (by rw [hend]; dsimp only; rw [if_pos (by omega)]) hP hD hS
      refine lv_aload_n hx hb dX3_readNumber_84 rfl (lv_at hl 0 rfl) ?_
      refine va_get (D := D) (ci := 3) (C := RX3) (T := TX3) (N := 8) hx hb hts inc_X3_readNumber_3 hown hK hP 0 rfl rfl 2 (by decide) (hts (.fieldLink RX3 31 "BedHouse$Text" "at" "I") (by decide +kernel)) (fun _ h9 => h9) rfl dX3_readNumber_85 ?_
      refine lv_aload_n hx hb dX3_readNumber_88 rfl (lv_at hl 0 rfl) ?_
      refine va_get (D := D) (ci := 3) (C := RX3) (T := TX3) (N := 8) hx hb hts inc_X3_readNumber_3 hown hK hP 0 rfl rfl 3 (by decide) (hts (.fieldLink RX3 44 "BedHouse$Text" "tokenStart" "I") (by decide +kernel)) (fun _ h9 => h9) rfl dX3_readNumber_89 ?_
      refine z_isub hx hb dX3_readNumber_92 ?_
      refine lv_iconst (v := zI 1) hx hb dX3_readNumber_93 rfl ?_
      refine z_icmp_le (tgt := 101) hx hb dX3_readNumber_94 (by decide) (by omega) (fun c_94 => ?_) (fun c_94 => ?_)
      · skip
        refine lv_iconst (v := zI 0) hx hb dX3_readNumber_101 rfl ?_
        refine lv_istore_n (lv' := [(1, .int (zI 0)), (0, .ref ta)]) hx hb dX3_readNumber_102 rfl hl (by decide) rfl (fun ls hl => ?_)
        refine lv_aload_n hx hb dX3_readNumber_103 rfl (lv_at hl 1 rfl) ?_
        refine lv_iload_n hx hb dX3_readNumber_104 rfl (lv_at hl 0 rfl) ?_
        refine z_if_ne (tgt := 117) hx hb dX3_readNumber_105 (by decide) (by omega) (fun c_105 => ?_) (fun c_105 => ?_)
        · skip
          exfalso; omega
        refine lv_aload_n hx hb dX3_readNumber_108 rfl (lv_at hl 1 rfl) ?_
        refine va_get (D := D) (ci := 3) (C := RX3) (T := TX3) (N := 8) hx hb hts inc_X3_readNumber_3 hown hK hP 0 rfl rfl 5 (by decide) (hts (.fieldLink RX3 47 "BedHouse$Text" "value" "I") (by decide +kernel)) (fun _ h9 => h9) rfl dX3_readNumber_109 ?_
        refine lv_bipush (v := zI 99) hx hb dX3_readNumber_112 (by decide) ?_
        refine z_icmp_le (tgt := 121) hx hb dX3_readNumber_114 (by decide) (by omega) (fun c_114 => ?_) (fun c_114 => ?_)
        · skip
          refine lv_iconst (v := zI 2) hx hb dX3_readNumber_121 rfl ?_
          refine va_put (D := D) (ci := 3) (v := .int (zI 2)) (ty := .int) (C := RX3) (T := TX3) (N := 8) hx hb hts inc_X3_readNumber_3 tyX3 tyX3_ok nmX3 hown hK hP hD hS 0 rfl rfl 4 (by decide) (hts (.fieldLink RX3 37 "BedHouse$Text" "token" "I") (by decide +kernel)) (fun _ h9 => h9) rfl (by decide +kernel) rfl rfl (Nat.le_of_ble_eq_true rfl) dX3_readNumber_122 (fun H locs hP hD hS => ?_)
          have hP : va_P D vwCl [(ta, .inr (3, [.ref yb, .int (zI ln), .int (zI i), .int (zI ts), .int (zI 2), .int (zI v), .int (zI dt), .int (zI ht)])), (yb, .inl (cI, 200, .inl (zia tx)))] H := hP
          have hD : va_D A [(ta, .inr (3, [.ref yb, .int (zI ln), .int (zI i), .int (zI ts), .int (zI 2), .int (zI v), .int (zI dt), .int (zI ht)])), (yb, .inl (cI, 200, .inl (zia tx)))] := hD
          exact wr_retv M dX3_readNumber_125 (u := (i, 2, v)) (by rw [hend]; dsimp only; rw [if_neg (by omega)]) hP hD hS
        refine lv_iconst (v := zI 4) hx hb dX3_readNumber_117 rfl ?_
        refine lv_goto (tgt := 122) hx hb dX3_readNumber_118 (by decide) ?_
        refine va_put (D := D) (ci := 3) (v := .int (zI 4)) (ty := .int) (C := RX3) (T := TX3) (N := 8) hx hb hts inc_X3_readNumber_3 tyX3 tyX3_ok nmX3 hown hK hP hD hS 0 rfl rfl 4 (by decide) (hts (.fieldLink RX3 37 "BedHouse$Text" "token" "I") (by decide +kernel)) (fun _ h9 => h9) rfl (by decide +kernel) rfl rfl (Nat.le_of_ble_eq_true rfl) dX3_readNumber_122 (fun H locs hP hD hS => ?_)
        have hP : va_P D vwCl [(ta, .inr (3, [.ref yb, .int (zI ln), .int (zI i), .int (zI ts), .int (zI 4), .int (zI v), .int (zI dt), .int (zI ht)])), (yb, .inl (cI, 200, .inl (zia tx)))] H := hP
        have hD : va_D A [(ta, .inr (3, [.ref yb, .int (zI ln), .int (zI i), .int (zI ts), .int (zI 4), .int (zI v), .int (zI dt), .int (zI ht)])), (yb, .inl (cI, 200, .inl (zia tx)))] := hD
        exact wr_retv M dX3_readNumber_125 (u := (i, 4, v)) (by rw [hend]; dsimp only; rw [if_pos (by omega)]) hP hD hS
      refine lv_iconst (v := zI 1) hx hb dX3_readNumber_97 rfl ?_
      refine lv_goto (tgt := 102) hx hb dX3_readNumber_98 (by decide) ?_
      refine lv_istore_n (lv' := [(1, .int (zI 1)), (0, .ref ta)]) hx hb dX3_readNumber_102 rfl hl (by decide) rfl (fun ls hl => ?_)
      refine lv_aload_n hx hb dX3_readNumber_103 rfl (lv_at hl 1 rfl) ?_
      refine lv_iload_n hx hb dX3_readNumber_104 rfl (lv_at hl 0 rfl) ?_
      refine z_if_ne (tgt := 117) hx hb dX3_readNumber_105 (by decide) (by omega) (fun c_105 => ?_) (fun c_105 => ?_)
      · skip
        refine lv_iconst (v := zI 4) hx hb dX3_readNumber_117 rfl ?_
        refine lv_goto (tgt := 122) hx hb dX3_readNumber_118 (by decide) ?_
        refine va_put (D := D) (ci := 3) (v := .int (zI 4)) (ty := .int) (C := RX3) (T := TX3) (N := 8) hx hb hts inc_X3_readNumber_3 tyX3 tyX3_ok nmX3 hown hK hP hD hS 0 rfl rfl 4 (by decide) (hts (.fieldLink RX3 37 "BedHouse$Text" "token" "I") (by decide +kernel)) (fun _ h9 => h9) rfl (by decide +kernel) rfl rfl (Nat.le_of_ble_eq_true rfl) dX3_readNumber_122 (fun H locs hP hD hS => ?_)
        have hP : va_P D vwCl [(ta, .inr (3, [.ref yb, .int (zI ln), .int (zI i), .int (zI ts), .int (zI 4), .int (zI v), .int (zI dt), .int (zI ht)])), (yb, .inl (cI, 200, .inl (zia tx)))] H := hP
        have hD : va_D A [(ta, .inr (3, [.ref yb, .int (zI ln), .int (zI i), .int (zI ts), .int (zI 4), .int (zI v), .int (zI dt), .int (zI ht)])), (yb, .inl (cI, 200, .inl (zia tx)))] := hD
        exact wr_retv M dX3_readNumber_125 (u := (i, 4, v)) (by rw [hend]; dsimp only; rw [if_pos (Or.inl ⟨c_81, c_94⟩)]) hP hD hS
      exfalso; omega
    have c_27 := zb_t c_27
    refine lv_aload_n hx hb dX3_readNumber_30 rfl (lv_at hl 0 rfl) ?_
    refine lv_bipush (v := zI 100) hx hb dX3_readNumber_31 (by decide) ?_
    refine lv_aload_n hx hb dX3_readNumber_33 rfl (lv_at hl 0 rfl) ?_
    refine va_get (D := D) (ci := 3) (C := RX3) (T := TX3) (N := 8) hx hb hts inc_X3_readNumber_3 hown hK hP 0 rfl rfl 5 (by decide) (hts (.fieldLink RX3 47 "BedHouse$Text" "value" "I") (by decide +kernel)) (fun _ h9 => h9) rfl dX3_readNumber_34 ?_
    refine lv_bipush (v := zI 10) hx hb dX3_readNumber_37 (by decide) ?_
    refine z_imul hx hb dX3_readNumber_39 ?_
    refine lv_aload_n hx hb dX3_readNumber_40 rfl (lv_at hl 0 rfl) ?_
    refine lv_aload_n hx hb dX3_readNumber_41 rfl (lv_at hl 0 rfl) ?_
    refine va_get (D := D) (ci := 3) (C := RX3) (T := TX3) (N := 8) hx hb hts inc_X3_readNumber_3 hown hK hP 0 rfl rfl 2 (by decide) (hts (.fieldLink RX3 31 "BedHouse$Text" "at" "I") (by decide +kernel)) (fun _ h9 => h9) rfl dX3_readNumber_42 ?_
    refine pc_V (As := [.int (zI i)]) (rest := [.int (zI (v * 10)), .int (zI 100), .ref ta]) M (c_X3_byteAt l D cB cI cZ cM _ ta yb tx ln i ts tk v dt ht i (by first | assumption | omega) (by first | assumption | omega)) gX3_readNumber_X3_byteAt rfl ⟨rfl, hd_X3_byteAt⟩ ⟨Nat.le_of_ble_eq_true rfl, Nat.le_of_ble_eq_true rfl⟩ hK hP [0, 1] rfl 0 3 rfl rfl rfl hl.1 rfl rfl (Nat.le_of_ble_eq_true rfl) dX3_readNumber_45 ⟨Nat.le_of_ble_eq_true rfl, Nat.le_of_ble_eq_true rfl⟩ (fun r_45 h_45 => ?_)
    subst h_45
    refine z_iadd hx hb dX3_readNumber_48 ?_
    refine lv_bipush (v := zI 48) hx hb dX3_readNumber_49 (by decide) ?_
    refine z_isub hx hb dX3_readNumber_51 ?_
    refine va_mmin hx hb (hml.trans hl.1.symm) hown (hts (.methodLink RX3 141 Lib.Math.min.name) (by decide +kernel)) (hts (.static Lib.Math.min.name) (by decide +kernel)) (hts (.initialized "java/lang/Math") (by decide +kernel)) (hts (.code Lib.Math.min.name Lib.Math.min.code 2 (some .int)) (by decide +kernel)) (Nat.le_of_ble_eq_true rfl) (Nat.le_of_ble_eq_true rfl) (Nat.le_of_ble_eq_true rfl) (Nat.le_of_ble_eq_true rfl) dX3_readNumber_52 ?_
    refine z_top (y := zI (min 100 (((v * 10) + (btA tx ln i)) - 48))) (zI_min (by omega) (by omega)) ?_
    refine va_put (D := D) (ci := 3) (v := .int (zI (min 100 (((v * 10) + (btA tx ln i)) - 48)))) (ty := .int) (C := RX3) (T := TX3) (N := 8) hx hb hts inc_X3_readNumber_3 tyX3 tyX3_ok nmX3 hown hK hP hD hS 0 rfl rfl 5 (by decide) (hts (.fieldLink RX3 47 "BedHouse$Text" "value" "I") (by decide +kernel)) (fun _ h9 => h9) rfl (by decide +kernel) rfl rfl (Nat.le_of_ble_eq_true rfl) dX3_readNumber_55 (fun H locs hP hD hS => ?_)
    have hP : va_P D vwCl [(ta, .inr (3, [.ref yb, .int (zI ln), .int (zI i), .int (zI ts), .int (zI tk), .int (zI (min 100 (((v * 10) + (btA tx ln i)) - 48))), .int (zI dt), .int (zI ht)])), (yb, .inl (cI, 200, .inl (zia tx)))] H := hP
    have hD : va_D A [(ta, .inr (3, [.ref yb, .int (zI ln), .int (zI i), .int (zI ts), .int (zI tk), .int (zI (min 100 (((v * 10) + (btA tx ln i)) - 48))), .int (zI dt), .int (zI ht)])), (yb, .inl (cI, 200, .inl (zia tx)))] := hD
    refine lv_aload_n hx hb dX3_readNumber_58 rfl (lv_at hl 0 rfl) ?_
    refine lv_dup hx hb dX3_readNumber_59 rfl ?_
    refine va_get (D := D) (ci := 3) (C := RX3) (T := TX3) (N := 8) hx hb hts inc_X3_readNumber_3 hown hK hP 0 rfl rfl 2 (by decide) (hts (.fieldLink RX3 31 "BedHouse$Text" "at" "I") (by decide +kernel)) (fun _ h9 => h9) rfl dX3_readNumber_60 ?_
    refine lv_iconst (v := zI 1) hx hb dX3_readNumber_63 rfl ?_
    refine z_iadd hx hb dX3_readNumber_64 ?_
    refine va_put (D := D) (ci := 3) (v := .int (zI (i + 1))) (ty := .int) (C := RX3) (T := TX3) (N := 8) hx hb hts inc_X3_readNumber_3 tyX3 tyX3_ok nmX3 hown hK hP hD hS 0 rfl rfl 2 (by decide) (hts (.fieldLink RX3 31 "BedHouse$Text" "at" "I") (by decide +kernel)) (fun _ h9 => h9) rfl (by decide +kernel) rfl rfl (Nat.le_of_ble_eq_true rfl) dX3_readNumber_65 (fun H locs hP hD hS => ?_)
    have hP : va_P D vwCl [(ta, .inr (3, [.ref yb, .int (zI ln), .int (zI (i + 1)), .int (zI ts), .int (zI tk), .int (zI (min 100 (((v * 10) + (btA tx ln i)) - 48))), .int (zI dt), .int (zI ht)])), (yb, .inl (cI, 200, .inl (zia tx)))] H := hP
    have hD : va_D A [(ta, .inr (3, [.ref yb, .int (zI ln), .int (zI (i + 1)), .int (zI ts), .int (zI tk), .int (zI (min 100 (((v * 10) + (btA tx ln i)) - 48))), .int (zI dt), .int (zI ht)])), (yb, .inl (cI, 200, .inl (zia tx)))] := hD
    refine lv_goto (tgt := 5) hx hb dX3_readNumber_68 (by decide) ?_
    exact ih n (min 100 (v * 10 + btA tx ln i - 48)) (i + 1) (by omega) (by omega) (by omega) (by omega) (by rw [← hv, nuF, if_pos c_27]) _ _ hP hD hS _ (lv_sub hl [0] rfl)
set_option maxHeartbeats 4000000 in
set_option maxRecDepth 100000 in
theorem c_X3_readNumber (l : Launch) (D : va_G) (cB cI cZ cM : ClassId) (Hp : Heap) (ta : Nat) (yb : Nat) (tx : Int → Int) (ln : Int) (ax : Int) (ts : Int) (tk : Int) (vl : Int) (dt : Int) (ht : Int) (hln : 0 ≤ ln ∧ ln ≤ 200) (htx : ∀ i : Int, 0 ≤ i → i < 200 → 0 ≤ tx i ∧ tx i ≤ 255) (hax : 0 ≤ ts ∧ ts ≤ ax ∧ ax ≤ ln) : cWv l yX3_readNumber wsX3_readNumber (rmW 1 0 0 21) D (TYS cB cI cZ cM) [.ref ta] [(ta, .inr (3, [.ref yb, .int (zI ln), .int (zI ax), .int (zI ts), .int (zI tk), .int (zI vl), .int (zI dt), .int (zI ht)])), (yb, .inl (cI, 200, .inl (zia tx)))] Hp (fun (u : Int × Int × Int) => u = ((nuF (btA tx ln) 201 0 ax).2, (if (btA tx ln ts = 48 ∧ 1 < (nuF (btA tx ln) 201 0 ax).2 - ts) ∨ 99 < (nuF (btA tx ln) 201 0 ax).1 then 4 else 2), (nuF (btA tx ln) 201 0 ax).1)) (fun (u : Int × Int × Int) => [(ta, .inr (3, [.ref yb, .int (zI ln), .int (zI u.1), .int (zI ts), .int (zI u.2.1), .int (zI u.2.2), .int (zI dt), .int (zI ht)])), (yb, .inl (cI, 200, .inl (zia tx)))]) 0 0 := by
  refine wr_startv (by decide) rfl (Nat.le_of_ble_eq_true rfl) ?_
  intro pg ev sx mm args below meth cd ls A M hP hD hS hA hK hl
  obtain ⟨hx, hb, hr, hml, hown, hts, hlk, hN0⟩ := id M
  have hl : lv_has ls 2 [(0, .ref ta)] := hl
  refine W.widen (k := 0) (n := 0) (Nat.zero_le _) (Nat.zero_le _) ?_
  refine lv_aload_n hx hb dX3_readNumber_0 rfl (lv_at hl 0 rfl) ?_
  refine lv_iconst (v := zI 0) hx hb dX3_readNumber_1 rfl ?_
  refine va_put (D := D) (ci := 3) (v := .int (zI 0)) (ty := .int) (C := RX3) (T := TX3) (N := 8) hx hb hts inc_X3_readNumber_3 tyX3 tyX3_ok nmX3 hown hK hP hD hS 0 rfl rfl 5 (by decide) (hts (.fieldLink RX3 47 "BedHouse$Text" "value" "I") (by decide +kernel)) (fun _ h9 => h9) rfl (by decide +kernel) rfl rfl (Nat.le_of_ble_eq_true rfl) dX3_readNumber_2 (fun H locs hP hD hS => ?_)
  have hP : va_P D vwCl [(ta, .inr (3, [.ref yb, .int (zI ln), .int (zI ax), .int (zI ts), .int (zI tk), .int (zI 0), .int (zI dt), .int (zI ht)])), (yb, .inl (cI, 200, .inl (zia tx)))] H := hP
  have hD : va_D A [(ta, .inr (3, [.ref yb, .int (zI ln), .int (zI ax), .int (zI ts), .int (zI tk), .int (zI 0), .int (zI dt), .int (zI ht)])), (yb, .inl (cI, 200, .inl (zia tx)))] := hD
  exact lp_X3_readNumber_5 l D cB cI cZ cM ta yb tx ln ax ts tk vl dt ht hln htx hax M hK hA (201 + 1) 201 0 ax (Nat.lt_succ_self _) (by omega) (by omega) (by omega) (by rfl) _ _ hP hD hS _ (lv_sub hl [0] rfl)
set_option maxHeartbeats 4000000 in
set_option maxRecDepth 100000 in
theorem lp_X3_nextToken_0 (l : Launch) (D : va_G) (cB cI cZ cM : ClassId) (K V : Nat → Nat) (ta : Nat) (yb : Nat) (tx : Int → Int) (ln : Int) (ax : Int) (ts : Int) (tk : Int) (vl : Int) (dt : Int) (ht : Int) (hln : 0 ≤ ln ∧ ln ≤ 200) (htx : ∀ i : Int, 0 ≤ i → i < 200 → 0 ≤ tx i ∧ tx i ≤ 255) (hax : 0 ≤ ax ∧ ax ≤ ln) {pg : Program} {ev : Env} {sx : State} {mm : MethodId} {args : Array Value} {below : List Frame} {meth : Method} {cd : Code} (M : MX pg sx mm args meth cd cX3_nextToken 2 none RX3 wsX3_nextToken) (hK : va_K D vwCl (TYS cB cI cZ cM) sx) {A : Nat → Prop} (hA : ∀ q : Nat, sx.heap.size ≤ q → A q) (hE : ENV K V A sx sx.heap) : ∀ (N : Nat) (n : Nat) (i : Int), (n < N) → (ax ≤ i ∧ i ≤ ln) → (ln < i + n) → (skF (btA tx ln) n i = skF (btA tx ln) 201 ax) → ∀ (H : Heap) (locs : List Loc), va_P D vwCl [(ta, .inr (3, [.ref yb, .int (zI ln), .int (zI i), .int (zI ts), .int (zI tk), .int (zI vl), .int (zI dt), .int (zI ht)])), (yb, .inl (cI, 200, .inl (zia tx)))] H → va_D A [(ta, .inr (3, [.ref yb, .int (zI ln), .int (zI i), .int (zI ts), .int (zI tk), .int (zI vl), .int (zI dt), .int (zI ht)])), (yb, .inl (cI, 200, .inl (zia tx)))] → va_S A sx.heap H locs → ∀ ls : Array Slot, lv_has ls 2 [(0, .ref ta)] → W pg l ev (rmW 6 0 0 128) sx mm args below meth cd H locs 0 0 (QWv below args sx A D (fun (u : TKS) => u = ntA (btA tx ln) ax vl) (fun (u : TKS) => [(ta, .inr (3, [.ref yb, .int (zI ln), .int (zI u.1), .int (zI u.2.1), .int (zI u.2.2.1), .int (zI u.2.2.2), .int (zI dt), .int (zI ht)])), (yb, .inl (cI, 200, .inl (zia tx)))]) 0 0) (F0 mm 0 ls []) := by
  intro N
  induction N with
  | zero => intro n i hN; exact absurd hN (Nat.not_lt_zero _)
  | succ N ih =>
    intro n i hN hi hn hv H locs hP hD hS ls hl
    obtain ⟨hx, hb, hr, hml, hown, hts, hlk, hN0⟩ := id M
    obtain ⟨n, rfl⟩ : ∃ x : Nat, n = x + 1 := ⟨n - 1, by omega⟩
    refine lv_aload_n hx hb dX3_nextToken_0 rfl (lv_at hl 0 rfl) ?_
    refine va_get (D := D) (ci := 3) (C := RX3) (T := TX3) (N := 8) hx hb hts inc_X3_nextToken_3 hown hK hP 0 rfl rfl 2 (by decide) (hts (.fieldLink RX3 31 "BedHouse$Text" "at" "I") (by decide +kernel)) (fun _ h9 => h9) rfl dX3_nextToken_1 ?_
    refine lv_aload_n hx hb dX3_nextToken_4 rfl (lv_at hl 0 rfl) ?_
    refine va_get (D := D) (ci := 3) (C := RX3) (T := TX3) (N := 8) hx hb hts inc_X3_nextToken_3 hown hK hP 0 rfl rfl 1 (by decide) (hts (.fieldLink RX3 15 "BedHouse$Text" "length" "I") (by decide +kernel)) (fun _ h9 => h9) rfl dX3_nextToken_5 ?_
    refine z_icmp_ge (tgt := 37) hx hb dX3_nextToken_8 (by decide) (by omega) (fun c_8 => ?_) (fun c_8 => ?_)
    · skip
      have hend : skF (btA tx ln) 201 ax = i := by rw [← hv, skF, btA_end c_8, if_neg (by omega)]
      refine lv_aload_n hx hb dX3_nextToken_37 rfl (lv_at hl 0 rfl) ?_
      refine lv_aload_n hx hb dX3_nextToken_38 rfl (lv_at hl 0 rfl) ?_
      refine va_get (D := D) (ci := 3) (C := RX3) (T := TX3) (N := 8) hx hb hts inc_X3_nextToken_3 hown hK hP 0 rfl rfl 2 (by decide) (hts (.fieldLink RX3 31 "BedHouse$Text" "at" "I") (by decide +kernel)) (fun _ h9 => h9) rfl dX3_nextToken_39 ?_
      refine va_put (D := D) (ci := 3) (v := .int (zI i)) (ty := .int) (C := RX3) (T := TX3) (N := 8) hx hb hts inc_X3_nextToken_3 tyX3 tyX3_ok nmX3 hown hK hP hD hS 0 rfl rfl 3 (by decide) (hts (.fieldLink RX3 44 "BedHouse$Text" "tokenStart" "I") (by decide +kernel)) (fun _ h9 => h9) rfl (by decide +kernel) rfl rfl (Nat.le_of_ble_eq_true rfl) dX3_nextToken_42 (fun H locs hP hD hS => ?_)
      have hP : va_P D vwCl [(ta, .inr (3, [.ref yb, .int (zI ln), .int (zI i), .int (zI i), .int (zI tk), .int (zI vl), .int (zI dt), .int (zI ht)])), (yb, .inl (cI, 200, .inl (zia tx)))] H := hP
      have hD : va_D A [(ta, .inr (3, [.ref yb, .int (zI ln), .int (zI i), .int (zI i), .int (zI tk), .int (zI vl), .int (zI dt), .int (zI ht)])), (yb, .inl (cI, 200, .inl (zia tx)))] := hD
      refine lv_aload_n hx hb dX3_nextToken_45 rfl (lv_at hl 0 rfl) ?_
      refine lv_aload_n hx hb dX3_nextToken_46 rfl (lv_at hl 0 rfl) ?_
      refine va_get (D := D) (ci := 3) (C := RX3) (T := TX3) (N := 8) hx hb hts inc_X3_nextToken_3 hown hK hP 0 rfl rfl 2 (by decide) (hts (.fieldLink RX3 31 "BedHouse$Text" "at" "I") (by decide +kernel)) (fun _ h9 => h9) rfl dX3_nextToken_47 ?_
      refine pc_V (As := [.int (zI i)]) (rest := []) M (c_X3_byteAt l D cB cI cZ cM _ ta yb tx ln i i tk vl dt ht i (by first | assumption | omega) (by first | assumption | omega)) gX3_nextToken_X3_byteAt rfl ⟨rfl, hd_X3_byteAt⟩ ⟨Nat.le_of_ble_eq_true rfl, Nat.le_of_ble_eq_true rfl⟩ hK hP [0, 1] rfl 0 3 rfl rfl rfl hl.1 rfl rfl (Nat.le_of_ble_eq_true rfl) dX3_nextToken_50 ⟨Nat.le_of_ble_eq_true rfl, Nat.le_of_ble_eq_true rfl⟩ (fun r_50 h_50 => ?_)
      subst h_50
      have hbr2 := btA_rng htx ln i
      refine lv_istore_n (lv' := [(1, .int (zI (btA tx ln i))), (0, .ref ta)]) hx hb dX3_nextToken_53 rfl hl (by decide) rfl (fun ls hl => ?_)
      refine lv_iload_n hx hb dX3_nextToken_54 rfl (lv_at hl 0 rfl) ?_
      refine z_if_ge (tgt := 66) hx hb dX3_nextToken_55 (by decide) (by omega) (fun c_55 => ?_) (fun c_55 => ?_)
      · skip
        have hbn := btA_nn (tx := tx) (ln := ln) (i := i) c_55
        refine lv_iload_n hx hb dX3_nextToken_66 rfl (lv_at hl 0 rfl) ?_
        refine pc_J (As := [.int (zI (btA tx ln i))]) (rest := []) M (c_X3_isLetter l D cB cI cZ cM _ (btA tx ln i) (by first | assumption | omega)) gX3_nextToken_X3_isLetter rfl hd_X3_isLetter ⟨Nat.le_of_ble_eq_true rfl, Nat.le_of_ble_eq_true rfl⟩ hK hP [] rfl hl.1 rfl rfl (Nat.le_of_ble_eq_true rfl) dX3_nextToken_67 ⟨Nat.le_of_ble_eq_true rfl, Nat.le_of_ble_eq_true rfl⟩ (fun r_67 h_67 => ?_)
        subst h_67
        refine z_if_eq (tgt := 80) hx hb dX3_nextToken_70 (by decide) (zb_bd _) (fun c_70 => ?_) (fun c_70 => ?_)
        · skip
          have c_70 := zb_f c_70
          refine lv_iload_n hx hb dX3_nextToken_80 rfl (lv_at hl 0 rfl) ?_
          refine pc_J (As := [.int (zI (btA tx ln i))]) (rest := []) M (c_X3_isDigit l D cB cI cZ cM _ (btA tx ln i) (by first | assumption | omega)) gX3_nextToken_X3_isDigit rfl hd_X3_isDigit ⟨Nat.le_of_ble_eq_true rfl, Nat.le_of_ble_eq_true rfl⟩ hK hP [] rfl hl.1 rfl rfl (Nat.le_of_ble_eq_true rfl) dX3_nextToken_81 ⟨Nat.le_of_ble_eq_true rfl, Nat.le_of_ble_eq_true rfl⟩ (fun r_81 h_81 => ?_)
          subst h_81
          refine z_if_eq (tgt := 94) hx hb dX3_nextToken_84 (by decide) (zb_bd _) (fun c_84 => ?_) (fun c_84 => ?_)
          · skip
            have c_84 := zb_f c_84
            refine lv_aload_n hx hb dX3_nextToken_94 rfl (lv_at hl 1 rfl) ?_
            refine lv_iload_n hx hb dX3_nextToken_95 rfl (lv_at hl 0 rfl) ?_
            refine lv_bipush (v := zI 59) hx hb dX3_nextToken_96 (by decide) ?_
            refine z_icmp_ne (tgt := 105) hx hb dX3_nextToken_98 (by decide) (by omega) (fun c_98 => ?_) (fun c_98 => ?_)
            · skip
              refine lv_iconst (v := zI 4) hx hb dX3_nextToken_105 rfl ?_
              refine va_put (D := D) (ci := 3) (v := .int (zI 4)) (ty := .int) (C := RX3) (T := TX3) (N := 8) hx hb hts inc_X3_nextToken_3 tyX3 tyX3_ok nmX3 hown hK hP hD hS 0 rfl rfl 4 (by decide) (hts (.fieldLink RX3 37 "BedHouse$Text" "token" "I") (by decide +kernel)) (fun _ h9 => h9) rfl (by decide +kernel) rfl rfl (Nat.le_of_ble_eq_true rfl) dX3_nextToken_106 (fun H locs hP hD hS => ?_)
              have hP : va_P D vwCl [(ta, .inr (3, [.ref yb, .int (zI ln), .int (zI i), .int (zI i), .int (zI 4), .int (zI vl), .int (zI dt), .int (zI ht)])), (yb, .inl (cI, 200, .inl (zia tx)))] H := hP
              have hD : va_D A [(ta, .inr (3, [.ref yb, .int (zI ln), .int (zI i), .int (zI i), .int (zI 4), .int (zI vl), .int (zI dt), .int (zI ht)])), (yb, .inl (cI, 200, .inl (zia tx)))] := hD
              refine lv_aload_n hx hb dX3_nextToken_109 rfl (lv_at hl 1 rfl) ?_
              refine lv_dup hx hb dX3_nextToken_110 rfl ?_
              refine va_get (D := D) (ci := 3) (C := RX3) (T := TX3) (N := 8) hx hb hts inc_X3_nextToken_3 hown hK hP 0 rfl rfl 2 (by decide) (hts (.fieldLink RX3 31 "BedHouse$Text" "at" "I") (by decide +kernel)) (fun _ h9 => h9) rfl dX3_nextToken_111 ?_
              refine lv_iconst (v := zI 1) hx hb dX3_nextToken_114 rfl ?_
              refine z_iadd hx hb dX3_nextToken_115 ?_
              refine va_put (D := D) (ci := 3) (v := .int (zI (i + 1))) (ty := .int) (C := RX3) (T := TX3) (N := 8) hx hb hts inc_X3_nextToken_3 tyX3 tyX3_ok nmX3 hown hK hP hD hS 0 rfl rfl 2 (by decide) (hts (.fieldLink RX3 31 "BedHouse$Text" "at" "I") (by decide +kernel)) (fun _ h9 => h9) rfl (by decide +kernel) rfl rfl (Nat.le_of_ble_eq_true rfl) dX3_nextToken_116 (fun H locs hP hD hS => ?_)
              have hP : va_P D vwCl [(ta, .inr (3, [.ref yb, .int (zI ln), .int (zI (i + 1)), .int (zI i), .int (zI 4), .int (zI vl), .int (zI dt), .int (zI ht)])), (yb, .inl (cI, 200, .inl (zia tx)))] H := hP
              have hD : va_D A [(ta, .inr (3, [.ref yb, .int (zI ln), .int (zI (i + 1)), .int (zI i), .int (zI 4), .int (zI vl), .int (zI dt), .int (zI ht)])), (yb, .inl (cI, 200, .inl (zia tx)))] := hD
              exact wr_retv M dX3_nextToken_119 (u := (i + 1, i, 4, vl)) (by unfold ntA; rw [hend, if_neg (by omega), if_neg c_70, if_neg c_84, if_neg c_98]) hP hD hS
            refine lv_iconst (v := zI 3) hx hb dX3_nextToken_101 rfl ?_
            refine lv_goto (tgt := 106) hx hb dX3_nextToken_102 (by decide) ?_
            refine va_put (D := D) (ci := 3) (v := .int (zI 3)) (ty := .int) (C := RX3) (T := TX3) (N := 8) hx hb hts inc_X3_nextToken_3 tyX3 tyX3_ok nmX3 hown hK hP hD hS 0 rfl rfl 4 (by decide) (hts (.fieldLink RX3 37 "BedHouse$Text" "token" "I") (by decide +kernel)) (fun _ h9 => h9) rfl (by decide +kernel) rfl rfl (Nat.le_of_ble_eq_true rfl) dX3_nextToken_106 (fun H locs hP hD hS => ?_)
            have hP : va_P D vwCl [(ta, .inr (3, [.ref yb, .int (zI ln), .int (zI i), .int (zI i), .int (zI 3), .int (zI vl), .int (zI dt), .int (zI ht)])), (yb, .inl (cI, 200, .inl (zia tx)))] H := hP
            have hD : va_D A [(ta, .inr (3, [.ref yb, .int (zI ln), .int (zI i), .int (zI i), .int (zI 3), .int (zI vl), .int (zI dt), .int (zI ht)])), (yb, .inl (cI, 200, .inl (zia tx)))] := hD
            refine lv_aload_n hx hb dX3_nextToken_109 rfl (lv_at hl 1 rfl) ?_
            refine lv_dup hx hb dX3_nextToken_110 rfl ?_
            refine va_get (D := D) (ci := 3) (C := RX3) (T := TX3) (N := 8) hx hb hts inc_X3_nextToken_3 hown hK hP 0 rfl rfl 2 (by decide) (hts (.fieldLink RX3 31 "BedHouse$Text" "at" "I") (by decide +kernel)) (fun _ h9 => h9) rfl dX3_nextToken_111 ?_
            refine lv_iconst (v := zI 1) hx hb dX3_nextToken_114 rfl ?_
            refine z_iadd hx hb dX3_nextToken_115 ?_
            refine va_put (D := D) (ci := 3) (v := .int (zI (i + 1))) (ty := .int) (C := RX3) (T := TX3) (N := 8) hx hb hts inc_X3_nextToken_3 tyX3 tyX3_ok nmX3 hown hK hP hD hS 0 rfl rfl 2 (by decide) (hts (.fieldLink RX3 31 "BedHouse$Text" "at" "I") (by decide +kernel)) (fun _ h9 => h9) rfl (by decide +kernel) rfl rfl (Nat.le_of_ble_eq_true rfl) dX3_nextToken_116 (fun H locs hP hD hS => ?_)
            have hP : va_P D vwCl [(ta, .inr (3, [.ref yb, .int (zI ln), .int (zI (i + 1)), .int (zI i), .int (zI 3), .int (zI vl), .int (zI dt), .int (zI ht)])), (yb, .inl (cI, 200, .inl (zia tx)))] H := hP
            have hD : va_D A [(ta, .inr (3, [.ref yb, .int (zI ln), .int (zI (i + 1)), .int (zI i), .int (zI 3), .int (zI vl), .int (zI dt), .int (zI ht)])), (yb, .inl (cI, 200, .inl (zia tx)))] := hD
            exact wr_retv M dX3_nextToken_119 (u := (i + 1, i, 3, vl)) (by unfold ntA; rw [hend, if_neg (by omega), if_neg c_70, if_neg c_84, if_pos c_98]) hP hD hS
          have c_84 := zb_t c_84
          refine lv_aload_n hx hb dX3_nextToken_87 rfl (lv_at hl 1 rfl) ?_
          refine wc_Vv (As := []) (rest := []) (wr := []) (ws' := (fun u_88 : Int × Int × Int => [(ta, .inr (3, [.ref yb, .int (zI ln), .int (zI u_88.1), .int (zI i), .int (zI u_88.2.1), .int (zI u_88.2.2), .int (zI dt), .int (zI ht)])), (yb, .inl (cI, 200, .inl (zia tx)))])) M (c_X3_readNumber l D cB cI cZ cM _ ta yb tx ln i i tk vl dt ht (by first | assumption | omega) (by first | assumption | omega) (by first | assumption | omega)) gX3_nextToken_X3_readNumber rfl ⟨rfl, hd_X3_readNumber⟩ ⟨Nat.le_of_ble_eq_true rfl, Nat.le_of_ble_eq_true rfl⟩ hK hP hD hS hA [0, 1] [] [0, 1] rfl rfl (by decide) (by decide) (by decide) (fun _ => rfl) 0 3 rfl rfl rfl hl.1 rfl rfl (Nat.le_of_ble_eq_true rfl) dX3_nextToken_88 ⟨Nat.le_of_ble_eq_true rfl, Nat.le_of_ble_eq_true rfl⟩ (by decide) (fun u_88 H locs h_88 hP hD hS => ?_)
          refine lv_goto (tgt := 119) hx hb dX3_nextToken_91 (by decide) ?_
          exact wr_retv M dX3_nextToken_119 (u := (u_88.1, i, u_88.2)) (by unfold ntA; rw [hend, if_neg (by omega), if_neg c_70, if_pos c_84, h_88]) hP hD hS
        have c_70 := zb_t c_70
        refine lv_aload_n hx hb dX3_nextToken_73 rfl (lv_at hl 1 rfl) ?_
        refine wce_Vv (As := []) (rest := []) (wr := []) (ws' := (fun u_74 : Int × Int => [(ta, .inr (3, [.ref yb, .int (zI ln), .int (zI (enF (btA tx ln) 201 i)), .int (zI i), .int (zI u_74.1), .int (zI u_74.2), .int (zI dt), .int (zI ht)])), (yb, .inl (cI, 200, .inl (zia tx)))])) M (c_X3_readWord l D cB cI cZ cM _ K V ta yb tx ln i i tk vl dt ht (by first | assumption | omega) (by first | assumption | omega) (by first | assumption | omega)) gX3_nextToken_X3_readWord rfl ⟨rfl, hd_X3_readWord⟩ ⟨Nat.le_of_ble_eq_true rfl, Nat.le_of_ble_eq_true rfl⟩ hK hP hD hS hA [0, 1] [] [0, 1] rfl rfl (by decide) (by decide) (by decide) (fun _ => rfl) 0 3 rfl rfl rfl hl.1 rfl rfl (Nat.le_of_ble_eq_true rfl) dX3_nextToken_74 ⟨Nat.le_of_ble_eq_true rfl, Nat.le_of_ble_eq_true rfl⟩ (by decide) hE (fun u_74 H locs h_74 hP hD hS => ?_)
        refine lv_goto (tgt := 119) hx hb dX3_nextToken_77 (by decide) ?_
        exact wr_retv M dX3_nextToken_119 (u := (enF (btA tx ln) 201 i, i, u_74)) (by unfold ntA; rw [hend, if_neg (by omega), if_pos c_70, h_74]) hP hD hS
      refine lv_aload_n hx hb dX3_nextToken_58 rfl (lv_at hl 1 rfl) ?_
      refine lv_iconst (v := zI 0) hx hb dX3_nextToken_59 rfl ?_
      refine va_put (D := D) (ci := 3) (v := .int (zI 0)) (ty := .int) (C := RX3) (T := TX3) (N := 8) hx hb hts inc_X3_nextToken_3 tyX3 tyX3_ok nmX3 hown hK hP hD hS 0 rfl rfl 4 (by decide) (hts (.fieldLink RX3 37 "BedHouse$Text" "token" "I") (by decide +kernel)) (fun _ h9 => h9) rfl (by decide +kernel) rfl rfl (Nat.le_of_ble_eq_true rfl) dX3_nextToken_60 (fun H locs hP hD hS => ?_)
      have hP : va_P D vwCl [(ta, .inr (3, [.ref yb, .int (zI ln), .int (zI i), .int (zI i), .int (zI 0), .int (zI vl), .int (zI dt), .int (zI ht)])), (yb, .inl (cI, 200, .inl (zia tx)))] H := hP
      have hD : va_D A [(ta, .inr (3, [.ref yb, .int (zI ln), .int (zI i), .int (zI i), .int (zI 0), .int (zI vl), .int (zI dt), .int (zI ht)])), (yb, .inl (cI, 200, .inl (zia tx)))] := hD
      refine lv_goto (tgt := 119) hx hb dX3_nextToken_63 (by decide) ?_
      exact wr_retv M dX3_nextToken_119 (u := (i, i, 0, vl)) (by unfold ntA; rw [hend, if_pos c_55]) hP hD hS
    refine lv_aload_n hx hb dX3_nextToken_11 rfl (lv_at hl 0 rfl) ?_
    refine lv_aload_n hx hb dX3_nextToken_12 rfl (lv_at hl 0 rfl) ?_
    refine va_get (D := D) (ci := 3) (C := RX3) (T := TX3) (N := 8) hx hb hts inc_X3_nextToken_3 hown hK hP 0 rfl rfl 2 (by decide) (hts (.fieldLink RX3 31 "BedHouse$Text" "at" "I") (by decide +kernel)) (fun _ h9 => h9) rfl dX3_nextToken_13 ?_
    refine pc_V (As := [.int (zI i)]) (rest := []) M (c_X3_byteAt l D cB cI cZ cM _ ta yb tx ln i ts tk vl dt ht i (by first | assumption | omega) (by first | assumption | omega)) gX3_nextToken_X3_byteAt rfl ⟨rfl, hd_X3_byteAt⟩ ⟨Nat.le_of_ble_eq_true rfl, Nat.le_of_ble_eq_true rfl⟩ hK hP [0, 1] rfl 0 3 rfl rfl rfl hl.1 rfl rfl (Nat.le_of_ble_eq_true rfl) dX3_nextToken_16 ⟨Nat.le_of_ble_eq_true rfl, Nat.le_of_ble_eq_true rfl⟩ (fun r_16 h_16 => ?_)
    subst h_16
    have hbr := btA_rng htx ln i
    refine lv_bipush (v := zI 32) hx hb dX3_nextToken_19 (by decide) ?_
    refine z_icmp_ne (tgt := 37) hx hb dX3_nextToken_21 (by decide) (by omega) (fun c_21 => ?_) (fun c_21 => ?_)
    · skip
      have hend : skF (btA tx ln) 201 ax = i := by rw [← hv, skF, if_neg c_21]
      refine lv_aload_n hx hb dX3_nextToken_37 rfl (lv_at hl 0 rfl) ?_
      refine lv_aload_n hx hb dX3_nextToken_38 rfl (lv_at hl 0 rfl) ?_
      refine va_get (D := D) (ci := 3) (C := RX3) (T := TX3) (N := 8) hx hb hts inc_X3_nextToken_3 hown hK hP 0 rfl rfl 2 (by decide) (hts (.fieldLink RX3 31 "BedHouse$Text" "at" "I") (by decide +kernel)) (fun _ h9 => h9) rfl dX3_nextToken_39 ?_
      refine va_put (D := D) (ci := 3) (v := .int (zI i)) (ty := .int) (C := RX3) (T := TX3) (N := 8) hx hb hts inc_X3_nextToken_3 tyX3 tyX3_ok nmX3 hown hK hP hD hS 0 rfl rfl 3 (by decide) (hts (.fieldLink RX3 44 "BedHouse$Text" "tokenStart" "I") (by decide +kernel)) (fun _ h9 => h9) rfl (by decide +kernel) rfl rfl (Nat.le_of_ble_eq_true rfl) dX3_nextToken_42 (fun H locs hP hD hS => ?_)
      have hP : va_P D vwCl [(ta, .inr (3, [.ref yb, .int (zI ln), .int (zI i), .int (zI i), .int (zI tk), .int (zI vl), .int (zI dt), .int (zI ht)])), (yb, .inl (cI, 200, .inl (zia tx)))] H := hP
      have hD : va_D A [(ta, .inr (3, [.ref yb, .int (zI ln), .int (zI i), .int (zI i), .int (zI tk), .int (zI vl), .int (zI dt), .int (zI ht)])), (yb, .inl (cI, 200, .inl (zia tx)))] := hD
      refine lv_aload_n hx hb dX3_nextToken_45 rfl (lv_at hl 0 rfl) ?_
      refine lv_aload_n hx hb dX3_nextToken_46 rfl (lv_at hl 0 rfl) ?_
      refine va_get (D := D) (ci := 3) (C := RX3) (T := TX3) (N := 8) hx hb hts inc_X3_nextToken_3 hown hK hP 0 rfl rfl 2 (by decide) (hts (.fieldLink RX3 31 "BedHouse$Text" "at" "I") (by decide +kernel)) (fun _ h9 => h9) rfl dX3_nextToken_47 ?_
      refine pc_V (As := [.int (zI i)]) (rest := []) M (c_X3_byteAt l D cB cI cZ cM _ ta yb tx ln i i tk vl dt ht i (by first | assumption | omega) (by first | assumption | omega)) gX3_nextToken_X3_byteAt rfl ⟨rfl, hd_X3_byteAt⟩ ⟨Nat.le_of_ble_eq_true rfl, Nat.le_of_ble_eq_true rfl⟩ hK hP [0, 1] rfl 0 3 rfl rfl rfl hl.1 rfl rfl (Nat.le_of_ble_eq_true rfl) dX3_nextToken_50 ⟨Nat.le_of_ble_eq_true rfl, Nat.le_of_ble_eq_true rfl⟩ (fun r_50 h_50 => ?_)
      subst h_50
      have hbr2 := btA_rng htx ln i
      refine lv_istore_n (lv' := [(1, .int (zI (btA tx ln i))), (0, .ref ta)]) hx hb dX3_nextToken_53 rfl hl (by decide) rfl (fun ls hl => ?_)
      refine lv_iload_n hx hb dX3_nextToken_54 rfl (lv_at hl 0 rfl) ?_
      refine z_if_ge (tgt := 66) hx hb dX3_nextToken_55 (by decide) (by omega) (fun c_55 => ?_) (fun c_55 => ?_)
      · skip
        have hbn := btA_nn (tx := tx) (ln := ln) (i := i) c_55
        refine lv_iload_n hx hb dX3_nextToken_66 rfl (lv_at hl 0 rfl) ?_
        refine pc_J (As := [.int (zI (btA tx ln i))]) (rest := []) M (c_X3_isLetter l D cB cI cZ cM _ (btA tx ln i) (by first | assumption | omega)) gX3_nextToken_X3_isLetter rfl hd_X3_isLetter ⟨Nat.le_of_ble_eq_true rfl, Nat.le_of_ble_eq_true rfl⟩ hK hP [] rfl hl.1 rfl rfl (Nat.le_of_ble_eq_true rfl) dX3_nextToken_67 ⟨Nat.le_of_ble_eq_true rfl, Nat.le_of_ble_eq_true rfl⟩ (fun r_67 h_67 => ?_)
        subst h_67
        refine z_if_eq (tgt := 80) hx hb dX3_nextToken_70 (by decide) (zb_bd _) (fun c_70 => ?_) (fun c_70 => ?_)
        · skip
          have c_70 := zb_f c_70
          refine lv_iload_n hx hb dX3_nextToken_80 rfl (lv_at hl 0 rfl) ?_
          refine pc_J (As := [.int (zI (btA tx ln i))]) (rest := []) M (c_X3_isDigit l D cB cI cZ cM _ (btA tx ln i) (by first | assumption | omega)) gX3_nextToken_X3_isDigit rfl hd_X3_isDigit ⟨Nat.le_of_ble_eq_true rfl, Nat.le_of_ble_eq_true rfl⟩ hK hP [] rfl hl.1 rfl rfl (Nat.le_of_ble_eq_true rfl) dX3_nextToken_81 ⟨Nat.le_of_ble_eq_true rfl, Nat.le_of_ble_eq_true rfl⟩ (fun r_81 h_81 => ?_)
          subst h_81
          refine z_if_eq (tgt := 94) hx hb dX3_nextToken_84 (by decide) (zb_bd _) (fun c_84 => ?_) (fun c_84 => ?_)
          · skip
            have c_84 := zb_f c_84
            refine lv_aload_n hx hb dX3_nextToken_94 rfl (lv_at hl 1 rfl) ?_
            refine lv_iload_n hx hb dX3_nextToken_95 rfl (lv_at hl 0 rfl) ?_
            refine lv_bipush (v := zI 59) hx hb dX3_nextToken_96 (by decide) ?_
            refine z_icmp_ne (tgt := 105) hx hb dX3_nextToken_98 (by decide) (by omega) (fun c_98 => ?_) (fun c_98 => ?_)
            · skip
              refine lv_iconst (v := zI 4) hx hb dX3_nextToken_105 rfl ?_
              refine va_put (D := D) (ci := 3) (v := .int (zI 4)) (ty := .int) (C := RX3) (T := TX3) (N := 8) hx hb hts inc_X3_nextToken_3 tyX3 tyX3_ok nmX3 hown hK hP hD hS 0 rfl rfl 4 (by decide) (hts (.fieldLink RX3 37 "BedHouse$Text" "token" "I") (by decide +kernel)) (fun _ h9 => h9) rfl (by decide +kernel) rfl rfl (Nat.le_of_ble_eq_true rfl) dX3_nextToken_106 (fun H locs hP hD hS => ?_)
              have hP : va_P D vwCl [(ta, .inr (3, [.ref yb, .int (zI ln), .int (zI i), .int (zI i), .int (zI 4), .int (zI vl), .int (zI dt), .int (zI ht)])), (yb, .inl (cI, 200, .inl (zia tx)))] H := hP
              have hD : va_D A [(ta, .inr (3, [.ref yb, .int (zI ln), .int (zI i), .int (zI i), .int (zI 4), .int (zI vl), .int (zI dt), .int (zI ht)])), (yb, .inl (cI, 200, .inl (zia tx)))] := hD
              refine lv_aload_n hx hb dX3_nextToken_109 rfl (lv_at hl 1 rfl) ?_
              refine lv_dup hx hb dX3_nextToken_110 rfl ?_
              refine va_get (D := D) (ci := 3) (C := RX3) (T := TX3) (N := 8) hx hb hts inc_X3_nextToken_3 hown hK hP 0 rfl rfl 2 (by decide) (hts (.fieldLink RX3 31 "BedHouse$Text" "at" "I") (by decide +kernel)) (fun _ h9 => h9) rfl dX3_nextToken_111 ?_
              refine lv_iconst (v := zI 1) hx hb dX3_nextToken_114 rfl ?_
              refine z_iadd hx hb dX3_nextToken_115 ?_
              refine va_put (D := D) (ci := 3) (v := .int (zI (i + 1))) (ty := .int) (C := RX3) (T := TX3) (N := 8) hx hb hts inc_X3_nextToken_3 tyX3 tyX3_ok nmX3 hown hK hP hD hS 0 rfl rfl 2 (by decide) (hts (.fieldLink RX3 31 "BedHouse$Text" "at" "I") (by decide +kernel)) (fun _ h9 => h9) rfl (by decide +kernel) rfl rfl (Nat.le_of_ble_eq_true rfl) dX3_nextToken_116 (fun H locs hP hD hS => ?_)
              have hP : va_P D vwCl [(ta, .inr (3, [.ref yb, .int (zI ln), .int (zI (i + 1)), .int (zI i), .int (zI 4), .int (zI vl), .int (zI dt), .int (zI ht)])), (yb, .inl (cI, 200, .inl (zia tx)))] H := hP
              have hD : va_D A [(ta, .inr (3, [.ref yb, .int (zI ln), .int (zI (i + 1)), .int (zI i), .int (zI 4), .int (zI vl), .int (zI dt), .int (zI ht)])), (yb, .inl (cI, 200, .inl (zia tx)))] := hD
              exact wr_retv M dX3_nextToken_119 (u := (i + 1, i, 4, vl)) (by unfold ntA; rw [hend, if_neg (by omega), if_neg c_70, if_neg c_84, if_neg c_98]) hP hD hS
            refine lv_iconst (v := zI 3) hx hb dX3_nextToken_101 rfl ?_
            refine lv_goto (tgt := 106) hx hb dX3_nextToken_102 (by decide) ?_
            refine va_put (D := D) (ci := 3) (v := .int (zI 3)) (ty := .int) (C := RX3) (T := TX3) (N := 8) hx hb hts inc_X3_nextToken_3 tyX3 tyX3_ok nmX3 hown hK hP hD hS 0 rfl rfl 4 (by decide) (hts (.fieldLink RX3 37 "BedHouse$Text" "token" "I") (by decide +kernel)) (fun _ h9 => h9) rfl (by decide +kernel) rfl rfl (Nat.le_of_ble_eq_true rfl) dX3_nextToken_106 (fun H locs hP hD hS => ?_)
            have hP : va_P D vwCl [(ta, .inr (3, [.ref yb, .int (zI ln), .int (zI i), .int (zI i), .int (zI 3), .int (zI vl), .int (zI dt), .int (zI ht)])), (yb, .inl (cI, 200, .inl (zia tx)))] H := hP
            have hD : va_D A [(ta, .inr (3, [.ref yb, .int (zI ln), .int (zI i), .int (zI i), .int (zI 3), .int (zI vl), .int (zI dt), .int (zI ht)])), (yb, .inl (cI, 200, .inl (zia tx)))] := hD
            refine lv_aload_n hx hb dX3_nextToken_109 rfl (lv_at hl 1 rfl) ?_
            refine lv_dup hx hb dX3_nextToken_110 rfl ?_
            refine va_get (D := D) (ci := 3) (C := RX3) (T := TX3) (N := 8) hx hb hts inc_X3_nextToken_3 hown hK hP 0 rfl rfl 2 (by decide) (hts (.fieldLink RX3 31 "BedHouse$Text" "at" "I") (by decide +kernel)) (fun _ h9 => h9) rfl dX3_nextToken_111 ?_
            refine lv_iconst (v := zI 1) hx hb dX3_nextToken_114 rfl ?_
            refine z_iadd hx hb dX3_nextToken_115 ?_
            refine va_put (D := D) (ci := 3) (v := .int (zI (i + 1))) (ty := .int) (C := RX3) (T := TX3) (N := 8) hx hb hts inc_X3_nextToken_3 tyX3 tyX3_ok nmX3 hown hK hP hD hS 0 rfl rfl 2 (by decide) (hts (.fieldLink RX3 31 "BedHouse$Text" "at" "I") (by decide +kernel)) (fun _ h9 => h9) rfl (by decide +kernel) rfl rfl (Nat.le_of_ble_eq_true rfl) dX3_nextToken_116 (fun H locs hP hD hS => ?_)
            have hP : va_P D vwCl [(ta, .inr (3, [.ref yb, .int (zI ln), .int (zI (i + 1)), .int (zI i), .int (zI 3), .int (zI vl), .int (zI dt), .int (zI ht)])), (yb, .inl (cI, 200, .inl (zia tx)))] H := hP
            have hD : va_D A [(ta, .inr (3, [.ref yb, .int (zI ln), .int (zI (i + 1)), .int (zI i), .int (zI 3), .int (zI vl), .int (zI dt), .int (zI ht)])), (yb, .inl (cI, 200, .inl (zia tx)))] := hD
            exact wr_retv M dX3_nextToken_119 (u := (i + 1, i, 3, vl)) (by unfold ntA; rw [hend, if_neg (by omega), if_neg c_70, if_neg c_84, if_pos c_98]) hP hD hS
          have c_84 := zb_t c_84
          refine lv_aload_n hx hb dX3_nextToken_87 rfl (lv_at hl 1 rfl) ?_
          refine wc_Vv (As := []) (rest := []) (wr := []) (ws' := (fun u_88 : Int × Int × Int => [(ta, .inr (3, [.ref yb, .int (zI ln), .int (zI u_88.1), .int (zI i), .int (zI u_88.2.1), .int (zI u_88.2.2), .int (zI dt), .int (zI ht)])), (yb, .inl (cI, 200, .inl (zia tx)))])) M (c_X3_readNumber l D cB cI cZ cM _ ta yb tx ln i i tk vl dt ht (by first | assumption | omega) (by first | assumption | omega) (by first | assumption | omega)) gX3_nextToken_X3_readNumber rfl ⟨rfl, hd_X3_readNumber⟩ ⟨Nat.le_of_ble_eq_true rfl, Nat.le_of_ble_eq_true rfl⟩ hK hP hD hS hA [0, 1] [] [0, 1] rfl rfl (by decide) (by decide) (by decide) (fun _ => rfl) 0 3 rfl rfl rfl hl.1 rfl rfl (Nat.le_of_ble_eq_true rfl) dX3_nextToken_88 ⟨Nat.le_of_ble_eq_true rfl, Nat.le_of_ble_eq_true rfl⟩ (by decide) (fun u_88 H locs h_88 hP hD hS => ?_)
          refine lv_goto (tgt := 119) hx hb dX3_nextToken_91 (by decide) ?_
          exact wr_retv M dX3_nextToken_119 (u := (u_88.1, i, u_88.2)) (by unfold ntA; rw [hend, if_neg (by omega), if_neg c_70, if_pos c_84, h_88]) hP hD hS
        have c_70 := zb_t c_70
        refine lv_aload_n hx hb dX3_nextToken_73 rfl (lv_at hl 1 rfl) ?_
        refine wce_Vv (As := []) (rest := []) (wr := []) (ws' := (fun u_74 : Int × Int => [(ta, .inr (3, [.ref yb, .int (zI ln), .int (zI (enF (btA tx ln) 201 i)), .int (zI i), .int (zI u_74.1), .int (zI u_74.2), .int (zI dt), .int (zI ht)])), (yb, .inl (cI, 200, .inl (zia tx)))])) M (c_X3_readWord l D cB cI cZ cM _ K V ta yb tx ln i i tk vl dt ht (by first | assumption | omega) (by first | assumption | omega) (by first | assumption | omega)) gX3_nextToken_X3_readWord rfl ⟨rfl, hd_X3_readWord⟩ ⟨Nat.le_of_ble_eq_true rfl, Nat.le_of_ble_eq_true rfl⟩ hK hP hD hS hA [0, 1] [] [0, 1] rfl rfl (by decide) (by decide) (by decide) (fun _ => rfl) 0 3 rfl rfl rfl hl.1 rfl rfl (Nat.le_of_ble_eq_true rfl) dX3_nextToken_74 ⟨Nat.le_of_ble_eq_true rfl, Nat.le_of_ble_eq_true rfl⟩ (by decide) hE (fun u_74 H locs h_74 hP hD hS => ?_)
        refine lv_goto (tgt := 119) hx hb dX3_nextToken_77 (by decide) ?_
        exact wr_retv M dX3_nextToken_119 (u := (enF (btA tx ln) 201 i, i, u_74)) (by unfold ntA; rw [hend, if_neg (by omega), if_pos c_70, h_74]) hP hD hS
      refine lv_aload_n hx hb dX3_nextToken_58 rfl (lv_at hl 1 rfl) ?_
      refine lv_iconst (v := zI 0) hx hb dX3_nextToken_59 rfl ?_
      refine va_put (D := D) (ci := 3) (v := .int (zI 0)) (ty := .int) (C := RX3) (T := TX3) (N := 8) hx hb hts inc_X3_nextToken_3 tyX3 tyX3_ok nmX3 hown hK hP hD hS 0 rfl rfl 4 (by decide) (hts (.fieldLink RX3 37 "BedHouse$Text" "token" "I") (by decide +kernel)) (fun _ h9 => h9) rfl (by decide +kernel) rfl rfl (Nat.le_of_ble_eq_true rfl) dX3_nextToken_60 (fun H locs hP hD hS => ?_)
      have hP : va_P D vwCl [(ta, .inr (3, [.ref yb, .int (zI ln), .int (zI i), .int (zI i), .int (zI 0), .int (zI vl), .int (zI dt), .int (zI ht)])), (yb, .inl (cI, 200, .inl (zia tx)))] H := hP
      have hD : va_D A [(ta, .inr (3, [.ref yb, .int (zI ln), .int (zI i), .int (zI i), .int (zI 0), .int (zI vl), .int (zI dt), .int (zI ht)])), (yb, .inl (cI, 200, .inl (zia tx)))] := hD
      refine lv_goto (tgt := 119) hx hb dX3_nextToken_63 (by decide) ?_
      exact wr_retv M dX3_nextToken_119 (u := (i, i, 0, vl)) (by unfold ntA; rw [hend, if_pos c_55]) hP hD hS
    refine lv_aload_n hx hb dX3_nextToken_24 rfl (lv_at hl 0 rfl) ?_
    refine lv_dup hx hb dX3_nextToken_25 rfl ?_
    refine va_get (D := D) (ci := 3) (C := RX3) (T := TX3) (N := 8) hx hb hts inc_X3_nextToken_3 hown hK hP 0 rfl rfl 2 (by decide) (hts (.fieldLink RX3 31 "BedHouse$Text" "at" "I") (by decide +kernel)) (fun _ h9 => h9) rfl dX3_nextToken_26 ?_
    refine lv_iconst (v := zI 1) hx hb dX3_nextToken_29 rfl ?_
    refine z_iadd hx hb dX3_nextToken_30 ?_
    refine va_put (D := D) (ci := 3) (v := .int (zI (i + 1))) (ty := .int) (C := RX3) (T := TX3) (N := 8) hx hb hts inc_X3_nextToken_3 tyX3 tyX3_ok nmX3 hown hK hP hD hS 0 rfl rfl 2 (by decide) (hts (.fieldLink RX3 31 "BedHouse$Text" "at" "I") (by decide +kernel)) (fun _ h9 => h9) rfl (by decide +kernel) rfl rfl (Nat.le_of_ble_eq_true rfl) dX3_nextToken_31 (fun H locs hP hD hS => ?_)
    have hP : va_P D vwCl [(ta, .inr (3, [.ref yb, .int (zI ln), .int (zI (i + 1)), .int (zI ts), .int (zI tk), .int (zI vl), .int (zI dt), .int (zI ht)])), (yb, .inl (cI, 200, .inl (zia tx)))] H := hP
    have hD : va_D A [(ta, .inr (3, [.ref yb, .int (zI ln), .int (zI (i + 1)), .int (zI ts), .int (zI tk), .int (zI vl), .int (zI dt), .int (zI ht)])), (yb, .inl (cI, 200, .inl (zia tx)))] := hD
    refine lv_goto (tgt := 0) hx hb dX3_nextToken_34 (by decide) ?_
    exact ih n (i + 1) (by omega) (by omega) (by omega) (by rw [← hv, skF, if_pos c_21]) _ _ hP hD hS _ (lv_sub hl [0] rfl)
set_option maxHeartbeats 4000000 in
set_option maxRecDepth 100000 in
theorem c_X3_nextToken (l : Launch) (D : va_G) (cB cI cZ cM : ClassId) (Hp : Heap) (K V : Nat → Nat) (ta : Nat) (yb : Nat) (tx : Int → Int) (ln : Int) (ax : Int) (ts : Int) (tk : Int) (vl : Int) (dt : Int) (ht : Int) (hln : 0 ≤ ln ∧ ln ≤ 200) (htx : ∀ i : Int, 0 ≤ i → i < 200 → 0 ≤ tx i ∧ tx i ≤ 255) (hax : 0 ≤ ax ∧ ax ≤ ln) : cWve l yX3_nextToken wsX3_nextToken (rmW 6 0 0 128) D (TYS cB cI cZ cM) [.ref ta] [(ta, .inr (3, [.ref yb, .int (zI ln), .int (zI ax), .int (zI ts), .int (zI tk), .int (zI vl), .int (zI dt), .int (zI ht)])), (yb, .inl (cI, 200, .inl (zia tx)))] Hp K V (fun (u : TKS) => u = ntA (btA tx ln) ax vl) (fun (u : TKS) => [(ta, .inr (3, [.ref yb, .int (zI ln), .int (zI u.1), .int (zI u.2.1), .int (zI u.2.2.1), .int (zI u.2.2.2), .int (zI dt), .int (zI ht)])), (yb, .inl (cI, 200, .inl (zia tx)))]) 0 0 := by
  refine wre_startG (Qc := fun A => Qwv A D (fun (u : TKS) => u = ntA (btA tx ln) ax vl) (fun (u : TKS) => [(ta, .inr (3, [.ref yb, .int (zI ln), .int (zI u.1), .int (zI u.2.1), .int (zI u.2.2.1), .int (zI u.2.2.2), .int (zI dt), .int (zI ht)])), (yb, .inl (cI, 200, .inl (zia tx)))])) (by decide) rfl (Nat.le_of_ble_eq_true rfl) ?_
  intro pg ev sx mm args below meth cd ls A M hP hD hS hA hK hE hl
  show W pg l ev _ sx mm args below meth cd sx.heap [] 0 0 (QWv below args sx A D (fun (u : TKS) => u = ntA (btA tx ln) ax vl) (fun (u : TKS) => [(ta, .inr (3, [.ref yb, .int (zI ln), .int (zI u.1), .int (zI u.2.1), .int (zI u.2.2.1), .int (zI u.2.2.2), .int (zI dt), .int (zI ht)])), (yb, .inl (cI, 200, .inl (zia tx)))]) 0 0) _
  obtain ⟨hx, hb, hr, hml, hown, hts, hlk, hN0⟩ := id M
  have hl : lv_has ls 2 [(0, .ref ta)] := hl
  refine W.widen (k := 0) (n := 0) (Nat.zero_le _) (Nat.zero_le _) ?_
  exact lp_X3_nextToken_0 l D cB cI cZ cM K V ta yb tx ln ax ts tk vl dt ht hln htx hax M hK hA hE (201 + 1) 201 ax (Nat.lt_succ_self _) (by omega) (by omega) (by rfl) _ _ hP hD hS _ (lv_sub hl [0] rfl)
set_option maxHeartbeats 4000000 in
set_option maxRecDepth 100000 in
theorem c_X1_startAnew (l : Launch) (D : va_G) (cB cI cZ cM : ClassId) (Hp : Heap) (pa : Nat) (sa : Nat) (ba : Nat) (so : Int → Int) (bm : Int → Int) (P : Int) (TH : Int) (B : Int) (ra : Int) (su : Int) (vw : Int) (no : Int) (dn : Int) (ha : Int)  : cWv l yX1_startAnew wsX1_startAnew (rmW 0 0 0 0) D (TYS cB cI cZ cM) [.ref pa] [(pa, .inr (1, [.ref sa, .int (zI P), .int (zI TH), .ref ba, .int (zI B), .int (zI ra), .int (zI su), .int (zI vw), .int (zI no), .int (zI dn), .int (zI ha)])), (sa, .inl (cI, 4, .inl (zia so))), (ba, .inl (cI, 2, .inl (zia bm)))] Hp (fun (_u : Unit) => True) (fun (_u : Unit) => [(pa, .inr (1, [.ref sa, .int (zI 0), .int (zI 0), .ref ba, .int (zI 0), .int (zI 0), .int (zI 0), .int (zI (-9)), .int (zI (-9)), .int (zI 3), .int (zI 2)])), (sa, .inl (cI, 4, .inl (zia so))), (ba, .inl (cI, 2, .inl (zia bm)))]) 0 0 := by
  refine wr_startv (by decide) rfl (Nat.le_of_ble_eq_true rfl) ?_
  intro pg ev sx mm args below meth cd ls A M hP hD hS hA hK hl
  obtain ⟨hx, hb, hr, hml, hown, hts, hlk, hN0⟩ := id M
  have hl : lv_has ls 1 [(0, .ref pa)] := hl
  refine W.widen (k := 0) (n := 0) (Nat.zero_le _) (Nat.zero_le _) ?_
  refine lv_aload_n hx hb dX1_startAnew_0 rfl (lv_at hl 0 rfl) ?_
  refine lv_iconst (v := zI 0) hx hb dX1_startAnew_1 rfl ?_
  refine va_put (D := D) (ci := 1) (v := .int (zI 0)) (ty := .int) (C := RX1) (T := TX1) (N := 11) hx hb hts inc_X1_startAnew_1 tyX1 tyX1_ok nmX1 hown hK hP hD hS 0 rfl rfl 1 (by decide) (hts (.fieldLink RX1 21 "BedHouse$Plan" "panels" "I") (by decide +kernel)) (fun _ h9 => h9) rfl (by decide +kernel) rfl rfl (Nat.le_of_ble_eq_true rfl) dX1_startAnew_2 (fun H locs hP hD hS => ?_)
  have hP : va_P D vwCl [(pa, .inr (1, [.ref sa, .int (zI 0), .int (zI TH), .ref ba, .int (zI B), .int (zI ra), .int (zI su), .int (zI vw), .int (zI no), .int (zI dn), .int (zI ha)])), (sa, .inl (cI, 4, .inl (zia so))), (ba, .inl (cI, 2, .inl (zia bm)))] H := hP
  have hD : va_D A [(pa, .inr (1, [.ref sa, .int (zI 0), .int (zI TH), .ref ba, .int (zI B), .int (zI ra), .int (zI su), .int (zI vw), .int (zI no), .int (zI dn), .int (zI ha)])), (sa, .inl (cI, 4, .inl (zia so))), (ba, .inl (cI, 2, .inl (zia bm)))] := hD
  refine lv_aload_n hx hb dX1_startAnew_5 rfl (lv_at hl 0 rfl) ?_
  refine lv_iconst (v := zI 0) hx hb dX1_startAnew_6 rfl ?_
  refine va_put (D := D) (ci := 1) (v := .int (zI 0)) (ty := .int) (C := RX1) (T := TX1) (N := 11) hx hb hts inc_X1_startAnew_1 tyX1 tyX1_ok nmX1 hown hK hP hD hS 0 rfl rfl 2 (by decide) (hts (.fieldLink RX1 25 "BedHouse$Plan" "toldHouse" "I") (by decide +kernel)) (fun _ h9 => h9) rfl (by decide +kernel) rfl rfl (Nat.le_of_ble_eq_true rfl) dX1_startAnew_7 (fun H locs hP hD hS => ?_)
  have hP : va_P D vwCl [(pa, .inr (1, [.ref sa, .int (zI 0), .int (zI 0), .ref ba, .int (zI B), .int (zI ra), .int (zI su), .int (zI vw), .int (zI no), .int (zI dn), .int (zI ha)])), (sa, .inl (cI, 4, .inl (zia so))), (ba, .inl (cI, 2, .inl (zia bm)))] H := hP
  have hD : va_D A [(pa, .inr (1, [.ref sa, .int (zI 0), .int (zI 0), .ref ba, .int (zI B), .int (zI ra), .int (zI su), .int (zI vw), .int (zI no), .int (zI dn), .int (zI ha)])), (sa, .inl (cI, 4, .inl (zia so))), (ba, .inl (cI, 2, .inl (zia bm)))] := hD
  refine lv_aload_n hx hb dX1_startAnew_10 rfl (lv_at hl 0 rfl) ?_
  refine lv_iconst (v := zI 0) hx hb dX1_startAnew_11 rfl ?_
  refine va_put (D := D) (ci := 1) (v := .int (zI 0)) (ty := .int) (C := RX1) (T := TX1) (N := 11) hx hb hts inc_X1_startAnew_1 tyX1 tyX1_ok nmX1 hown hK hP hD hS 0 rfl rfl 4 (by decide) (hts (.fieldLink RX1 28 "BedHouse$Plan" "beams" "I") (by decide +kernel)) (fun _ h9 => h9) rfl (by decide +kernel) rfl rfl (Nat.le_of_ble_eq_true rfl) dX1_startAnew_12 (fun H locs hP hD hS => ?_)
  have hP : va_P D vwCl [(pa, .inr (1, [.ref sa, .int (zI 0), .int (zI 0), .ref ba, .int (zI 0), .int (zI ra), .int (zI su), .int (zI vw), .int (zI no), .int (zI dn), .int (zI ha)])), (sa, .inl (cI, 4, .inl (zia so))), (ba, .inl (cI, 2, .inl (zia bm)))] H := hP
  have hD : va_D A [(pa, .inr (1, [.ref sa, .int (zI 0), .int (zI 0), .ref ba, .int (zI 0), .int (zI ra), .int (zI su), .int (zI vw), .int (zI no), .int (zI dn), .int (zI ha)])), (sa, .inl (cI, 4, .inl (zia so))), (ba, .inl (cI, 2, .inl (zia bm)))] := hD
  refine lv_aload_n hx hb dX1_startAnew_15 rfl (lv_at hl 0 rfl) ?_
  refine lv_iconst (v := zI 0) hx hb dX1_startAnew_16 rfl ?_
  refine va_put (D := D) (ci := 1) (v := .int (zI 0)) (ty := .int) (C := RX1) (T := TX1) (N := 11) hx hb hts inc_X1_startAnew_1 tyX1 tyX1_ok nmX1 hown hK hP hD hS 0 rfl rfl 5 (by decide) (hts (.fieldLink RX1 31 "BedHouse$Plan" "rain" "I") (by decide +kernel)) (fun _ h9 => h9) rfl (by decide +kernel) rfl rfl (Nat.le_of_ble_eq_true rfl) dX1_startAnew_17 (fun H locs hP hD hS => ?_)
  have hP : va_P D vwCl [(pa, .inr (1, [.ref sa, .int (zI 0), .int (zI 0), .ref ba, .int (zI 0), .int (zI 0), .int (zI su), .int (zI vw), .int (zI no), .int (zI dn), .int (zI ha)])), (sa, .inl (cI, 4, .inl (zia so))), (ba, .inl (cI, 2, .inl (zia bm)))] H := hP
  have hD : va_D A [(pa, .inr (1, [.ref sa, .int (zI 0), .int (zI 0), .ref ba, .int (zI 0), .int (zI 0), .int (zI su), .int (zI vw), .int (zI no), .int (zI dn), .int (zI ha)])), (sa, .inl (cI, 4, .inl (zia so))), (ba, .inl (cI, 2, .inl (zia bm)))] := hD
  refine lv_aload_n hx hb dX1_startAnew_20 rfl (lv_at hl 0 rfl) ?_
  refine lv_iconst (v := zI 0) hx hb dX1_startAnew_21 rfl ?_
  refine va_put (D := D) (ci := 1) (v := .int (zI 0)) (ty := .int) (C := RX1) (T := TX1) (N := 11) hx hb hts inc_X1_startAnew_1 tyX1 tyX1_ok nmX1 hown hK hP hD hS 0 rfl rfl 6 (by decide) (hts (.fieldLink RX1 34 "BedHouse$Plan" "sun" "I") (by decide +kernel)) (fun _ h9 => h9) rfl (by decide +kernel) rfl rfl (Nat.le_of_ble_eq_true rfl) dX1_startAnew_22 (fun H locs hP hD hS => ?_)
  have hP : va_P D vwCl [(pa, .inr (1, [.ref sa, .int (zI 0), .int (zI 0), .ref ba, .int (zI 0), .int (zI 0), .int (zI 0), .int (zI vw), .int (zI no), .int (zI dn), .int (zI ha)])), (sa, .inl (cI, 4, .inl (zia so))), (ba, .inl (cI, 2, .inl (zia bm)))] H := hP
  have hD : va_D A [(pa, .inr (1, [.ref sa, .int (zI 0), .int (zI 0), .ref ba, .int (zI 0), .int (zI 0), .int (zI 0), .int (zI vw), .int (zI no), .int (zI dn), .int (zI ha)])), (sa, .inl (cI, 4, .inl (zia so))), (ba, .inl (cI, 2, .inl (zia bm)))] := hD
  refine lv_aload_n hx hb dX1_startAnew_25 rfl (lv_at hl 0 rfl) ?_
  refine lv_bipush (v := zI (-9)) hx hb dX1_startAnew_26 (by decide) ?_
  refine va_put (D := D) (ci := 1) (v := .int (zI (-9))) (ty := .int) (C := RX1) (T := TX1) (N := 11) hx hb hts inc_X1_startAnew_1 tyX1 tyX1_ok nmX1 hown hK hP hD hS 0 rfl rfl 7 (by decide) (hts (.fieldLink RX1 37 "BedHouse$Plan" "view" "I") (by decide +kernel)) (fun _ h9 => h9) rfl (by decide +kernel) rfl rfl (Nat.le_of_ble_eq_true rfl) dX1_startAnew_28 (fun H locs hP hD hS => ?_)
  have hP : va_P D vwCl [(pa, .inr (1, [.ref sa, .int (zI 0), .int (zI 0), .ref ba, .int (zI 0), .int (zI 0), .int (zI 0), .int (zI (-9)), .int (zI no), .int (zI dn), .int (zI ha)])), (sa, .inl (cI, 4, .inl (zia so))), (ba, .inl (cI, 2, .inl (zia bm)))] H := hP
  have hD : va_D A [(pa, .inr (1, [.ref sa, .int (zI 0), .int (zI 0), .ref ba, .int (zI 0), .int (zI 0), .int (zI 0), .int (zI (-9)), .int (zI no), .int (zI dn), .int (zI ha)])), (sa, .inl (cI, 4, .inl (zia so))), (ba, .inl (cI, 2, .inl (zia bm)))] := hD
  refine lv_aload_n hx hb dX1_startAnew_31 rfl (lv_at hl 0 rfl) ?_
  refine lv_bipush (v := zI (-9)) hx hb dX1_startAnew_32 (by decide) ?_
  refine va_put (D := D) (ci := 1) (v := .int (zI (-9))) (ty := .int) (C := RX1) (T := TX1) (N := 11) hx hb hts inc_X1_startAnew_1 tyX1 tyX1_ok nmX1 hown hK hP hD hS 0 rfl rfl 8 (by decide) (hts (.fieldLink RX1 40 "BedHouse$Plan" "noise" "I") (by decide +kernel)) (fun _ h9 => h9) rfl (by decide +kernel) rfl rfl (Nat.le_of_ble_eq_true rfl) dX1_startAnew_34 (fun H locs hP hD hS => ?_)
  have hP : va_P D vwCl [(pa, .inr (1, [.ref sa, .int (zI 0), .int (zI 0), .ref ba, .int (zI 0), .int (zI 0), .int (zI 0), .int (zI (-9)), .int (zI (-9)), .int (zI dn), .int (zI ha)])), (sa, .inl (cI, 4, .inl (zia so))), (ba, .inl (cI, 2, .inl (zia bm)))] H := hP
  have hD : va_D A [(pa, .inr (1, [.ref sa, .int (zI 0), .int (zI 0), .ref ba, .int (zI 0), .int (zI 0), .int (zI 0), .int (zI (-9)), .int (zI (-9)), .int (zI dn), .int (zI ha)])), (sa, .inl (cI, 4, .inl (zia so))), (ba, .inl (cI, 2, .inl (zia bm)))] := hD
  refine lv_aload_n hx hb dX1_startAnew_37 rfl (lv_at hl 0 rfl) ?_
  refine lv_iconst (v := zI 3) hx hb dX1_startAnew_38 rfl ?_
  refine va_put (D := D) (ci := 1) (v := .int (zI 3)) (ty := .int) (C := RX1) (T := TX1) (N := 11) hx hb hts inc_X1_startAnew_1 tyX1 tyX1_ok nmX1 hown hK hP hD hS 0 rfl rfl 9 (by decide) (hts (.fieldLink RX1 43 "BedHouse$Plan" "mostLying" "I") (by decide +kernel)) (fun _ h9 => h9) rfl (by decide +kernel) rfl rfl (Nat.le_of_ble_eq_true rfl) dX1_startAnew_39 (fun H locs hP hD hS => ?_)
  have hP : va_P D vwCl [(pa, .inr (1, [.ref sa, .int (zI 0), .int (zI 0), .ref ba, .int (zI 0), .int (zI 0), .int (zI 0), .int (zI (-9)), .int (zI (-9)), .int (zI 3), .int (zI ha)])), (sa, .inl (cI, 4, .inl (zia so))), (ba, .inl (cI, 2, .inl (zia bm)))] H := hP
  have hD : va_D A [(pa, .inr (1, [.ref sa, .int (zI 0), .int (zI 0), .ref ba, .int (zI 0), .int (zI 0), .int (zI 0), .int (zI (-9)), .int (zI (-9)), .int (zI 3), .int (zI ha)])), (sa, .inl (cI, 4, .inl (zia so))), (ba, .inl (cI, 2, .inl (zia bm)))] := hD
  refine lv_aload_n hx hb dX1_startAnew_42 rfl (lv_at hl 0 rfl) ?_
  refine lv_iconst (v := zI 2) hx hb dX1_startAnew_43 rfl ?_
  refine va_put (D := D) (ci := 1) (v := .int (zI 2)) (ty := .int) (C := RX1) (T := TX1) (N := 11) hx hb hts inc_X1_startAnew_1 tyX1 tyX1_ok nmX1 hown hK hP hD hS 0 rfl rfl 10 (by decide) (hts (.fieldLink RX1 46 "BedHouse$Plan" "hands" "I") (by decide +kernel)) (fun _ h9 => h9) rfl (by decide +kernel) rfl rfl (Nat.le_of_ble_eq_true rfl) dX1_startAnew_44 (fun H locs hP hD hS => ?_)
  have hP : va_P D vwCl [(pa, .inr (1, [.ref sa, .int (zI 0), .int (zI 0), .ref ba, .int (zI 0), .int (zI 0), .int (zI 0), .int (zI (-9)), .int (zI (-9)), .int (zI 3), .int (zI 2)])), (sa, .inl (cI, 4, .inl (zia so))), (ba, .inl (cI, 2, .inl (zia bm)))] H := hP
  have hD : va_D A [(pa, .inr (1, [.ref sa, .int (zI 0), .int (zI 0), .ref ba, .int (zI 0), .int (zI 0), .int (zI 0), .int (zI (-9)), .int (zI (-9)), .int (zI 3), .int (zI 2)])), (sa, .inl (cI, 4, .inl (zia so))), (ba, .inl (cI, 2, .inl (zia bm)))] := hD
  exact wr_retv M dX1_startAnew_47 (u := ()) (trivial) hP hD hS
set_option maxHeartbeats 4000000 in
set_option maxRecDepth 100000 in
theorem c_X1_addPanel (l : Launch) (D : va_G) (cB cI cZ cM : ClassId) (Hp : Heap) (pa : Nat) (sa : Nat) (ba : Nat) (so : Int → Int) (bm : Int → Int) (P : Int) (TH : Int) (B : Int) (ra : Int) (su : Int) (vw : Int) (no : Int) (dn : Int) (ha : Int) (w : Int) (k : Int) (hP4 : 0 ≤ P ∧ P < 4) : cWv l yX1_addPanel wsX1_addPanel (rmW 1 0 0 20) D (TYS cB cI cZ cM) [.ref pa, .int (zI w), .int (zI k)] [(pa, .inr (1, [.ref sa, .int (zI P), .int (zI TH), .ref ba, .int (zI B), .int (zI ra), .int (zI su), .int (zI vw), .int (zI no), .int (zI dn), .int (zI ha)])), (sa, .inl (cI, 4, .inl (zia so))), (ba, .inl (cI, 2, .inl (zia bm)))] Hp (fun (_u : Unit) => True) (fun (_u : Unit) => [(pa, .inr (1, [.ref sa, .int (zI (P + 1)), .int (zI (TH + k * un P)), .ref ba, .int (zI B), .int (zI ra), .int (zI su), .int (zI vw), .int (zI no), .int (zI dn), .int (zI ha)])), (sa, .inl (cI, 4, .inl (zia (zup so P w)))), (ba, .inl (cI, 2, .inl (zia bm)))]) 0 0 := by
  refine wr_startv (by decide) rfl (Nat.le_of_ble_eq_true rfl) ?_
  intro pg ev sx mm args below meth cd ls A M hP hD hS hA hK hl
  obtain ⟨hx, hb, hr, hml, hown, hts, hlk, hN0⟩ := id M
  have hl : lv_has ls 3 [(0, .ref pa), (1, .int (zI w)), (2, .int (zI k))] := hl
  refine W.widen (k := 0) (n := 0) (Nat.zero_le _) (Nat.zero_le _) ?_
  refine lv_aload_n hx hb dX1_addPanel_0 rfl (lv_at hl 0 rfl) ?_
  refine va_get (D := D) (ci := 1) (C := RX1) (T := TX1) (N := 11) hx hb hts inc_X1_addPanel_1 hown hK hP 0 rfl rfl 1 (by decide) (hts (.fieldLink RX1 21 "BedHouse$Plan" "panels" "I") (by decide +kernel)) (fun _ h9 => h9) rfl dX1_addPanel_1 ?_
  refine lv_aload_n hx hb dX1_addPanel_4 rfl (lv_at hl 0 rfl) ?_
  refine va_get (D := D) (ci := 1) (C := RX1) (T := TX1) (N := 11) hx hb hts inc_X1_addPanel_1 hown hK hP 0 rfl rfl 0 (by decide) (hts (.fieldLink RX1 9 "BedHouse$Plan" "sorts" "[I") (by decide +kernel)) (fun _ h9 => h9) rfl dX1_addPanel_5 ?_
  refine z_alen (n := 4) hx hb hK hP 1 1 rfl rfl dX1_addPanel_8 ?_
  refine z_icmp_ge (tgt := 50) hx hb dX1_addPanel_9 (by decide) (by omega) (fun c_9 => ?_) (fun c_9 => ?_)
  · skip
    exfalso; omega
  refine lv_aload_n hx hb dX1_addPanel_12 rfl (lv_at hl 0 rfl) ?_
  refine va_get (D := D) (ci := 1) (C := RX1) (T := TX1) (N := 11) hx hb hts inc_X1_addPanel_1 hown hK hP 0 rfl rfl 0 (by decide) (hts (.fieldLink RX1 9 "BedHouse$Plan" "sorts" "[I") (by decide +kernel)) (fun _ h9 => h9) rfl dX1_addPanel_13 ?_
  refine lv_aload_n hx hb dX1_addPanel_16 rfl (lv_at hl 0 rfl) ?_
  refine va_get (D := D) (ci := 1) (C := RX1) (T := TX1) (N := 11) hx hb hts inc_X1_addPanel_1 hown hK hP 0 rfl rfl 1 (by decide) (hts (.fieldLink RX1 21 "BedHouse$Plan" "panels" "I") (by decide +kernel)) (fun _ h9 => h9) rfl dX1_addPanel_17 ?_
  refine lv_iload_n hx hb dX1_addPanel_20 rfl (lv_at hl 1 rfl) ?_
  refine z_iast (ws' := [(pa, .inr (1, [.ref sa, .int (zI P), .int (zI TH), .ref ba, .int (zI B), .int (zI ra), .int (zI su), .int (zI vw), .int (zI no), .int (zI dn), .int (zI ha)])), (sa, .inl (cI, 4, .inl (zia (zup so P w)))), (ba, .inl (cI, 2, .inl (zia bm)))]) hx hb hK hP hD hS 1 1 rfl rfl (Nat.le_of_ble_eq_true rfl) dX1_addPanel_21 rfl (by omega) (fun H locs hP hD hS => ?_)
  refine lv_aload_n hx hb dX1_addPanel_22 rfl (lv_at hl 0 rfl) ?_
  refine lv_dup hx hb dX1_addPanel_23 rfl ?_
  refine va_get (D := D) (ci := 1) (C := RX1) (T := TX1) (N := 11) hx hb hts inc_X1_addPanel_1 hown hK hP 0 rfl rfl 2 (by decide) (hts (.fieldLink RX1 25 "BedHouse$Plan" "toldHouse" "I") (by decide +kernel)) (fun _ h9 => h9) rfl dX1_addPanel_24 ?_
  refine lv_iload_n hx hb dX1_addPanel_27 rfl (lv_at hl 2 rfl) ?_
  refine lv_aload_n hx hb dX1_addPanel_28 rfl (lv_at hl 0 rfl) ?_
  refine va_get (D := D) (ci := 1) (C := RX1) (T := TX1) (N := 11) hx hb hts inc_X1_addPanel_1 hown hK hP 0 rfl rfl 1 (by decide) (hts (.fieldLink RX1 21 "BedHouse$Plan" "panels" "I") (by decide +kernel)) (fun _ h9 => h9) rfl dX1_addPanel_29 ?_
  refine pc_SN (As := [.int (zI P)]) (rest := [.int (zI k), .int (zI TH), .ref pa]) M (c_X4_unitOf l D cB cI cZ cM _ P (by first | assumption | omega)) gX1_addPanel_X4_unitOf_n49 rfl (NW.at hN0 47 rfl) (by decide +kernel) (by decide +kernel) hd_X4_unitOf ⟨Nat.le_of_ble_eq_true rfl, Nat.le_of_ble_eq_true rfl⟩ hK hP [] rfl hl.1 rfl rfl (Nat.le_of_ble_eq_true rfl) dX1_addPanel_32 ⟨Nat.le_of_ble_eq_true rfl, Nat.le_of_ble_eq_true rfl⟩ (fun r_32 h_32 => ?_)
  subst h_32
  refine z_imul hx hb dX1_addPanel_35 ?_
  refine z_iadd hx hb dX1_addPanel_36 ?_
  refine va_put (D := D) (ci := 1) (v := .int (zI (TH + (k * (un P))))) (ty := .int) (C := RX1) (T := TX1) (N := 11) hx hb hts inc_X1_addPanel_1 tyX1 tyX1_ok nmX1 hown hK hP hD hS 0 rfl rfl 2 (by decide) (hts (.fieldLink RX1 25 "BedHouse$Plan" "toldHouse" "I") (by decide +kernel)) (fun _ h9 => h9) rfl (by decide +kernel) rfl rfl (Nat.le_of_ble_eq_true rfl) dX1_addPanel_37 (fun H locs hP hD hS => ?_)
  have hP : va_P D vwCl [(pa, .inr (1, [.ref sa, .int (zI P), .int (zI (TH + (k * (un P)))), .ref ba, .int (zI B), .int (zI ra), .int (zI su), .int (zI vw), .int (zI no), .int (zI dn), .int (zI ha)])), (sa, .inl (cI, 4, .inl (zia (zup so P w)))), (ba, .inl (cI, 2, .inl (zia bm)))] H := hP
  have hD : va_D A [(pa, .inr (1, [.ref sa, .int (zI P), .int (zI (TH + (k * (un P)))), .ref ba, .int (zI B), .int (zI ra), .int (zI su), .int (zI vw), .int (zI no), .int (zI dn), .int (zI ha)])), (sa, .inl (cI, 4, .inl (zia (zup so P w)))), (ba, .inl (cI, 2, .inl (zia bm)))] := hD
  refine lv_aload_n hx hb dX1_addPanel_40 rfl (lv_at hl 0 rfl) ?_
  refine lv_dup hx hb dX1_addPanel_41 rfl ?_
  refine va_get (D := D) (ci := 1) (C := RX1) (T := TX1) (N := 11) hx hb hts inc_X1_addPanel_1 hown hK hP 0 rfl rfl 1 (by decide) (hts (.fieldLink RX1 21 "BedHouse$Plan" "panels" "I") (by decide +kernel)) (fun _ h9 => h9) rfl dX1_addPanel_42 ?_
  refine lv_iconst (v := zI 1) hx hb dX1_addPanel_45 rfl ?_
  refine z_iadd hx hb dX1_addPanel_46 ?_
  refine va_put (D := D) (ci := 1) (v := .int (zI (P + 1))) (ty := .int) (C := RX1) (T := TX1) (N := 11) hx hb hts inc_X1_addPanel_1 tyX1 tyX1_ok nmX1 hown hK hP hD hS 0 rfl rfl 1 (by decide) (hts (.fieldLink RX1 21 "BedHouse$Plan" "panels" "I") (by decide +kernel)) (fun _ h9 => h9) rfl (by decide +kernel) rfl rfl (Nat.le_of_ble_eq_true rfl) dX1_addPanel_47 (fun H locs hP hD hS => ?_)
  have hP : va_P D vwCl [(pa, .inr (1, [.ref sa, .int (zI (P + 1)), .int (zI (TH + (k * (un P)))), .ref ba, .int (zI B), .int (zI ra), .int (zI su), .int (zI vw), .int (zI no), .int (zI dn), .int (zI ha)])), (sa, .inl (cI, 4, .inl (zia (zup so P w)))), (ba, .inl (cI, 2, .inl (zia bm)))] H := hP
  have hD : va_D A [(pa, .inr (1, [.ref sa, .int (zI (P + 1)), .int (zI (TH + (k * (un P)))), .ref ba, .int (zI B), .int (zI ra), .int (zI su), .int (zI vw), .int (zI no), .int (zI dn), .int (zI ha)])), (sa, .inl (cI, 4, .inl (zia (zup so P w)))), (ba, .inl (cI, 2, .inl (zia bm)))] := hD
  exact wr_retv M dX1_addPanel_50 (u := ()) (trivial) hP hD hS
set_option maxHeartbeats 4000000 in
set_option maxRecDepth 100000 in
theorem c_X1_addBeam (l : Launch) (D : va_G) (cB cI cZ cM : ClassId) (Hp : Heap) (pa : Nat) (sa : Nat) (ba : Nat) (so : Int → Int) (bm : Int → Int) (P : Int) (TH : Int) (B : Int) (ra : Int) (su : Int) (vw : Int) (no : Int) (dn : Int) (ha : Int) (mk : Int) (hB2 : 0 ≤ B ∧ B < 2) : cWv l yX1_addBeam wsX1_addBeam (rmW 0 0 0 0) D (TYS cB cI cZ cM) [.ref pa, .int (zI mk)] [(pa, .inr (1, [.ref sa, .int (zI P), .int (zI TH), .ref ba, .int (zI B), .int (zI ra), .int (zI su), .int (zI vw), .int (zI no), .int (zI dn), .int (zI ha)])), (sa, .inl (cI, 4, .inl (zia so))), (ba, .inl (cI, 2, .inl (zia bm)))] Hp (fun (_u : Unit) => True) (fun (_u : Unit) => [(pa, .inr (1, [.ref sa, .int (zI P), .int (zI TH), .ref ba, .int (zI (B + 1)), .int (zI ra), .int (zI su), .int (zI vw), .int (zI no), .int (zI dn), .int (zI ha)])), (sa, .inl (cI, 4, .inl (zia so))), (ba, .inl (cI, 2, .inl (zia (zup bm B mk))))]) 0 0 := by
  refine wr_startv (by decide) rfl (Nat.le_of_ble_eq_true rfl) ?_
  intro pg ev sx mm args below meth cd ls A M hP hD hS hA hK hl
  obtain ⟨hx, hb, hr, hml, hown, hts, hlk, hN0⟩ := id M
  have hl : lv_has ls 2 [(0, .ref pa), (1, .int (zI mk))] := hl
  refine W.widen (k := 0) (n := 0) (Nat.zero_le _) (Nat.zero_le _) ?_
  refine lv_aload_n hx hb dX1_addBeam_0 rfl (lv_at hl 0 rfl) ?_
  refine va_get (D := D) (ci := 1) (C := RX1) (T := TX1) (N := 11) hx hb hts inc_X1_addBeam_1 hown hK hP 0 rfl rfl 4 (by decide) (hts (.fieldLink RX1 28 "BedHouse$Plan" "beams" "I") (by decide +kernel)) (fun _ h9 => h9) rfl dX1_addBeam_1 ?_
  refine lv_aload_n hx hb dX1_addBeam_4 rfl (lv_at hl 0 rfl) ?_
  refine va_get (D := D) (ci := 1) (C := RX1) (T := TX1) (N := 11) hx hb hts inc_X1_addBeam_1 hown hK hP 0 rfl rfl 3 (by decide) (hts (.fieldLink RX1 15 "BedHouse$Plan" "beamSlots" "[I") (by decide +kernel)) (fun _ h9 => h9) rfl dX1_addBeam_5 ?_
  refine z_alen (n := 2) hx hb hK hP 2 1 rfl rfl dX1_addBeam_8 ?_
  refine z_icmp_ge (tgt := 32) hx hb dX1_addBeam_9 (by decide) (by omega) (fun c_9 => ?_) (fun c_9 => ?_)
  · skip
    exfalso; omega
  refine lv_aload_n hx hb dX1_addBeam_12 rfl (lv_at hl 0 rfl) ?_
  refine va_get (D := D) (ci := 1) (C := RX1) (T := TX1) (N := 11) hx hb hts inc_X1_addBeam_1 hown hK hP 0 rfl rfl 3 (by decide) (hts (.fieldLink RX1 15 "BedHouse$Plan" "beamSlots" "[I") (by decide +kernel)) (fun _ h9 => h9) rfl dX1_addBeam_13 ?_
  refine lv_aload_n hx hb dX1_addBeam_16 rfl (lv_at hl 0 rfl) ?_
  refine va_get (D := D) (ci := 1) (C := RX1) (T := TX1) (N := 11) hx hb hts inc_X1_addBeam_1 hown hK hP 0 rfl rfl 4 (by decide) (hts (.fieldLink RX1 28 "BedHouse$Plan" "beams" "I") (by decide +kernel)) (fun _ h9 => h9) rfl dX1_addBeam_17 ?_
  refine lv_iload_n hx hb dX1_addBeam_20 rfl (lv_at hl 1 rfl) ?_
  refine z_iast (ws' := [(pa, .inr (1, [.ref sa, .int (zI P), .int (zI TH), .ref ba, .int (zI B), .int (zI ra), .int (zI su), .int (zI vw), .int (zI no), .int (zI dn), .int (zI ha)])), (sa, .inl (cI, 4, .inl (zia so))), (ba, .inl (cI, 2, .inl (zia (zup bm B mk))))]) hx hb hK hP hD hS 2 1 rfl rfl (Nat.le_of_ble_eq_true rfl) dX1_addBeam_21 rfl (by omega) (fun H locs hP hD hS => ?_)
  refine lv_aload_n hx hb dX1_addBeam_22 rfl (lv_at hl 0 rfl) ?_
  refine lv_dup hx hb dX1_addBeam_23 rfl ?_
  refine va_get (D := D) (ci := 1) (C := RX1) (T := TX1) (N := 11) hx hb hts inc_X1_addBeam_1 hown hK hP 0 rfl rfl 4 (by decide) (hts (.fieldLink RX1 28 "BedHouse$Plan" "beams" "I") (by decide +kernel)) (fun _ h9 => h9) rfl dX1_addBeam_24 ?_
  refine lv_iconst (v := zI 1) hx hb dX1_addBeam_27 rfl ?_
  refine z_iadd hx hb dX1_addBeam_28 ?_
  refine va_put (D := D) (ci := 1) (v := .int (zI (B + 1))) (ty := .int) (C := RX1) (T := TX1) (N := 11) hx hb hts inc_X1_addBeam_1 tyX1 tyX1_ok nmX1 hown hK hP hD hS 0 rfl rfl 4 (by decide) (hts (.fieldLink RX1 28 "BedHouse$Plan" "beams" "I") (by decide +kernel)) (fun _ h9 => h9) rfl (by decide +kernel) rfl rfl (Nat.le_of_ble_eq_true rfl) dX1_addBeam_29 (fun H locs hP hD hS => ?_)
  have hP : va_P D vwCl [(pa, .inr (1, [.ref sa, .int (zI P), .int (zI TH), .ref ba, .int (zI (B + 1)), .int (zI ra), .int (zI su), .int (zI vw), .int (zI no), .int (zI dn), .int (zI ha)])), (sa, .inl (cI, 4, .inl (zia so))), (ba, .inl (cI, 2, .inl (zia (zup bm B mk))))] H := hP
  have hD : va_D A [(pa, .inr (1, [.ref sa, .int (zI P), .int (zI TH), .ref ba, .int (zI (B + 1)), .int (zI ra), .int (zI su), .int (zI vw), .int (zI no), .int (zI dn), .int (zI ha)])), (sa, .inl (cI, 4, .inl (zia so))), (ba, .inl (cI, 2, .inl (zia (zup bm B mk))))] := hD
  exact wr_retv M dX1_addBeam_32 (u := ()) (trivial) hP hD hS
set_option maxHeartbeats 4000000 in
set_option maxRecDepth 100000 in
theorem c_X3_mayBegin (l : Launch) (D : va_G) (cB cI cZ cM : ClassId) (Hp : Heap) (ta : Nat) (yb : Nat) (tx : Int → Int) (ln : Int) (ax : Int) (ts : Int) (tk : Int) (vl : Int) (dt : Int) (ht : Int) (pa : Nat) (sa : Nat) (ba : Nat) (so : Int → Int) (bm : Int → Int) (P : Int) (TH : Int) (B : Int) (ra : Int) (su : Int) (vw : Int) (no : Int) (dn : Int) (ha : Int) (w : Int) (hvl : 0 ≤ w ∧ w ≤ 10) (hP4 : 0 ≤ P ∧ P ≤ 4) (hB2 : 0 ≤ B ∧ B ≤ 2) (hvw : vw = -9 ∨ (0 ≤ vw ∧ vw < 8)) (hno : no = -9 ∨ (0 ≤ no ∧ no < 8)) (hdh : (0 ≤ dt ∧ dt ≤ 1) ∧ (0 ≤ ht ∧ ht ≤ 1)) : cP l yX3_mayBegin wsX3_mayBegin 0 0 D (TYS cB cI cZ cM) [.ref ta, .int (zI w), .ref pa] [(ta, .inr (3, [.ref yb, .int (zI ln), .int (zI ax), .int (zI ts), .int (zI tk), .int (zI vl), .int (zI dt), .int (zI ht)])), (yb, .inl (cI, 200, .inl (zia tx))), (pa, .inr (1, [.ref sa, .int (zI P), .int (zI TH), .ref ba, .int (zI B), .int (zI ra), .int (zI su), .int (zI vw), .int (zI no), .int (zI dn), .int (zI ha)])), (sa, .inl (cI, 4, .inl (zia so))), (ba, .inl (cI, 2, .inl (zia bm)))] Hp (fun r => r = zI (mbA w P B vw no dt ht)) := by
  refine pu_start (by decide) rfl (Nat.le_of_ble_eq_true rfl) ?_
  intro pg ev sx mm args below meth cd ls M hP hK hl
  obtain ⟨hx, hb, hr, hml, hown, hts, hlk, hN0⟩ := id M
  have hl : lv_has ls 3 [(0, .ref ta), (1, .int (zI w)), (2, .ref pa)] := hl
  refine lv_iload_n hx hb dX3_mayBegin_0 rfl (lv_at hl 1 rfl) ?_
  by_cases c_1_4 : w = 4
  · skip
    refine lv_tableIn (tgt := 44) hx hb dX3_mayBegin_1 (by rw [zI_toInt (by omega)]; omega) (by rw [zI_toInt (by omega)]; omega) (by rw [zI_toInt (by omega), c_1_4]; rfl) (by decide) ?_
    refine lv_aload_n hx hb dX3_mayBegin_44 rfl (lv_at hl 2 rfl) ?_
    refine va_getN (D := D) (ci := 1) (C := RX1) (T := TX1) (N := 11) hx hb hts inc_X3_mayBegin_1 hown hK hP 2 rfl rfl 4 (by decide) ((NW.at hN0 20 rfl).use rfl) (fun _ h9 => h9) rfl dX3_mayBegin_45 ?_
    refine lv_iconst (v := zI 2) hx hb dX3_mayBegin_48 rfl ?_
    refine z_icmp_ge (tgt := 56) hx hb dX3_mayBegin_49 (by decide) (by omega) (fun c_49 => ?_) (fun c_49 => ?_)
    · skip
      refine lv_iconst (v := zI 0) hx hb dX3_mayBegin_56 rfl ?_
      exact pu_retz M (rfl) dX3_mayBegin_57 (congrArg zI (by unfold mbA; rw [if_pos c_1_4]; unfold zb; split <;> omega))
    refine lv_iconst (v := zI 1) hx hb dX3_mayBegin_52 rfl ?_
    refine lv_goto (tgt := 57) hx hb dX3_mayBegin_53 (by decide) ?_
    exact pu_retz M (rfl) dX3_mayBegin_57 (congrArg zI (by unfold mbA; rw [if_pos c_1_4]; unfold zb; split <;> omega))
  by_cases c_1_5 : w = 5
  · skip
    refine lv_tableIn (tgt := 58) hx hb dX3_mayBegin_1 (by rw [zI_toInt (by omega)]; omega) (by rw [zI_toInt (by omega)]; omega) (by rw [zI_toInt (by omega), c_1_5]; rfl) (by decide) ?_
    refine lv_iconst (v := zI 1) hx hb dX3_mayBegin_58 rfl ?_
    exact pu_retz M (rfl) dX3_mayBegin_59 (congrArg zI (by unfold mbA; rw [if_neg c_1_4, if_pos c_1_5]))
  by_cases c_1_6 : w = 6
  · skip
    refine lv_tableIn (tgt := 58) hx hb dX3_mayBegin_1 (by rw [zI_toInt (by omega)]; omega) (by rw [zI_toInt (by omega)]; omega) (by rw [zI_toInt (by omega), c_1_6]; rfl) (by decide) ?_
    refine lv_iconst (v := zI 1) hx hb dX3_mayBegin_58 rfl ?_
    exact pu_retz M (rfl) dX3_mayBegin_59 (congrArg zI (by unfold mbA; rw [if_neg c_1_4, if_neg c_1_5, if_pos c_1_6]))
  by_cases c_1_7 : w = 7
  · skip
    refine lv_tableIn (tgt := 60) hx hb dX3_mayBegin_1 (by rw [zI_toInt (by omega)]; omega) (by rw [zI_toInt (by omega)]; omega) (by rw [zI_toInt (by omega), c_1_7]; rfl) (by decide) ?_
    refine lv_aload_n hx hb dX3_mayBegin_60 rfl (lv_at hl 2 rfl) ?_
    refine va_getN (D := D) (ci := 1) (C := RX1) (T := TX1) (N := 11) hx hb hts inc_X3_mayBegin_1 hown hK hP 2 rfl rfl 7 (by decide) ((NW.at hN0 26 rfl).use rfl) (fun _ h9 => h9) rfl dX3_mayBegin_61 ?_
    refine lv_bipush (v := zI (-9)) hx hb dX3_mayBegin_64 (by decide) ?_
    refine z_icmp_ne (tgt := 73) hx hb dX3_mayBegin_66 (by decide) (by omega) (fun c_66 => ?_) (fun c_66 => ?_)
    · skip
      refine lv_iconst (v := zI 0) hx hb dX3_mayBegin_73 rfl ?_
      exact pu_retz M (rfl) dX3_mayBegin_74 (congrArg zI (by unfold mbA; rw [if_neg c_1_4, if_neg c_1_5, if_neg c_1_6, if_pos c_1_7]; unfold zb; split <;> omega))
    refine lv_iconst (v := zI 1) hx hb dX3_mayBegin_69 rfl ?_
    refine lv_goto (tgt := 74) hx hb dX3_mayBegin_70 (by decide) ?_
    exact pu_retz M (rfl) dX3_mayBegin_74 (congrArg zI (by unfold mbA; rw [if_neg c_1_4, if_neg c_1_5, if_neg c_1_6, if_pos c_1_7]; unfold zb; split <;> omega))
  by_cases c_1_8 : w = 8
  · skip
    refine lv_tableIn (tgt := 75) hx hb dX3_mayBegin_1 (by rw [zI_toInt (by omega)]; omega) (by rw [zI_toInt (by omega)]; omega) (by rw [zI_toInt (by omega), c_1_8]; rfl) (by decide) ?_
    refine lv_aload_n hx hb dX3_mayBegin_75 rfl (lv_at hl 2 rfl) ?_
    refine va_getN (D := D) (ci := 1) (C := RX1) (T := TX1) (N := 11) hx hb hts inc_X3_mayBegin_1 hown hK hP 2 rfl rfl 8 (by decide) ((NW.at hN0 28 rfl).use rfl) (fun _ h9 => h9) rfl dX3_mayBegin_76 ?_
    refine lv_bipush (v := zI (-9)) hx hb dX3_mayBegin_79 (by decide) ?_
    refine z_icmp_ne (tgt := 88) hx hb dX3_mayBegin_81 (by decide) (by omega) (fun c_81 => ?_) (fun c_81 => ?_)
    · skip
      refine lv_iconst (v := zI 0) hx hb dX3_mayBegin_88 rfl ?_
      exact pu_retz M (rfl) dX3_mayBegin_89 (congrArg zI (by unfold mbA; rw [if_neg c_1_4, if_neg c_1_5, if_neg c_1_6, if_neg c_1_7, if_pos c_1_8]; unfold zb; split <;> omega))
    refine lv_iconst (v := zI 1) hx hb dX3_mayBegin_84 rfl ?_
    refine lv_goto (tgt := 89) hx hb dX3_mayBegin_85 (by decide) ?_
    exact pu_retz M (rfl) dX3_mayBegin_89 (congrArg zI (by unfold mbA; rw [if_neg c_1_4, if_neg c_1_5, if_neg c_1_6, if_neg c_1_7, if_pos c_1_8]; unfold zb; split <;> omega))
  by_cases c_1_9 : w = 9
  · skip
    refine lv_tableIn (tgt := 90) hx hb dX3_mayBegin_1 (by rw [zI_toInt (by omega)]; omega) (by rw [zI_toInt (by omega)]; omega) (by rw [zI_toInt (by omega), c_1_9]; rfl) (by decide) ?_
    refine lv_aload_n hx hb dX3_mayBegin_90 rfl (lv_at hl 0 rfl) ?_
    refine va_get (D := D) (ci := 3) (C := RX3) (T := TX3) (N := 8) hx hb hts inc_X3_mayBegin_3 hown hK hP 0 rfl rfl 6 (by decide) (hts (.fieldLink RX3 24 "BedHouse$Text" "downTold" "Z") (by decide +kernel)) (fun _ h9 => h9) rfl dX3_mayBegin_91 ?_
    refine z_if_ne (tgt := 101) hx hb dX3_mayBegin_94 (by decide) (by omega) (fun c_94 => ?_) (fun c_94 => ?_)
    · skip
      refine lv_iconst (v := zI 0) hx hb dX3_mayBegin_101 rfl ?_
      exact pu_retz M (rfl) dX3_mayBegin_102 (congrArg zI (by unfold mbA; rw [if_neg c_1_4, if_neg c_1_5, if_neg c_1_6, if_neg c_1_7, if_neg c_1_8, if_pos c_1_9]; unfold zb; split <;> omega))
    refine lv_iconst (v := zI 1) hx hb dX3_mayBegin_97 rfl ?_
    refine lv_goto (tgt := 102) hx hb dX3_mayBegin_98 (by decide) ?_
    exact pu_retz M (rfl) dX3_mayBegin_102 (congrArg zI (by unfold mbA; rw [if_neg c_1_4, if_neg c_1_5, if_neg c_1_6, if_neg c_1_7, if_neg c_1_8, if_pos c_1_9]; unfold zb; split <;> omega))
  by_cases c_1_10 : w = 10
  · skip
    refine lv_tableIn (tgt := 103) hx hb dX3_mayBegin_1 (by rw [zI_toInt (by omega)]; omega) (by rw [zI_toInt (by omega)]; omega) (by rw [zI_toInt (by omega), c_1_10]; rfl) (by decide) ?_
    refine lv_aload_n hx hb dX3_mayBegin_103 rfl (lv_at hl 0 rfl) ?_
    refine va_get (D := D) (ci := 3) (C := RX3) (T := TX3) (N := 8) hx hb hts inc_X3_mayBegin_3 hown hK hP 0 rfl rfl 7 (by decide) (hts (.fieldLink RX3 28 "BedHouse$Text" "handsTold" "Z") (by decide +kernel)) (fun _ h9 => h9) rfl dX3_mayBegin_104 ?_
    refine z_if_ne (tgt := 114) hx hb dX3_mayBegin_107 (by decide) (by omega) (fun c_107 => ?_) (fun c_107 => ?_)
    · skip
      refine lv_iconst (v := zI 0) hx hb dX3_mayBegin_114 rfl ?_
      exact pu_retz M (rfl) dX3_mayBegin_115 (congrArg zI (by unfold mbA; rw [if_neg c_1_4, if_neg c_1_5, if_neg c_1_6, if_neg c_1_7, if_neg c_1_8, if_neg c_1_9, if_pos c_1_10]; unfold zb; split <;> omega))
    refine lv_iconst (v := zI 1) hx hb dX3_mayBegin_110 rfl ?_
    refine lv_goto (tgt := 115) hx hb dX3_mayBegin_111 (by decide) ?_
    exact pu_retz M (rfl) dX3_mayBegin_115 (congrArg zI (by unfold mbA; rw [if_neg c_1_4, if_neg c_1_5, if_neg c_1_6, if_neg c_1_7, if_neg c_1_8, if_neg c_1_9, if_pos c_1_10]; unfold zb; split <;> omega))
  refine lv_tableOut (tgt := 116) hx hb dX3_mayBegin_1 (by rw [zI_toInt (by omega)]; omega) (by decide) ?_
  refine lv_aload_n hx hb dX3_mayBegin_116 rfl (lv_at hl 2 rfl) ?_
  refine va_getN (D := D) (ci := 1) (C := RX1) (T := TX1) (N := 11) hx hb hts inc_X3_mayBegin_1 hown hK hP 2 rfl rfl 1 (by decide) ((NW.at hN0 16 rfl).use rfl) (fun _ h9 => h9) rfl dX3_mayBegin_117 ?_
  refine lv_iconst (v := zI 4) hx hb dX3_mayBegin_120 rfl ?_
  refine z_icmp_ge (tgt := 128) hx hb dX3_mayBegin_121 (by decide) (by omega) (fun c_121 => ?_) (fun c_121 => ?_)
  · skip
    refine lv_iconst (v := zI 0) hx hb dX3_mayBegin_128 rfl ?_
    exact pu_retz M (rfl) dX3_mayBegin_129 (congrArg zI (by unfold mbA; rw [if_neg c_1_4, if_neg c_1_5, if_neg c_1_6, if_neg c_1_7, if_neg c_1_8, if_neg c_1_9, if_neg c_1_10]; unfold zb; split <;> omega))
  refine lv_iconst (v := zI 1) hx hb dX3_mayBegin_124 rfl ?_
  refine lv_goto (tgt := 129) hx hb dX3_mayBegin_125 (by decide) ?_
  exact pu_retz M (rfl) dX3_mayBegin_129 (congrArg zI (by unfold mbA; rw [if_neg c_1_4, if_neg c_1_5, if_neg c_1_6, if_neg c_1_7, if_neg c_1_8, if_neg c_1_9, if_neg c_1_10]; unfold zb; split <;> omega))
set_option maxHeartbeats 4000000 in
set_option maxRecDepth 100000 in
theorem c_X3_mayBeFirst (l : Launch) (D : va_G) (cB cI cZ cM : ClassId) (Hp : Heap) (pa : Nat) (sa : Nat) (ba : Nat) (so : Int → Int) (bm : Int → Int) (P : Int) (TH : Int) (B : Int) (ra : Int) (su : Int) (vw : Int) (no : Int) (dn : Int) (ha : Int) (w : Int) (n : Int) (hvl : 0 ≤ w ∧ w ≤ 10) (hP4 : 0 ≤ P ∧ P ≤ 4) (hTH : 0 ≤ TH ∧ TH < 2147483648) (hn : 0 ≤ n ∧ n ≤ 100) : cP l yX3_mayBeFirst wsX3_mayBeFirst 2 44 D (TYS cB cI cZ cM) [.int (zI w), .int (zI n), .ref pa] [(pa, .inr (1, [.ref sa, .int (zI P), .int (zI TH), .ref ba, .int (zI B), .int (zI ra), .int (zI su), .int (zI vw), .int (zI no), .int (zI dn), .int (zI ha)])), (sa, .inl (cI, 4, .inl (zia so))), (ba, .inl (cI, 2, .inl (zia bm)))] Hp (fun r => r = zI (mfA w n P TH)) := by
  refine pu_start (by decide) rfl (Nat.le_of_ble_eq_true rfl) ?_
  intro pg ev sx mm args below meth cd ls M hP hK hl
  obtain ⟨hx, hb, hr, hml, hown, hts, hlk, hN0⟩ := id M
  have hl : lv_has ls 3 [(0, .int (zI w)), (1, .int (zI n)), (2, .ref pa)] := hl
  refine lv_iload_n hx hb dX3_mayBeFirst_0 rfl (lv_at hl 0 rfl) ?_
  by_cases c_1_4 : w = 4
  · skip
    refine lv_tableIn (tgt := 44) hx hb dX3_mayBeFirst_1 (by rw [zI_toInt (by omega)]; omega) (by rw [zI_toInt (by omega)]; omega) (by rw [zI_toInt (by omega), c_1_4]; rfl) (by decide) ?_
    refine lv_iload_n hx hb dX3_mayBeFirst_44 rfl (lv_at hl 1 rfl) ?_
    refine pc_SN (As := [.int (zI n)]) (rest := []) M (c_X4_isSlot l D cB cI cZ cM _ n (by first | assumption | omega)) gX3_mayBeFirst_X4_isSlot_n74 rfl (NW.at hN0 42 rfl) (by decide +kernel) (by decide +kernel) hd_X4_isSlot ⟨Nat.le_of_ble_eq_true rfl, Nat.le_of_ble_eq_true rfl⟩ hK hP [] rfl hl.1 rfl rfl (Nat.le_of_ble_eq_true rfl) dX3_mayBeFirst_45 ⟨Nat.le_of_ble_eq_true rfl, Nat.le_of_ble_eq_true rfl⟩ (fun r_45 h_45 => ?_)
    subst h_45
    exact pu_retz M (by unfold zb; split <;> rfl) dX3_mayBeFirst_48 (congrArg zI (by unfold mfA; rw [if_pos (by omega)]))
  by_cases c_1_5 : w = 5
  · skip
    refine lv_tableIn (tgt := 44) hx hb dX3_mayBeFirst_1 (by rw [zI_toInt (by omega)]; omega) (by rw [zI_toInt (by omega)]; omega) (by rw [zI_toInt (by omega), c_1_5]; rfl) (by decide) ?_
    refine lv_iload_n hx hb dX3_mayBeFirst_44 rfl (lv_at hl 1 rfl) ?_
    refine pc_SN (As := [.int (zI n)]) (rest := []) M (c_X4_isSlot l D cB cI cZ cM _ n (by first | assumption | omega)) gX3_mayBeFirst_X4_isSlot_n74 rfl (NW.at hN0 42 rfl) (by decide +kernel) (by decide +kernel) hd_X4_isSlot ⟨Nat.le_of_ble_eq_true rfl, Nat.le_of_ble_eq_true rfl⟩ hK hP [] rfl hl.1 rfl rfl (Nat.le_of_ble_eq_true rfl) dX3_mayBeFirst_45 ⟨Nat.le_of_ble_eq_true rfl, Nat.le_of_ble_eq_true rfl⟩ (fun r_45 h_45 => ?_)
    subst h_45
    exact pu_retz M (by unfold zb; split <;> rfl) dX3_mayBeFirst_48 (congrArg zI (by unfold mfA; rw [if_pos (by omega)]))
  by_cases c_1_6 : w = 6
  · skip
    refine lv_tableIn (tgt := 44) hx hb dX3_mayBeFirst_1 (by rw [zI_toInt (by omega)]; omega) (by rw [zI_toInt (by omega)]; omega) (by rw [zI_toInt (by omega), c_1_6]; rfl) (by decide) ?_
    refine lv_iload_n hx hb dX3_mayBeFirst_44 rfl (lv_at hl 1 rfl) ?_
    refine pc_SN (As := [.int (zI n)]) (rest := []) M (c_X4_isSlot l D cB cI cZ cM _ n (by first | assumption | omega)) gX3_mayBeFirst_X4_isSlot_n74 rfl (NW.at hN0 42 rfl) (by decide +kernel) (by decide +kernel) hd_X4_isSlot ⟨Nat.le_of_ble_eq_true rfl, Nat.le_of_ble_eq_true rfl⟩ hK hP [] rfl hl.1 rfl rfl (Nat.le_of_ble_eq_true rfl) dX3_mayBeFirst_45 ⟨Nat.le_of_ble_eq_true rfl, Nat.le_of_ble_eq_true rfl⟩ (fun r_45 h_45 => ?_)
    subst h_45
    exact pu_retz M (by unfold zb; split <;> rfl) dX3_mayBeFirst_48 (congrArg zI (by unfold mfA; rw [if_pos (by omega)]))
  by_cases c_1_7 : w = 7
  · skip
    refine lv_tableIn (tgt := 44) hx hb dX3_mayBeFirst_1 (by rw [zI_toInt (by omega)]; omega) (by rw [zI_toInt (by omega)]; omega) (by rw [zI_toInt (by omega), c_1_7]; rfl) (by decide) ?_
    refine lv_iload_n hx hb dX3_mayBeFirst_44 rfl (lv_at hl 1 rfl) ?_
    refine pc_SN (As := [.int (zI n)]) (rest := []) M (c_X4_isSlot l D cB cI cZ cM _ n (by first | assumption | omega)) gX3_mayBeFirst_X4_isSlot_n74 rfl (NW.at hN0 42 rfl) (by decide +kernel) (by decide +kernel) hd_X4_isSlot ⟨Nat.le_of_ble_eq_true rfl, Nat.le_of_ble_eq_true rfl⟩ hK hP [] rfl hl.1 rfl rfl (Nat.le_of_ble_eq_true rfl) dX3_mayBeFirst_45 ⟨Nat.le_of_ble_eq_true rfl, Nat.le_of_ble_eq_true rfl⟩ (fun r_45 h_45 => ?_)
    subst h_45
    exact pu_retz M (by unfold zb; split <;> rfl) dX3_mayBeFirst_48 (congrArg zI (by unfold mfA; rw [if_pos (by omega)]))
  by_cases c_1_8 : w = 8
  · skip
    refine lv_tableIn (tgt := 44) hx hb dX3_mayBeFirst_1 (by rw [zI_toInt (by omega)]; omega) (by rw [zI_toInt (by omega)]; omega) (by rw [zI_toInt (by omega), c_1_8]; rfl) (by decide) ?_
    refine lv_iload_n hx hb dX3_mayBeFirst_44 rfl (lv_at hl 1 rfl) ?_
    refine pc_SN (As := [.int (zI n)]) (rest := []) M (c_X4_isSlot l D cB cI cZ cM _ n (by first | assumption | omega)) gX3_mayBeFirst_X4_isSlot_n74 rfl (NW.at hN0 42 rfl) (by decide +kernel) (by decide +kernel) hd_X4_isSlot ⟨Nat.le_of_ble_eq_true rfl, Nat.le_of_ble_eq_true rfl⟩ hK hP [] rfl hl.1 rfl rfl (Nat.le_of_ble_eq_true rfl) dX3_mayBeFirst_45 ⟨Nat.le_of_ble_eq_true rfl, Nat.le_of_ble_eq_true rfl⟩ (fun r_45 h_45 => ?_)
    subst h_45
    exact pu_retz M (by unfold zb; split <;> rfl) dX3_mayBeFirst_48 (congrArg zI (by unfold mfA; rw [if_pos (by omega)]))
  by_cases c_1_9 : w = 9
  · skip
    refine lv_tableIn (tgt := 49) hx hb dX3_mayBeFirst_1 (by rw [zI_toInt (by omega)]; omega) (by rw [zI_toInt (by omega)]; omega) (by rw [zI_toInt (by omega), c_1_9]; rfl) (by decide) ?_
    refine lv_iload_n hx hb dX3_mayBeFirst_49 rfl (lv_at hl 1 rfl) ?_
    refine z_if_lt (tgt := 62) hx hb dX3_mayBeFirst_50 (by decide) (by omega) (fun c_50 => ?_) (fun c_50 => ?_)
    · skip
      refine lv_iconst (v := zI 0) hx hb dX3_mayBeFirst_62 rfl ?_
      exact pu_retz M (rfl) dX3_mayBeFirst_63 (congrArg zI (by unfold mfA; rw [if_neg (by omega), if_pos c_1_9]; unfold zb; split <;> omega))
    refine lv_iload_n hx hb dX3_mayBeFirst_53 rfl (lv_at hl 1 rfl) ?_
    refine lv_iconst (v := zI 4) hx hb dX3_mayBeFirst_54 rfl ?_
    refine z_icmp_gt (tgt := 62) hx hb dX3_mayBeFirst_55 (by decide) (by omega) (fun c_55 => ?_) (fun c_55 => ?_)
    · skip
      refine lv_iconst (v := zI 0) hx hb dX3_mayBeFirst_62 rfl ?_
      exact pu_retz M (rfl) dX3_mayBeFirst_63 (congrArg zI (by unfold mfA; rw [if_neg (by omega), if_pos c_1_9]; unfold zb; split <;> omega))
    refine lv_iconst (v := zI 1) hx hb dX3_mayBeFirst_58 rfl ?_
    refine lv_goto (tgt := 63) hx hb dX3_mayBeFirst_59 (by decide) ?_
    exact pu_retz M (rfl) dX3_mayBeFirst_63 (congrArg zI (by unfold mfA; rw [if_neg (by omega), if_pos c_1_9]; unfold zb; split <;> omega))
  by_cases c_1_10 : w = 10
  · skip
    refine lv_tableIn (tgt := 64) hx hb dX3_mayBeFirst_1 (by rw [zI_toInt (by omega)]; omega) (by rw [zI_toInt (by omega)]; omega) (by rw [zI_toInt (by omega), c_1_10]; rfl) (by decide) ?_
    refine lv_iload_n hx hb dX3_mayBeFirst_64 rfl (lv_at hl 1 rfl) ?_
    refine lv_iconst (v := zI 1) hx hb dX3_mayBeFirst_65 rfl ?_
    refine z_icmp_lt (tgt := 79) hx hb dX3_mayBeFirst_66 (by decide) (by omega) (fun c_66 => ?_) (fun c_66 => ?_)
    · skip
      refine lv_iconst (v := zI 0) hx hb dX3_mayBeFirst_79 rfl ?_
      exact pu_retz M (rfl) dX3_mayBeFirst_80 (congrArg zI (by unfold mfA; rw [if_neg (by omega), if_neg c_1_9, if_pos c_1_10]; unfold zb; split <;> omega))
    refine lv_iload_n hx hb dX3_mayBeFirst_69 rfl (lv_at hl 1 rfl) ?_
    refine lv_bipush (v := zI 9) hx hb dX3_mayBeFirst_70 (by decide) ?_
    refine z_icmp_gt (tgt := 79) hx hb dX3_mayBeFirst_72 (by decide) (by omega) (fun c_72 => ?_) (fun c_72 => ?_)
    · skip
      refine lv_iconst (v := zI 0) hx hb dX3_mayBeFirst_79 rfl ?_
      exact pu_retz M (rfl) dX3_mayBeFirst_80 (congrArg zI (by unfold mfA; rw [if_neg (by omega), if_neg c_1_9, if_pos c_1_10]; unfold zb; split <;> omega))
    refine lv_iconst (v := zI 1) hx hb dX3_mayBeFirst_75 rfl ?_
    refine lv_goto (tgt := 80) hx hb dX3_mayBeFirst_76 (by decide) ?_
    exact pu_retz M (rfl) dX3_mayBeFirst_80 (congrArg zI (by unfold mfA; rw [if_neg (by omega), if_neg c_1_9, if_pos c_1_10]; unfold zb; split <;> omega))
  refine lv_tableOut (tgt := 81) hx hb dX3_mayBeFirst_1 (by rw [zI_toInt (by omega)]; omega) (by decide) ?_
  refine lv_iload_n hx hb dX3_mayBeFirst_81 rfl (lv_at hl 1 rfl) ?_
  refine lv_bipush (v := zI 8) hx hb dX3_mayBeFirst_82 (by decide) ?_
  refine z_icmp_eq (tgt := 108) hx hb dX3_mayBeFirst_84 (by decide) (by omega) (fun c_84 => ?_) (fun c_84 => ?_)
  · skip
    refine lv_iconst (v := zI 1) hx hb dX3_mayBeFirst_108 rfl ?_
    refine lv_goto (tgt := 113) hx hb dX3_mayBeFirst_109 (by decide) ?_
    exact pu_retz M (rfl) dX3_mayBeFirst_113 (congrArg zI (by unfold mfA; rw [if_neg (by omega), if_neg c_1_9, if_neg c_1_10]; unfold zb; split <;> omega))
  refine lv_iload_n hx hb dX3_mayBeFirst_87 rfl (lv_at hl 1 rfl) ?_
  refine pc_SN (As := [.int (zI n)]) (rest := []) M (c_X4_isSlot l D cB cI cZ cM _ n (by first | assumption | omega)) gX3_mayBeFirst_X4_isSlot_n74 rfl (NW.at hN0 42 rfl) (by decide +kernel) (by decide +kernel) hd_X4_isSlot ⟨Nat.le_of_ble_eq_true rfl, Nat.le_of_ble_eq_true rfl⟩ hK hP [] rfl hl.1 rfl rfl (Nat.le_of_ble_eq_true rfl) dX3_mayBeFirst_88 ⟨Nat.le_of_ble_eq_true rfl, Nat.le_of_ble_eq_true rfl⟩ (fun r_88 h_88 => ?_)
  subst h_88
  refine z_if_eq (tgt := 112) hx hb dX3_mayBeFirst_91 (by decide) (zb_bd _) (fun c_91 => ?_) (fun c_91 => ?_)
  · skip
    have c_91 := zb_f c_91
    refine lv_iconst (v := zI 0) hx hb dX3_mayBeFirst_112 rfl ?_
    exact pu_retz M (rfl) dX3_mayBeFirst_113 (congrArg zI (by unfold mfA; rw [if_neg (by omega), if_neg c_1_9, if_neg c_1_10]; unfold zb; split <;> omega))
  have c_91 := zb_t c_91
  refine lv_aload_n hx hb dX3_mayBeFirst_94 rfl (lv_at hl 2 rfl) ?_
  refine lv_aload_n hx hb dX3_mayBeFirst_95 rfl (lv_at hl 2 rfl) ?_
  refine va_getN (D := D) (ci := 1) (C := RX1) (T := TX1) (N := 11) hx hb hts inc_X3_mayBeFirst_1 hown hK hP 0 rfl rfl 2 (by decide) ((NW.at hN0 19 rfl).use rfl) (fun _ h9 => h9) rfl dX3_mayBeFirst_96 ?_
  refine lv_iload_n hx hb dX3_mayBeFirst_99 rfl (lv_at hl 1 rfl) ?_
  refine pc_VN (As := [.int (zI TH), .int (zI n)]) (rest := []) M (c_X1_panelAt l D cB cI cZ cM _ pa sa ba so bm P TH B ra su vw no dn ha TH n (by first | assumption | omega) (by first | assumption | omega) (by first | assumption | omega)) gX3_mayBeFirst_X1_panelAt_n81 rfl (NW.at hN0 43 rfl) (by decide +kernel) (by decide +kernel) (by decide +kernel) hd_X1_panelAt ⟨Nat.le_of_ble_eq_true rfl, Nat.le_of_ble_eq_true rfl⟩ hK hP [0, 1, 2] rfl 0 1 rfl rfl rfl hl.1 rfl rfl (Nat.le_of_ble_eq_true rfl) dX3_mayBeFirst_100 ⟨Nat.le_of_ble_eq_true rfl, Nat.le_of_ble_eq_true rfl⟩ (fun r_100 h_100 => ?_)
  subst h_100
  have hpf := patF_rng (pl TH) n P.toNat 0 (by omega)
  refine lv_bipush (v := zI (-9)) hx hb dX3_mayBeFirst_103 (by decide) ?_
  refine z_icmp_ne (tgt := 112) hx hb dX3_mayBeFirst_105 (by decide) (by omega) (fun c_105 => ?_) (fun c_105 => ?_)
  · skip
    refine lv_iconst (v := zI 0) hx hb dX3_mayBeFirst_112 rfl ?_
    exact pu_retz M (rfl) dX3_mayBeFirst_113 (congrArg zI (by unfold mfA; rw [if_neg (by omega), if_neg c_1_9, if_neg c_1_10]; unfold zb; split <;> omega))
  refine lv_iconst (v := zI 1) hx hb dX3_mayBeFirst_108 rfl ?_
  refine lv_goto (tgt := 113) hx hb dX3_mayBeFirst_109 (by decide) ?_
  exact pu_retz M (rfl) dX3_mayBeFirst_113 (congrArg zI (by unfold mfA; rw [if_neg (by omega), if_neg c_1_9, if_neg c_1_10]; unfold zb; split <;> omega))
set_option maxHeartbeats 4000000 in
set_option maxRecDepth 100000 in
theorem c_X3_apply (l : Launch) (D : va_G) (cB cI cZ cM : ClassId) (Hp : Heap) (ta : Nat) (yb : Nat) (tx : Int → Int) (ln : Int) (ax : Int) (ts : Int) (tk : Int) (vl : Int) (dt : Int) (ht : Int) (pa : Nat) (sa : Nat) (ba : Nat) (so : Int → Int) (bm : Int → Int) (P : Int) (TH : Int) (B : Int) (ra : Int) (su : Int) (vw : Int) (no : Int) (dn : Int) (ha : Int) (w : Int) (n : Int) (sz : Int) (hvl : 0 ≤ w ∧ w ≤ 10) (hap : (w = 4 → 0 ≤ B ∧ B < 2) ∧ (¬ (4 ≤ w ∧ w ≤ 10) → 0 ≤ P ∧ P < 4) ∧ (4 ≤ w ∧ w ≤ 6 → (0 ≤ n ∧ n < 8) ∧ (0 ≤ sz ∧ sz ≤ 8))) (hra : 0 ≤ ra ∧ ra < 256) (hsu : 0 ≤ su ∧ su < 256) : cWv l yX3_apply wsX3_apply (rmW 2 0 0 42) D (TYS cB cI cZ cM) [.ref ta, .int (zI w), .int (zI n), .int (zI sz), .ref pa] [(ta, .inr (3, [.ref yb, .int (zI ln), .int (zI ax), .int (zI ts), .int (zI tk), .int (zI vl), .int (zI dt), .int (zI ht)])), (yb, .inl (cI, 200, .inl (zia tx))), (pa, .inr (1, [.ref sa, .int (zI P), .int (zI TH), .ref ba, .int (zI B), .int (zI ra), .int (zI su), .int (zI vw), .int (zI no), .int (zI dn), .int (zI ha)])), (sa, .inl (cI, 4, .inl (zia so))), (ba, .inl (cI, 2, .inl (zia bm)))] Hp (fun (u : Int × Int × PLS) => u = apA w n sz dt ht so bm P TH B ra su vw no dn ha) (fun (u : Int × Int × PLS) => [(ta, .inr (3, [.ref yb, .int (zI ln), .int (zI ax), .int (zI ts), .int (zI tk), .int (zI vl), .int (zI u.1), .int (zI u.2.1)])), (yb, .inl (cI, 200, .inl (zia tx))), (pa, .inr (1, [.ref sa, .int (zI u.2.2.2.2.1), .int (zI u.2.2.2.2.2.1), .ref ba, .int (zI u.2.2.2.2.2.2.1), .int (zI u.2.2.2.2.2.2.2.1), .int (zI u.2.2.2.2.2.2.2.2.1), .int (zI u.2.2.2.2.2.2.2.2.2.1), .int (zI u.2.2.2.2.2.2.2.2.2.2.1), .int (zI u.2.2.2.2.2.2.2.2.2.2.2.1), .int (zI u.2.2.2.2.2.2.2.2.2.2.2.2)])), (sa, .inl (cI, 4, .inl (zia u.2.2.1))), (ba, .inl (cI, 2, .inl (zia u.2.2.2.1)))]) 0 0 := by
  refine wr_startv (by decide) rfl (Nat.le_of_ble_eq_true rfl) ?_
  intro pg ev sx mm args below meth cd ls A M hP hD hS hA hK hl
  obtain ⟨hx, hb, hr, hml, hown, hts, hlk, hN0⟩ := id M
  have hl : lv_has ls 5 [(0, .ref ta), (1, .int (zI w)), (2, .int (zI n)), (3, .int (zI sz)), (4, .ref pa)] := hl
  refine W.widen (k := 0) (n := 0) (Nat.zero_le _) (Nat.zero_le _) ?_
  refine lv_iload_n hx hb dX3_apply_0 rfl (lv_at hl 1 rfl) ?_
  by_cases c_1_4 : w = 4
  · skip
    refine lv_tableIn (tgt := 44) hx hb dX3_apply_1 (by rw [zI_toInt (by omega)]; omega) (by rw [zI_toInt (by omega)]; omega) (by rw [zI_toInt (by omega), c_1_4]; rfl) (by decide) ?_
    refine lv_aload hx hb dX3_apply_44 (lv_at hl 4 rfl) ?_
    refine lv_iload_n hx hb dX3_apply_46 rfl (lv_at hl 2 rfl) ?_
    refine lv_iload_n hx hb dX3_apply_47 rfl (lv_at hl 3 rfl) ?_
    refine pc_J (As := [.int (zI n), .int (zI sz)]) (rest := [.ref pa]) M (c_X3_slotsFrom l D cB cI cZ cM _ n sz (by first | assumption | omega) (by first | assumption | omega)) gX3_apply_X3_slotsFrom rfl hd_X3_slotsFrom ⟨Nat.le_of_ble_eq_true rfl, Nat.le_of_ble_eq_true rfl⟩ hK hP [] rfl hl.1 rfl rfl (Nat.le_of_ble_eq_true rfl) dX3_apply_48 ⟨Nat.le_of_ble_eq_true rfl, Nat.le_of_ble_eq_true rfl⟩ (fun r_48 h_48 => ?_)
    subst h_48
    refine wc_VNv (As := [.int (zI (sfF n sz.toNat 0 0))]) (rest := []) (wr := [(ta, .inr (3, [.ref yb, .int (zI ln), .int (zI ax), .int (zI ts), .int (zI tk), .int (zI vl), .int (zI dt), .int (zI ht)])), (yb, .inl (cI, 200, .inl (zia tx)))]) (ws' := (fun _u : Unit => [(ta, .inr (3, [.ref yb, .int (zI ln), .int (zI ax), .int (zI ts), .int (zI tk), .int (zI vl), .int (zI dt), .int (zI ht)])), (yb, .inl (cI, 200, .inl (zia tx))), (pa, .inr (1, [.ref sa, .int (zI P), .int (zI TH), .ref ba, .int (zI (B + 1)), .int (zI ra), .int (zI su), .int (zI vw), .int (zI no), .int (zI dn), .int (zI ha)])), (sa, .inl (cI, 4, .inl (zia so))), (ba, .inl (cI, 2, .inl (zia (zup bm B (sfF n sz.toNat 0 0)))))])) M (c_X1_addBeam l D cB cI cZ cM _ pa sa ba so bm P TH B ra su vw no dn ha (sfF n sz.toNat 0 0) (by first | assumption | omega)) gX3_apply_X1_addBeam_n88 rfl (NW.at hN0 45 rfl) (by decide +kernel) (by decide +kernel) (by decide +kernel) hd_X1_addBeam ⟨Nat.le_of_ble_eq_true rfl, Nat.le_of_ble_eq_true rfl⟩ hK hP hD hS hA [2, 3, 4] [0, 1] [0, 1, 2, 3, 4] rfl rfl (by decide) (by decide) (by decide) (fun _ => rfl) 2 1 rfl rfl rfl hl.1 rfl rfl (Nat.le_of_ble_eq_true rfl) dX3_apply_51 ⟨Nat.le_of_ble_eq_true rfl, Nat.le_of_ble_eq_true rfl⟩ (by decide) (fun _u H locs h_51 hP hD hS => ?_)
    refine lv_goto (tgt := 146) hx hb dX3_apply_54 (by decide) ?_
    exact wr_retv M dX3_apply_146 (u := (dt, ht, so, zup bm B (sfF n sz.toNat 0 0), P, TH, B + 1, ra, su, vw, no, dn, ha)) (by unfold apA; rw [if_pos c_1_4]) hP hD hS
  by_cases c_1_5 : w = 5
  · skip
    refine lv_tableIn (tgt := 57) hx hb dX3_apply_1 (by rw [zI_toInt (by omega)]; omega) (by rw [zI_toInt (by omega)]; omega) (by rw [zI_toInt (by omega), c_1_5]; rfl) (by decide) ?_
    refine lv_aload hx hb dX3_apply_57 (lv_at hl 4 rfl) ?_
    refine lv_dup hx hb dX3_apply_59 rfl ?_
    refine va_getN (D := D) (ci := 1) (C := RX1) (T := TX1) (N := 11) hx hb hts inc_X3_apply_1 hown hK hP 2 rfl rfl 5 (by decide) ((NW.at hN0 23 rfl).use rfl) (fun _ h9 => h9) rfl dX3_apply_60 ?_
    refine lv_iload_n hx hb dX3_apply_63 rfl (lv_at hl 2 rfl) ?_
    refine lv_iload_n hx hb dX3_apply_64 rfl (lv_at hl 3 rfl) ?_
    refine pc_J (As := [.int (zI n), .int (zI sz)]) (rest := [.int (zI ra), .ref pa]) M (c_X3_slotsFrom l D cB cI cZ cM _ n sz (by first | assumption | omega) (by first | assumption | omega)) gX3_apply_X3_slotsFrom rfl hd_X3_slotsFrom ⟨Nat.le_of_ble_eq_true rfl, Nat.le_of_ble_eq_true rfl⟩ hK hP [] rfl hl.1 rfl rfl (Nat.le_of_ble_eq_true rfl) dX3_apply_65 ⟨Nat.le_of_ble_eq_true rfl, Nat.le_of_ble_eq_true rfl⟩ (fun r_65 h_65 => ?_)
    subst h_65
    have hsf := sfF_rng n sz.toNat 0 0 (by omega)
    refine z_ior hx hb dX3_apply_68 (by omega) ?_
    refine va_putN (D := D) (ci := 1) (v := .int (zI (zbor ra (sfF n sz.toNat 0 0)))) (ty := .int) (C := RX1) (T := TX1) (N := 11) hx hb hts inc_X3_apply_1 tyX1 tyX1_ok nmX1 hown hK hP hD hS 2 rfl rfl 5 (by decide) ((NW.at hN0 23 rfl).use rfl) (fun _ h9 => h9) rfl (by decide +kernel) rfl rfl (Nat.le_of_ble_eq_true rfl) dX3_apply_69 (fun H locs hP hD hS => ?_)
    have hP : va_P D vwCl [(ta, .inr (3, [.ref yb, .int (zI ln), .int (zI ax), .int (zI ts), .int (zI tk), .int (zI vl), .int (zI dt), .int (zI ht)])), (yb, .inl (cI, 200, .inl (zia tx))), (pa, .inr (1, [.ref sa, .int (zI P), .int (zI TH), .ref ba, .int (zI B), .int (zI (zbor ra (sfF n sz.toNat 0 0))), .int (zI su), .int (zI vw), .int (zI no), .int (zI dn), .int (zI ha)])), (sa, .inl (cI, 4, .inl (zia so))), (ba, .inl (cI, 2, .inl (zia bm)))] H := hP
    have hD : va_D A [(ta, .inr (3, [.ref yb, .int (zI ln), .int (zI ax), .int (zI ts), .int (zI tk), .int (zI vl), .int (zI dt), .int (zI ht)])), (yb, .inl (cI, 200, .inl (zia tx))), (pa, .inr (1, [.ref sa, .int (zI P), .int (zI TH), .ref ba, .int (zI B), .int (zI (zbor ra (sfF n sz.toNat 0 0))), .int (zI su), .int (zI vw), .int (zI no), .int (zI dn), .int (zI ha)])), (sa, .inl (cI, 4, .inl (zia so))), (ba, .inl (cI, 2, .inl (zia bm)))] := hD
    refine lv_goto (tgt := 146) hx hb dX3_apply_72 (by decide) ?_
    exact wr_retv M dX3_apply_146 (u := (dt, ht, so, bm, P, TH, B, zbor ra (sfF n sz.toNat 0 0), su, vw, no, dn, ha)) (by unfold apA; rw [if_neg c_1_4, if_pos c_1_5]) hP hD hS
  by_cases c_1_6 : w = 6
  · skip
    refine lv_tableIn (tgt := 75) hx hb dX3_apply_1 (by rw [zI_toInt (by omega)]; omega) (by rw [zI_toInt (by omega)]; omega) (by rw [zI_toInt (by omega), c_1_6]; rfl) (by decide) ?_
    refine lv_aload hx hb dX3_apply_75 (lv_at hl 4 rfl) ?_
    refine lv_dup hx hb dX3_apply_77 rfl ?_
    refine va_getN (D := D) (ci := 1) (C := RX1) (T := TX1) (N := 11) hx hb hts inc_X3_apply_1 hown hK hP 2 rfl rfl 6 (by decide) ((NW.at hN0 25 rfl).use rfl) (fun _ h9 => h9) rfl dX3_apply_78 ?_
    refine lv_iload_n hx hb dX3_apply_81 rfl (lv_at hl 2 rfl) ?_
    refine lv_iload_n hx hb dX3_apply_82 rfl (lv_at hl 3 rfl) ?_
    refine pc_J (As := [.int (zI n), .int (zI sz)]) (rest := [.int (zI su), .ref pa]) M (c_X3_slotsFrom l D cB cI cZ cM _ n sz (by first | assumption | omega) (by first | assumption | omega)) gX3_apply_X3_slotsFrom rfl hd_X3_slotsFrom ⟨Nat.le_of_ble_eq_true rfl, Nat.le_of_ble_eq_true rfl⟩ hK hP [] rfl hl.1 rfl rfl (Nat.le_of_ble_eq_true rfl) dX3_apply_83 ⟨Nat.le_of_ble_eq_true rfl, Nat.le_of_ble_eq_true rfl⟩ (fun r_83 h_83 => ?_)
    subst h_83
    have hsf := sfF_rng n sz.toNat 0 0 (by omega)
    refine z_ior hx hb dX3_apply_86 (by omega) ?_
    refine va_putN (D := D) (ci := 1) (v := .int (zI (zbor su (sfF n sz.toNat 0 0)))) (ty := .int) (C := RX1) (T := TX1) (N := 11) hx hb hts inc_X3_apply_1 tyX1 tyX1_ok nmX1 hown hK hP hD hS 2 rfl rfl 6 (by decide) ((NW.at hN0 25 rfl).use rfl) (fun _ h9 => h9) rfl (by decide +kernel) rfl rfl (Nat.le_of_ble_eq_true rfl) dX3_apply_87 (fun H locs hP hD hS => ?_)
    have hP : va_P D vwCl [(ta, .inr (3, [.ref yb, .int (zI ln), .int (zI ax), .int (zI ts), .int (zI tk), .int (zI vl), .int (zI dt), .int (zI ht)])), (yb, .inl (cI, 200, .inl (zia tx))), (pa, .inr (1, [.ref sa, .int (zI P), .int (zI TH), .ref ba, .int (zI B), .int (zI ra), .int (zI (zbor su (sfF n sz.toNat 0 0))), .int (zI vw), .int (zI no), .int (zI dn), .int (zI ha)])), (sa, .inl (cI, 4, .inl (zia so))), (ba, .inl (cI, 2, .inl (zia bm)))] H := hP
    have hD : va_D A [(ta, .inr (3, [.ref yb, .int (zI ln), .int (zI ax), .int (zI ts), .int (zI tk), .int (zI vl), .int (zI dt), .int (zI ht)])), (yb, .inl (cI, 200, .inl (zia tx))), (pa, .inr (1, [.ref sa, .int (zI P), .int (zI TH), .ref ba, .int (zI B), .int (zI ra), .int (zI (zbor su (sfF n sz.toNat 0 0))), .int (zI vw), .int (zI no), .int (zI dn), .int (zI ha)])), (sa, .inl (cI, 4, .inl (zia so))), (ba, .inl (cI, 2, .inl (zia bm)))] := hD
    refine lv_goto (tgt := 146) hx hb dX3_apply_90 (by decide) ?_
    exact wr_retv M dX3_apply_146 (u := (dt, ht, so, bm, P, TH, B, ra, zbor su (sfF n sz.toNat 0 0), vw, no, dn, ha)) (by unfold apA; rw [if_neg c_1_4, if_neg c_1_5, if_pos c_1_6]) hP hD hS
  by_cases c_1_7 : w = 7
  · skip
    refine lv_tableIn (tgt := 93) hx hb dX3_apply_1 (by rw [zI_toInt (by omega)]; omega) (by rw [zI_toInt (by omega)]; omega) (by rw [zI_toInt (by omega), c_1_7]; rfl) (by decide) ?_
    refine lv_aload hx hb dX3_apply_93 (lv_at hl 4 rfl) ?_
    refine lv_iload_n hx hb dX3_apply_95 rfl (lv_at hl 2 rfl) ?_
    refine va_putN (D := D) (ci := 1) (v := .int (zI n)) (ty := .int) (C := RX1) (T := TX1) (N := 11) hx hb hts inc_X3_apply_1 tyX1 tyX1_ok nmX1 hown hK hP hD hS 2 rfl rfl 7 (by decide) ((NW.at hN0 26 rfl).use rfl) (fun _ h9 => h9) rfl (by decide +kernel) rfl rfl (Nat.le_of_ble_eq_true rfl) dX3_apply_96 (fun H locs hP hD hS => ?_)
    have hP : va_P D vwCl [(ta, .inr (3, [.ref yb, .int (zI ln), .int (zI ax), .int (zI ts), .int (zI tk), .int (zI vl), .int (zI dt), .int (zI ht)])), (yb, .inl (cI, 200, .inl (zia tx))), (pa, .inr (1, [.ref sa, .int (zI P), .int (zI TH), .ref ba, .int (zI B), .int (zI ra), .int (zI su), .int (zI n), .int (zI no), .int (zI dn), .int (zI ha)])), (sa, .inl (cI, 4, .inl (zia so))), (ba, .inl (cI, 2, .inl (zia bm)))] H := hP
    have hD : va_D A [(ta, .inr (3, [.ref yb, .int (zI ln), .int (zI ax), .int (zI ts), .int (zI tk), .int (zI vl), .int (zI dt), .int (zI ht)])), (yb, .inl (cI, 200, .inl (zia tx))), (pa, .inr (1, [.ref sa, .int (zI P), .int (zI TH), .ref ba, .int (zI B), .int (zI ra), .int (zI su), .int (zI n), .int (zI no), .int (zI dn), .int (zI ha)])), (sa, .inl (cI, 4, .inl (zia so))), (ba, .inl (cI, 2, .inl (zia bm)))] := hD
    refine lv_goto (tgt := 146) hx hb dX3_apply_99 (by decide) ?_
    exact wr_retv M dX3_apply_146 (u := (dt, ht, so, bm, P, TH, B, ra, su, n, no, dn, ha)) (by unfold apA; rw [if_neg c_1_4, if_neg c_1_5, if_neg c_1_6, if_pos c_1_7]) hP hD hS
  by_cases c_1_8 : w = 8
  · skip
    refine lv_tableIn (tgt := 102) hx hb dX3_apply_1 (by rw [zI_toInt (by omega)]; omega) (by rw [zI_toInt (by omega)]; omega) (by rw [zI_toInt (by omega), c_1_8]; rfl) (by decide) ?_
    refine lv_aload hx hb dX3_apply_102 (lv_at hl 4 rfl) ?_
    refine lv_iload_n hx hb dX3_apply_104 rfl (lv_at hl 2 rfl) ?_
    refine va_putN (D := D) (ci := 1) (v := .int (zI n)) (ty := .int) (C := RX1) (T := TX1) (N := 11) hx hb hts inc_X3_apply_1 tyX1 tyX1_ok nmX1 hown hK hP hD hS 2 rfl rfl 8 (by decide) ((NW.at hN0 28 rfl).use rfl) (fun _ h9 => h9) rfl (by decide +kernel) rfl rfl (Nat.le_of_ble_eq_true rfl) dX3_apply_105 (fun H locs hP hD hS => ?_)
    have hP : va_P D vwCl [(ta, .inr (3, [.ref yb, .int (zI ln), .int (zI ax), .int (zI ts), .int (zI tk), .int (zI vl), .int (zI dt), .int (zI ht)])), (yb, .inl (cI, 200, .inl (zia tx))), (pa, .inr (1, [.ref sa, .int (zI P), .int (zI TH), .ref ba, .int (zI B), .int (zI ra), .int (zI su), .int (zI vw), .int (zI n), .int (zI dn), .int (zI ha)])), (sa, .inl (cI, 4, .inl (zia so))), (ba, .inl (cI, 2, .inl (zia bm)))] H := hP
    have hD : va_D A [(ta, .inr (3, [.ref yb, .int (zI ln), .int (zI ax), .int (zI ts), .int (zI tk), .int (zI vl), .int (zI dt), .int (zI ht)])), (yb, .inl (cI, 200, .inl (zia tx))), (pa, .inr (1, [.ref sa, .int (zI P), .int (zI TH), .ref ba, .int (zI B), .int (zI ra), .int (zI su), .int (zI vw), .int (zI n), .int (zI dn), .int (zI ha)])), (sa, .inl (cI, 4, .inl (zia so))), (ba, .inl (cI, 2, .inl (zia bm)))] := hD
    refine lv_goto (tgt := 146) hx hb dX3_apply_108 (by decide) ?_
    exact wr_retv M dX3_apply_146 (u := (dt, ht, so, bm, P, TH, B, ra, su, vw, n, dn, ha)) (by unfold apA; rw [if_neg c_1_4, if_neg c_1_5, if_neg c_1_6, if_neg c_1_7, if_pos c_1_8]) hP hD hS
  by_cases c_1_9 : w = 9
  · skip
    refine lv_tableIn (tgt := 111) hx hb dX3_apply_1 (by rw [zI_toInt (by omega)]; omega) (by rw [zI_toInt (by omega)]; omega) (by rw [zI_toInt (by omega), c_1_9]; rfl) (by decide) ?_
    refine lv_aload hx hb dX3_apply_111 (lv_at hl 4 rfl) ?_
    refine lv_iload_n hx hb dX3_apply_113 rfl (lv_at hl 2 rfl) ?_
    refine va_putN (D := D) (ci := 1) (v := .int (zI n)) (ty := .int) (C := RX1) (T := TX1) (N := 11) hx hb hts inc_X3_apply_1 tyX1 tyX1_ok nmX1 hown hK hP hD hS 2 rfl rfl 9 (by decide) ((NW.at hN0 31 rfl).use rfl) (fun _ h9 => h9) rfl (by decide +kernel) rfl rfl (Nat.le_of_ble_eq_true rfl) dX3_apply_114 (fun H locs hP hD hS => ?_)
    have hP : va_P D vwCl [(ta, .inr (3, [.ref yb, .int (zI ln), .int (zI ax), .int (zI ts), .int (zI tk), .int (zI vl), .int (zI dt), .int (zI ht)])), (yb, .inl (cI, 200, .inl (zia tx))), (pa, .inr (1, [.ref sa, .int (zI P), .int (zI TH), .ref ba, .int (zI B), .int (zI ra), .int (zI su), .int (zI vw), .int (zI no), .int (zI n), .int (zI ha)])), (sa, .inl (cI, 4, .inl (zia so))), (ba, .inl (cI, 2, .inl (zia bm)))] H := hP
    have hD : va_D A [(ta, .inr (3, [.ref yb, .int (zI ln), .int (zI ax), .int (zI ts), .int (zI tk), .int (zI vl), .int (zI dt), .int (zI ht)])), (yb, .inl (cI, 200, .inl (zia tx))), (pa, .inr (1, [.ref sa, .int (zI P), .int (zI TH), .ref ba, .int (zI B), .int (zI ra), .int (zI su), .int (zI vw), .int (zI no), .int (zI n), .int (zI ha)])), (sa, .inl (cI, 4, .inl (zia so))), (ba, .inl (cI, 2, .inl (zia bm)))] := hD
    refine lv_aload_n hx hb dX3_apply_117 rfl (lv_at hl 0 rfl) ?_
    refine lv_iconst (v := zI 1) hx hb dX3_apply_118 rfl ?_
    refine va_put (D := D) (ci := 3) (v := .int (zI 1)) (ty := .boolean) (C := RX3) (T := TX3) (N := 8) hx hb hts inc_X3_apply_3 tyX3 tyX3_ok nmX3 hown hK hP hD hS 0 rfl rfl 6 (by decide) (hts (.fieldLink RX3 24 "BedHouse$Text" "downTold" "Z") (by decide +kernel)) (fun _ h9 => h9) rfl (by decide +kernel) (rfl) (rfl) (Nat.le_of_ble_eq_true rfl) dX3_apply_119 (fun H locs hP hD hS => ?_)
    have hP : va_P D vwCl [(ta, .inr (3, [.ref yb, .int (zI ln), .int (zI ax), .int (zI ts), .int (zI tk), .int (zI vl), .int (zI 1), .int (zI ht)])), (yb, .inl (cI, 200, .inl (zia tx))), (pa, .inr (1, [.ref sa, .int (zI P), .int (zI TH), .ref ba, .int (zI B), .int (zI ra), .int (zI su), .int (zI vw), .int (zI no), .int (zI n), .int (zI ha)])), (sa, .inl (cI, 4, .inl (zia so))), (ba, .inl (cI, 2, .inl (zia bm)))] H := hP
    have hD : va_D A [(ta, .inr (3, [.ref yb, .int (zI ln), .int (zI ax), .int (zI ts), .int (zI tk), .int (zI vl), .int (zI 1), .int (zI ht)])), (yb, .inl (cI, 200, .inl (zia tx))), (pa, .inr (1, [.ref sa, .int (zI P), .int (zI TH), .ref ba, .int (zI B), .int (zI ra), .int (zI su), .int (zI vw), .int (zI no), .int (zI n), .int (zI ha)])), (sa, .inl (cI, 4, .inl (zia so))), (ba, .inl (cI, 2, .inl (zia bm)))] := hD
    refine lv_goto (tgt := 146) hx hb dX3_apply_122 (by decide) ?_
    exact wr_retv M dX3_apply_146 (u := (1, ht, so, bm, P, TH, B, ra, su, vw, no, n, ha)) (by unfold apA; rw [if_neg c_1_4, if_neg c_1_5, if_neg c_1_6, if_neg c_1_7, if_neg c_1_8, if_pos c_1_9]) hP hD hS
  by_cases c_1_10 : w = 10
  · skip
    refine lv_tableIn (tgt := 125) hx hb dX3_apply_1 (by rw [zI_toInt (by omega)]; omega) (by rw [zI_toInt (by omega)]; omega) (by rw [zI_toInt (by omega), c_1_10]; rfl) (by decide) ?_
    refine lv_aload hx hb dX3_apply_125 (lv_at hl 4 rfl) ?_
    refine lv_iload_n hx hb dX3_apply_127 rfl (lv_at hl 2 rfl) ?_
    refine va_putN (D := D) (ci := 1) (v := .int (zI n)) (ty := .int) (C := RX1) (T := TX1) (N := 11) hx hb hts inc_X3_apply_1 tyX1 tyX1_ok nmX1 hown hK hP hD hS 2 rfl rfl 10 (by decide) ((NW.at hN0 33 rfl).use rfl) (fun _ h9 => h9) rfl (by decide +kernel) rfl rfl (Nat.le_of_ble_eq_true rfl) dX3_apply_128 (fun H locs hP hD hS => ?_)
    have hP : va_P D vwCl [(ta, .inr (3, [.ref yb, .int (zI ln), .int (zI ax), .int (zI ts), .int (zI tk), .int (zI vl), .int (zI dt), .int (zI ht)])), (yb, .inl (cI, 200, .inl (zia tx))), (pa, .inr (1, [.ref sa, .int (zI P), .int (zI TH), .ref ba, .int (zI B), .int (zI ra), .int (zI su), .int (zI vw), .int (zI no), .int (zI dn), .int (zI n)])), (sa, .inl (cI, 4, .inl (zia so))), (ba, .inl (cI, 2, .inl (zia bm)))] H := hP
    have hD : va_D A [(ta, .inr (3, [.ref yb, .int (zI ln), .int (zI ax), .int (zI ts), .int (zI tk), .int (zI vl), .int (zI dt), .int (zI ht)])), (yb, .inl (cI, 200, .inl (zia tx))), (pa, .inr (1, [.ref sa, .int (zI P), .int (zI TH), .ref ba, .int (zI B), .int (zI ra), .int (zI su), .int (zI vw), .int (zI no), .int (zI dn), .int (zI n)])), (sa, .inl (cI, 4, .inl (zia so))), (ba, .inl (cI, 2, .inl (zia bm)))] := hD
    refine lv_aload_n hx hb dX3_apply_131 rfl (lv_at hl 0 rfl) ?_
    refine lv_iconst (v := zI 1) hx hb dX3_apply_132 rfl ?_
    refine va_put (D := D) (ci := 3) (v := .int (zI 1)) (ty := .boolean) (C := RX3) (T := TX3) (N := 8) hx hb hts inc_X3_apply_3 tyX3 tyX3_ok nmX3 hown hK hP hD hS 0 rfl rfl 7 (by decide) (hts (.fieldLink RX3 28 "BedHouse$Text" "handsTold" "Z") (by decide +kernel)) (fun _ h9 => h9) rfl (by decide +kernel) (rfl) (rfl) (Nat.le_of_ble_eq_true rfl) dX3_apply_133 (fun H locs hP hD hS => ?_)
    have hP : va_P D vwCl [(ta, .inr (3, [.ref yb, .int (zI ln), .int (zI ax), .int (zI ts), .int (zI tk), .int (zI vl), .int (zI dt), .int (zI 1)])), (yb, .inl (cI, 200, .inl (zia tx))), (pa, .inr (1, [.ref sa, .int (zI P), .int (zI TH), .ref ba, .int (zI B), .int (zI ra), .int (zI su), .int (zI vw), .int (zI no), .int (zI dn), .int (zI n)])), (sa, .inl (cI, 4, .inl (zia so))), (ba, .inl (cI, 2, .inl (zia bm)))] H := hP
    have hD : va_D A [(ta, .inr (3, [.ref yb, .int (zI ln), .int (zI ax), .int (zI ts), .int (zI tk), .int (zI vl), .int (zI dt), .int (zI 1)])), (yb, .inl (cI, 200, .inl (zia tx))), (pa, .inr (1, [.ref sa, .int (zI P), .int (zI TH), .ref ba, .int (zI B), .int (zI ra), .int (zI su), .int (zI vw), .int (zI no), .int (zI dn), .int (zI n)])), (sa, .inl (cI, 4, .inl (zia so))), (ba, .inl (cI, 2, .inl (zia bm)))] := hD
    refine lv_goto (tgt := 146) hx hb dX3_apply_136 (by decide) ?_
    exact wr_retv M dX3_apply_146 (u := (dt, 1, so, bm, P, TH, B, ra, su, vw, no, dn, n)) (by unfold apA; rw [if_neg c_1_4, if_neg c_1_5, if_neg c_1_6, if_neg c_1_7, if_neg c_1_8, if_neg c_1_9, if_pos c_1_10]) hP hD hS
  refine lv_tableOut (tgt := 139) hx hb dX3_apply_1 (by rw [zI_toInt (by omega)]; omega) (by decide) ?_
  refine lv_aload hx hb dX3_apply_139 (lv_at hl 4 rfl) ?_
  refine lv_iload_n hx hb dX3_apply_141 rfl (lv_at hl 1 rfl) ?_
  refine lv_iload_n hx hb dX3_apply_142 rfl (lv_at hl 2 rfl) ?_
  refine wc_VNv (As := [.int (zI w), .int (zI n)]) (rest := []) (wr := [(ta, .inr (3, [.ref yb, .int (zI ln), .int (zI ax), .int (zI ts), .int (zI tk), .int (zI vl), .int (zI dt), .int (zI ht)])), (yb, .inl (cI, 200, .inl (zia tx)))]) (ws' := (fun _u : Unit => [(ta, .inr (3, [.ref yb, .int (zI ln), .int (zI ax), .int (zI ts), .int (zI tk), .int (zI vl), .int (zI dt), .int (zI ht)])), (yb, .inl (cI, 200, .inl (zia tx))), (pa, .inr (1, [.ref sa, .int (zI (P + 1)), .int (zI (TH + n * un P)), .ref ba, .int (zI B), .int (zI ra), .int (zI su), .int (zI vw), .int (zI no), .int (zI dn), .int (zI ha)])), (sa, .inl (cI, 4, .inl (zia (zup so P w)))), (ba, .inl (cI, 2, .inl (zia bm)))])) M (c_X1_addPanel l D cB cI cZ cM _ pa sa ba so bm P TH B ra su vw no dn ha w n (by first | assumption | omega)) gX3_apply_X1_addPanel_n104 rfl (NW.at hN0 46 rfl) (by decide +kernel) (by decide +kernel) (by decide +kernel) hd_X1_addPanel ⟨Nat.le_of_ble_eq_true rfl, Nat.le_of_ble_eq_true rfl⟩ hK hP hD hS hA [2, 3, 4] [0, 1] [0, 1, 2, 3, 4] rfl rfl (by decide) (by decide) (by decide) (fun _ => rfl) 2 1 rfl rfl rfl hl.1 rfl rfl (Nat.le_of_ble_eq_true rfl) dX3_apply_143 ⟨Nat.le_of_ble_eq_true rfl, Nat.le_of_ble_eq_true rfl⟩ (by decide) (fun _u H locs h_143 hP hD hS => ?_)
  exact wr_retv M dX3_apply_146 (u := (dt, ht, zup so P w, bm, P + 1, TH + n * un P, B, ra, su, vw, no, dn, ha)) (by unfold apA; rw [if_neg c_1_4, if_neg c_1_5, if_neg c_1_6, if_neg c_1_7, if_neg c_1_8, if_neg c_1_9, if_neg c_1_10]) hP hD hS
