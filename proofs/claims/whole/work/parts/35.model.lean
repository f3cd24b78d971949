theorem inc_X5_go_5 : ∀ w ∈ wsX50, w ∈ wsX5_go := by decide +kernel
theorem inc_X5_none_5 : ∀ w ∈ wsX50, w ∈ wsX5_none := by decide +kernel
theorem inc_X5_reach_5 : ∀ w ∈ wsX50, w ∈ wsX5_reach := by decide +kernel
theorem hd_X5_reach : yX5_reach.cls ≠ "java/lang/invoke/MethodHandle" ∧ yX5_reach.cls ≠ "java/lang/invoke/VarHandle" ∧ (parseMethodDescriptor yX5_reach.desc).map (fun d => d.parameters.length) = some 2 := by decide +kernel
set_option maxHeartbeats 4000000 in
set_option maxRecDepth 100000 in
theorem c_X5_reach (l : Launch) (D : va_G) (cB cI cZ cM : ClassId) (Hp : Heap) (o0 : Nat) (o1 : Nat) (o2 : Nat) (o3 : Nat) (o4 : Nat) (o5 : Nat) (o6 : Nat) (o7 : Nat) (o8 : Nat) (o9 : Nat) (oz : Nat) (tr : Int64) (td : Int) (g1 : Int) (g2 : Int) (g3 : Int) (g4 : Int) (g5 : Int) (g6 : Int) (g7 : Int) (f2 : Int → Int) (f8 : Int → Int) (f9 : Int → Int) (h : Int) (n : Int) (hPm : 0 ≤ f2 0 ∧ f2 0 ≤ 4) (hq : qkM (f2 0) (f9, g7, f8)) (hh : 0 ≤ h ∧ h < pw9 (f2 0)) (hn : 0 ≤ n ∧ n ≤ g7) : cWv l yX5_reach wsX5_reach (rmW 0 0 0 0) D (TYS cB cI cZ cM) [.ref o0, .int (zI h), .int (zI n)] [(o0, .inr (5, [.long tr, .ref o1, .int (zI td), .ref o2, .ref o3, .ref o4, .ref o5, .int (zI g1), .int (zI g2), .int (zI g3), .int (zI g4), .int (zI g5), .int (zI g6), .ref o6, .ref o7, .ref o8, .ref o9, .int (zI g7), .ref oz])), (o8, .inl (cI, 6561, .inl (zia f8))), (o9, .inl (cI, 6561, .inl (zia f9)))] Hp (fun (u : BQ) => u = rcM h n (f9, g7, f8)) (fun (u : BQ) => [(o0, .inr (5, [.long tr, .ref o1, .int (zI td), .ref o2, .ref o3, .ref o4, .ref o5, .int (zI g1), .int (zI g2), .int (zI g3), .int (zI g4), .int (zI g5), .int (zI g6), .ref o6, .ref o7, .ref o8, .ref o9, .int (zI u.2.1), .ref oz])), (o8, .inl (cI, 6561, .inl (zia u.2.2))), (o9, .inl (cI, 6561, .inl (zia u.1)))]) 0 0 := by
  refine wr_startv (by decide) rfl (Nat.le_of_ble_eq_true rfl) ?_
  intro pg ev sx mm args below meth cd ls A M hP hD hS hA hK hl
  obtain ⟨hx, hb, hr, hml, hown, hts, hlk, hN0⟩ := id M
  have hl : lv_has ls 3 [(0, .ref o0), (1, .int (zI h)), (2, .int (zI n))] := hl
  refine W.widen (k := 0) (n := 0) (Nat.zero_le _) (Nat.zero_le _) ?_
  have h9r := pw9_rng (n := f2 0) (by omega)
  have hm5 := qkM_m hq
  dsimp only at hm5
  have h85 := hq.2.2 h hh.1 (by omega)
  dsimp only at h85
  refine lv_aload_n hx hb dX5_reach_0 rfl (lv_at hl 0 rfl) ?_
  refine va_get (D := D) (ci := 5) (C := RX5) (T := TX5) (N := 19) hx hb hts inc_X5_reach_5 hown hK hP 0 rfl rfl 15 (by decide) (hts (.fieldLink RX5 33 "BedHouseModel" "off" "[I") (by decide +kernel)) (fun _ h9 => h9) rfl dX5_reach_1 ?_
  refine lv_iload_n hx hb dX5_reach_4 rfl (lv_at hl 1 rfl) ?_
  refine z_iald hx hb hK hP 1 1 rfl rfl (Nat.le_of_ble_eq_true rfl) dX5_reach_5 (by omega) ?_
  refine lv_sipush (v := zI 9999) hx hb dX5_reach_6 (by decide) ?_
  refine z_icmp_ne (tgt := 39) hx hb dX5_reach_9 (by decide) (by omega) (fun c_9 => ?_) (fun c_9 => ?_)
  · skip
    exact wr_retv M dX5_reach_39 (u := (f9, g7, f8)) (by unfold rcM; rw [if_neg c_9]) hP hD hS
  have hlt5 := qkM_lt hq (x := h) (by omega) c_9
  dsimp only at hlt5
  refine lv_aload_n hx hb dX5_reach_12 rfl (lv_at hl 0 rfl) ?_
  refine va_get (D := D) (ci := 5) (C := RX5) (T := TX5) (N := 19) hx hb hts inc_X5_reach_5 hown hK hP 0 rfl rfl 15 (by decide) (hts (.fieldLink RX5 33 "BedHouseModel" "off" "[I") (by decide +kernel)) (fun _ h9 => h9) rfl dX5_reach_13 ?_
  refine lv_iload_n hx hb dX5_reach_16 rfl (lv_at hl 1 rfl) ?_
  refine lv_iload_n hx hb dX5_reach_17 rfl (lv_at hl 2 rfl) ?_
  refine z_iast (ws' := [(o0, .inr (5, [.long tr, .ref o1, .int (zI td), .ref o2, .ref o3, .ref o4, .ref o5, .int (zI g1), .int (zI g2), .int (zI g3), .int (zI g4), .int (zI g5), .int (zI g6), .ref o6, .ref o7, .ref o8, .ref o9, .int (zI g7), .ref oz])), (o8, .inl (cI, 6561, .inl (zia (zup f8 h n)))), (o9, .inl (cI, 6561, .inl (zia f9)))]) hx hb hK hP hD hS 1 1 rfl rfl (Nat.le_of_ble_eq_true rfl) dX5_reach_18 rfl (by omega) (fun H locs hP hD hS => ?_)
  refine lv_aload_n hx hb dX5_reach_19 rfl (lv_at hl 0 rfl) ?_
  refine va_get (D := D) (ci := 5) (C := RX5) (T := TX5) (N := 19) hx hb hts inc_X5_reach_5 hown hK hP 0 rfl rfl 16 (by decide) (hts (.fieldLink RX5 36 "BedHouseModel" "reached" "[I") (by decide +kernel)) (fun _ h9 => h9) rfl dX5_reach_20 ?_
  refine lv_aload_n hx hb dX5_reach_23 rfl (lv_at hl 0 rfl) ?_
  refine va_get (D := D) (ci := 5) (C := RX5) (T := TX5) (N := 19) hx hb hts inc_X5_reach_5 hown hK hP 0 rfl rfl 17 (by decide) (hts (.fieldLink RX5 152 "BedHouseModel" "reachedMany" "I") (by decide +kernel)) (fun _ h9 => h9) rfl dX5_reach_24 ?_
  refine lv_iload_n hx hb dX5_reach_27 rfl (lv_at hl 1 rfl) ?_
  refine z_iast (ws' := [(o0, .inr (5, [.long tr, .ref o1, .int (zI td), .ref o2, .ref o3, .ref o4, .ref o5, .int (zI g1), .int (zI g2), .int (zI g3), .int (zI g4), .int (zI g5), .int (zI g6), .ref o6, .ref o7, .ref o8, .ref o9, .int (zI g7), .ref oz])), (o8, .inl (cI, 6561, .inl (zia (zup f8 h n)))), (o9, .inl (cI, 6561, .inl (zia (zup f9 g7 h))))]) hx hb hK hP hD hS 2 1 rfl rfl (Nat.le_of_ble_eq_true rfl) dX5_reach_28 rfl (by omega) (fun H locs hP hD hS => ?_)
  refine lv_aload_n hx hb dX5_reach_29 rfl (lv_at hl 0 rfl) ?_
  refine lv_dup hx hb dX5_reach_30 rfl ?_
  refine va_get (D := D) (ci := 5) (C := RX5) (T := TX5) (N := 19) hx hb hts inc_X5_reach_5 hown hK hP 0 rfl rfl 17 (by decide) (hts (.fieldLink RX5 152 "BedHouseModel" "reachedMany" "I") (by decide +kernel)) (fun _ h9 => h9) rfl dX5_reach_31 ?_
  refine lv_iconst (v := zI 1) hx hb dX5_reach_34 rfl ?_
  refine z_iadd hx hb dX5_reach_35 ?_
  refine va_put (D := D) (ci := 5) (v := .int (zI (g7 + 1))) (ty := .int) (C := RX5) (T := TX5) (N := 19) hx hb hts inc_X5_reach_5 tyX5 tyX5_ok nmX5 hown hK hP hD hS 0 rfl rfl 17 (by decide) (hts (.fieldLink RX5 152 "BedHouseModel" "reachedMany" "I") (by decide +kernel)) (fun _ h9 => h9) rfl (by decide +kernel) rfl rfl (Nat.le_of_ble_eq_true rfl) dX5_reach_36 (fun H locs hP hD hS => ?_)
  have hP : va_P D vwCl [(o0, .inr (5, [.long tr, .ref o1, .int (zI td), .ref o2, .ref o3, .ref o4, .ref o5, .int (zI g1), .int (zI g2), .int (zI g3), .int (zI g4), .int (zI g5), .int (zI g6), .ref o6, .ref o7, .ref o8, .ref o9, .int (zI (g7 + 1)), .ref oz])), (o8, .inl (cI, 6561, .inl (zia (zup f8 h n)))), (o9, .inl (cI, 6561, .inl (zia (zup f9 g7 h))))] H := hP
  have hD : va_D A [(o0, .inr (5, [.long tr, .ref o1, .int (zI td), .ref o2, .ref o3, .ref o4, .ref o5, .int (zI g1), .int (zI g2), .int (zI g3), .int (zI g4), .int (zI g5), .int (zI g6), .ref o6, .ref o7, .ref o8, .ref o9, .int (zI (g7 + 1)), .ref oz])), (o8, .inl (cI, 6561, .inl (zia (zup f8 h n)))), (o9, .inl (cI, 6561, .inl (zia (zup f9 g7 h))))] := hD
  exact wr_retv M dX5_reach_39 (u := (zup f9 g7 h, g7 + 1, zup f8 h n)) (by unfold rcM; rw [if_pos c_9]) hP hD hS
set_option maxHeartbeats 4000000 in
set_option maxRecDepth 100000 in
theorem lp_X5_none_2 (l : Launch) (D : va_G) (cB cI cZ cM : ClassId) (o0 : Nat) (o1 : Nat) (o2 : Nat) (o3 : Nat) (o4 : Nat) (o5 : Nat) (o6 : Nat) (o7 : Nat) (o8 : Nat) (o9 : Nat) (oz : Nat) (tr : Int64) (td : Int) (g1 : Int) (g2 : Int) (g3 : Int) (g4 : Int) (g5 : Int) (g6 : Int) (g7 : Int) (f8 : Int → Int)  {pg : Program} {ev : Env} {sx : State} {mm : MethodId} {args : Array Value} {below : List Frame} {meth : Method} {cd : Code} (M : MX pg sx mm args meth cd cX5_none 2 none RX5 wsX5_none) (hK : va_K D vwCl (TYS cB cI cZ cM) sx) {A : Nat → Prop} (hA : ∀ q : Nat, sx.heap.size ≤ q → A q) : ∀ (N : Nat) (n : Nat) (i : Int) (F : Int → Int), (n < N) → (0 ≤ i ∧ i + n = 6561) → (∀ j : Int, 0 ≤ j → j < i → F j = 9999) → ∀ (H : Heap) (locs : List Loc), va_P D vwCl [(o0, .inr (5, [.long tr, .ref o1, .int (zI td), .ref o2, .ref o3, .ref o4, .ref o5, .int (zI g1), .int (zI g2), .int (zI g3), .int (zI g4), .int (zI g5), .int (zI g6), .ref o6, .ref o7, .ref o8, .ref o9, .int (zI g7), .ref oz])), (o8, .inl (cI, 6561, .inl (zia F)))] H → va_D A [(o0, .inr (5, [.long tr, .ref o1, .int (zI td), .ref o2, .ref o3, .ref o4, .ref o5, .int (zI g1), .int (zI g2), .int (zI g3), .int (zI g4), .int (zI g5), .int (zI g6), .ref o6, .ref o7, .ref o8, .ref o9, .int (zI g7), .ref oz])), (o8, .inl (cI, 6561, .inl (zia F)))] → va_S A sx.heap H locs → ∀ ls : Array Slot, lv_has ls 2 [(0, .ref o0), (1, .int (zI i))] → W pg l ev (rmW 0 0 0 0) sx mm args below meth cd H locs 0 0 (QWv below args sx A D (fun (_u : Unit) => True) (fun (_u : Unit) => [(o0, .inr (5, [.long tr, .ref o1, .int (zI td), .ref o2, .ref o3, .ref o4, .ref o5, .int (zI g1), .int (zI g2), .int (zI g3), .int (zI g4), .int (zI g5), .int (zI g6), .ref o6, .ref o7, .ref o8, .ref o9, .int (zI 0), .ref oz])), (o8, .inl (cI, 6561, .inl (zia (fun _ => 9999))))]) 0 0) (F0 mm 2 ls []) := by
  intro N
  induction N with
  | zero => intro n i F hN; exact absurd hN (Nat.not_lt_zero _)
  | succ N ih =>
    intro n i F hN hi hz H locs hP hD hS ls hl
    obtain ⟨hx, hb, hr, hml, hown, hts, hlk, hN0⟩ := id M
    refine lv_iload_n hx hb dX5_none_2 rfl (lv_at hl 1 rfl) ?_
    refine lv_sipush (v := zI 6561) hx hb dX5_none_3 (by decide) ?_
    refine z_icmp_ge (tgt := 24) hx hb dX5_none_6 (by decide) (by omega) (fun c_6 => ?_) (fun c_6 => ?_)
    · skip
      obtain rfl : n = 0 := by omega
      have hP := zP_arr (G := (fun _ => 9999)) hP 1 rfl (fun j h1 h2 => hz j h1 (by omega))
      have hD := hD.set (p := 1) (e := .inl (cI, 6561, .inl (zia (fun _ => 9999)))) rfl
      have hP : va_P D vwCl [(o0, .inr (5, [.long tr, .ref o1, .int (zI td), .ref o2, .ref o3, .ref o4, .ref o5, .int (zI g1), .int (zI g2), .int (zI g3), .int (zI g4), .int (zI g5), .int (zI g6), .ref o6, .ref o7, .ref o8, .ref o9, .int (zI g7), .ref oz])), (o8, .inl (cI, 6561, .inl (zia (fun _ => 9999))))] _ := hP
      have hD : va_D A [(o0, .inr (5, [.long tr, .ref o1, .int (zI td), .ref o2, .ref o3, .ref o4, .ref o5, .int (zI g1), .int (zI g2), .int (zI g3), .int (zI g4), .int (zI g5), .int (zI g6), .ref o6, .ref o7, .ref o8, .ref o9, .int (zI g7), .ref oz])), (o8, .inl (cI, 6561, .inl (zia (fun _ => 9999))))] := hD
      refine lv_aload_n hx hb dX5_none_24 rfl (lv_at hl 0 rfl) ?_
      refine lv_iconst (v := zI 0) hx hb dX5_none_25 rfl ?_
      refine va_put (D := D) (ci := 5) (v := .int (zI 0)) (ty := .int) (C := RX5) (T := TX5) (N := 19) hx hb hts inc_X5_none_5 tyX5 tyX5_ok nmX5 hown hK hP hD hS 0 rfl rfl 17 (by decide) (hts (.fieldLink RX5 152 "BedHouseModel" "reachedMany" "I") (by decide +kernel)) (fun _ h9 => h9) rfl (by decide +kernel) rfl rfl (Nat.le_of_ble_eq_true rfl) dX5_none_26 (fun H locs hP hD hS => ?_)
      have hP : va_P D vwCl [(o0, .inr (5, [.long tr, .ref o1, .int (zI td), .ref o2, .ref o3, .ref o4, .ref o5, .int (zI g1), .int (zI g2), .int (zI g3), .int (zI g4), .int (zI g5), .int (zI g6), .ref o6, .ref o7, .ref o8, .ref o9, .int (zI 0), .ref oz])), (o8, .inl (cI, 6561, .inl (zia (fun _ => 9999))))] H := hP
      have hD : va_D A [(o0, .inr (5, [.long tr, .ref o1, .int (zI td), .ref o2, .ref o3, .ref o4, .ref o5, .int (zI g1), .int (zI g2), .int (zI g3), .int (zI g4), .int (zI g5), .int (zI g6), .ref o6, .ref o7, .ref o8, .ref o9, .int (zI 0), .ref oz])), (o8, .inl (cI, 6561, .inl (zia (fun _ => 9999))))] := hD
      exact wr_retv M dX5_none_29 (u := ()) (trivial) hP hD hS
    obtain ⟨n, rfl⟩ : ∃ j : Nat, n = j + 1 := ⟨n - 1, by omega⟩
    refine lv_aload_n hx hb dX5_none_9 rfl (lv_at hl 0 rfl) ?_
    refine va_get (D := D) (ci := 5) (C := RX5) (T := TX5) (N := 19) hx hb hts inc_X5_none_5 hown hK hP 0 rfl rfl 15 (by decide) (hts (.fieldLink RX5 33 "BedHouseModel" "off" "[I") (by decide +kernel)) (fun _ h9 => h9) rfl dX5_none_10 ?_
    refine lv_iload_n hx hb dX5_none_13 rfl (lv_at hl 1 rfl) ?_
    refine lv_sipush (v := zI 9999) hx hb dX5_none_14 (by decide) ?_
    refine z_iast (ws' := [(o0, .inr (5, [.long tr, .ref o1, .int (zI td), .ref o2, .ref o3, .ref o4, .ref o5, .int (zI g1), .int (zI g2), .int (zI g3), .int (zI g4), .int (zI g5), .int (zI g6), .ref o6, .ref o7, .ref o8, .ref o9, .int (zI g7), .ref oz])), (o8, .inl (cI, 6561, .inl (zia (zup F i 9999))))]) hx hb hK hP hD hS 1 1 rfl rfl (Nat.le_of_ble_eq_true rfl) dX5_none_17 rfl (by omega) (fun H locs hP hD hS => ?_)
    refine z_iinc (a := i) (k := 1) (lv' := [(1, .int (zI (i + 1))), (0, .ref o0)]) hx hb dX5_none_18 hl rfl (by decide) rfl (fun ls hl => ?_)
    refine lv_goto (tgt := 2) hx hb dX5_none_21 (by decide) ?_
    exact ih n (i + 1) (zup F i 9999) (by omega) (by omega) (by exact fun j h1 h2 => by by_cases e : j = i; rw [e, zup_s]; rw [zup_n F e]; exact hz j h1 (by omega)) _ _ hP hD hS _ (lv_sub hl [1, 0] rfl)
set_option maxHeartbeats 4000000 in
set_option maxRecDepth 100000 in
theorem c_X5_none (l : Launch) (D : va_G) (cB cI cZ cM : ClassId) (Hp : Heap) (o0 : Nat) (o1 : Nat) (o2 : Nat) (o3 : Nat) (o4 : Nat) (o5 : Nat) (o6 : Nat) (o7 : Nat) (o8 : Nat) (o9 : Nat) (oz : Nat) (tr : Int64) (td : Int) (g1 : Int) (g2 : Int) (g3 : Int) (g4 : Int) (g5 : Int) (g6 : Int) (g7 : Int) (f8 : Int → Int)  : cWv l yX5_none wsX5_none (rmW 0 0 0 0) D (TYS cB cI cZ cM) [.ref o0] [(o0, .inr (5, [.long tr, .ref o1, .int (zI td), .ref o2, .ref o3, .ref o4, .ref o5, .int (zI g1), .int (zI g2), .int (zI g3), .int (zI g4), .int (zI g5), .int (zI g6), .ref o6, .ref o7, .ref o8, .ref o9, .int (zI g7), .ref oz])), (o8, .inl (cI, 6561, .inl (zia f8)))] Hp (fun (_u : Unit) => True) (fun (_u : Unit) => [(o0, .inr (5, [.long tr, .ref o1, .int (zI td), .ref o2, .ref o3, .ref o4, .ref o5, .int (zI g1), .int (zI g2), .int (zI g3), .int (zI g4), .int (zI g5), .int (zI g6), .ref o6, .ref o7, .ref o8, .ref o9, .int (zI 0), .ref oz])), (o8, .inl (cI, 6561, .inl (zia (fun _ => 9999))))]) 0 0 := by
  refine wr_startv (by decide) rfl (Nat.le_of_ble_eq_true rfl) ?_
  intro pg ev sx mm args below meth cd ls A M hP hD hS hA hK hl
  obtain ⟨hx, hb, hr, hml, hown, hts, hlk, hN0⟩ := id M
  have hl : lv_has ls 2 [(0, .ref o0)] := hl
  refine W.widen (k := 0) (n := 0) (Nat.zero_le _) (Nat.zero_le _) ?_
  refine lv_iconst (v := zI 0) hx hb dX5_none_0 rfl ?_
  refine lv_istore_n (lv' := [(1, .int (zI 0)), (0, .ref o0)]) hx hb dX5_none_1 rfl hl (by decide) rfl (fun ls hl => ?_)
  exact lp_X5_none_2 l D cB cI cZ cM o0 o1 o2 o3 o4 o5 o6 o7 o8 o9 oz tr td g1 g2 g3 g4 g5 g6 g7 f8  M hK hA (6561 + 1) 6561 0 f8 (Nat.lt_succ_self _) (by omega) (by exact fun j h1 h2 => by omega) _ _ hP hD hS _ (lv_sub hl [1, 0] rfl)
set_option maxHeartbeats 4000000 in
set_option maxRecDepth 100000 in
theorem lp_X5_go_63 (l : Launch) (D : va_G) (cB cI cZ cM : ClassId) (o0 : Nat) (o1 : Nat) (o2 : Nat) (o3 : Nat) (o4 : Nat) (o5 : Nat) (o6 : Nat) (o7 : Nat) (o8 : Nat) (o9 : Nat) (oz : Nat) (tr : Int64) (td : Int) (g1 : Int) (g2 : Int) (g3 : Int) (g4 : Int) (g5 : Int) (g6 : Int) (g7 : Int) (f2 : Int → Int) (f3 : Int → Int) (f5 : Int → Int) (f8 : Int → Int) (f9 : Int → Int) (most : Int) (hp2 : okR f2 f3 f5) (hq : qkM (f2 0) (f9, g7, f8)) (hmo : -100 ≤ most ∧ most ≤ 9999) {pg : Program} {ev : Env} {sx : State} {mm : MethodId} {args : Array Value} {below : List Frame} {meth : Method} {cd : Code} (M : MX pg sx mm args meth cd cX5_go 8 none RX5 wsX5_go) (hK : va_K D vwCl (TYS cB cI cZ cM) sx) {A : Nat → Prop} (hA : ∀ q : Nat, sx.heap.size ≤ q → A q) : ∀ (N : Nat) (j : Nat) (k : Int) (p : Int) (S : BQ) (n1 : Nat) (i6 : Int) (h6 : Int) (a : Int), (j < N) → (0 ≤ k ∧ k + j = 9) → (0 ≤ p ∧ p + (n1 + 1 : Nat) = f2 0) → (qkM (f2 0) S) → ((0 ≤ i6 ∧ i6 < S.2.1) ∧ h6 = S.1 i6) → ((a = 1 ∧ slI (f2 0) h6 p = 8) ∨ (a = 0 ∧ slI (f2 0) h6 p ≠ 8)) → (gfM f2 f3 f5 most (6561 - i6).toNat (i6 + 1) (pfM f2 f3 f5 most h6 n1 (p + 1) (kfM f2 f3 f5 h6 p j k S)) = gfM f2 f3 f5 most 6562 0 (f9, g7, f8)) → (k_20 : ∀ (n0 : Nat) (p : Int) (S : BQ) (i : Int) (h : Int), (n0 = n1 ∧ i = i6) → (0 ≤ p ∧ p + n0 = f2 0) → (qkM (f2 0) S) → ((0 ≤ i ∧ i < S.2.1) ∧ h = S.1 i) → (gfM f2 f3 f5 most (6561 - i).toNat (i + 1) (pfM f2 f3 f5 most h n0 p S) = gfM f2 f3 f5 most 6562 0 (f9, g7, f8)) → ∀ (H : Heap) (locs : List Loc), va_P D vwCl [(o0, .inr (5, [.long tr, .ref o1, .int (zI td), .ref o2, .ref o3, .ref o4, .ref o5, .int (zI g1), .int (zI g2), .int (zI g3), .int (zI g4), .int (zI g5), .int (zI g6), .ref o6, .ref o7, .ref o8, .ref o9, .int (zI S.2.1), .ref oz])), (o2, .inl (cI, 16, .inl (zia f2))), (o3, .inl (cI, 8, .inl (zia f3))), (o5, .inl (cI, 4, .inl (zia f5))), (o8, .inl (cI, 6561, .inl (zia S.2.2))), (o9, .inl (cI, 6561, .inl (zia S.1)))] H → va_D A [(o0, .inr (5, [.long tr, .ref o1, .int (zI td), .ref o2, .ref o3, .ref o4, .ref o5, .int (zI g1), .int (zI g2), .int (zI g3), .int (zI g4), .int (zI g5), .int (zI g6), .ref o6, .ref o7, .ref o8, .ref o9, .int (zI S.2.1), .ref oz])), (o2, .inl (cI, 16, .inl (zia f2))), (o3, .inl (cI, 8, .inl (zia f3))), (o5, .inl (cI, 4, .inl (zia f5))), (o8, .inl (cI, 6561, .inl (zia S.2.2))), (o9, .inl (cI, 6561, .inl (zia S.1)))] → va_S A sx.heap H locs → ∀ ls : Array Slot, lv_has ls 8 [(0, .ref o0), (1, .int (zI most)), (2, .int (zI i)), (3, .int (zI h)), (4, .int (zI p))] → W pg l ev (rmW 4 0 0 94) sx mm args below meth cd H locs 0 0 (QWv below args sx A D (fun (u : BQ) => u = gfM f2 f3 f5 most 6562 0 (f9, g7, f8)) (fun (u : BQ) => [(o0, .inr (5, [.long tr, .ref o1, .int (zI td), .ref o2, .ref o3, .ref o4, .ref o5, .int (zI g1), .int (zI g2), .int (zI g3), .int (zI g4), .int (zI g5), .int (zI g6), .ref o6, .ref o7, .ref o8, .ref o9, .int (zI u.2.1), .ref oz])), (o2, .inl (cI, 16, .inl (zia f2))), (o3, .inl (cI, 8, .inl (zia f3))), (o5, .inl (cI, 4, .inl (zia f5))), (o8, .inl (cI, 6561, .inl (zia u.2.2))), (o9, .inl (cI, 6561, .inl (zia u.1)))]) 0 0) (F0 mm 20 ls [])) → ∀ (H : Heap) (locs : List Loc), va_P D vwCl [(o0, .inr (5, [.long tr, .ref o1, .int (zI td), .ref o2, .ref o3, .ref o4, .ref o5, .int (zI g1), .int (zI g2), .int (zI g3), .int (zI g4), .int (zI g5), .int (zI g6), .ref o6, .ref o7, .ref o8, .ref o9, .int (zI S.2.1), .ref oz])), (o2, .inl (cI, 16, .inl (zia f2))), (o3, .inl (cI, 8, .inl (zia f3))), (o5, .inl (cI, 4, .inl (zia f5))), (o8, .inl (cI, 6561, .inl (zia S.2.2))), (o9, .inl (cI, 6561, .inl (zia S.1)))] H → va_D A [(o0, .inr (5, [.long tr, .ref o1, .int (zI td), .ref o2, .ref o3, .ref o4, .ref o5, .int (zI g1), .int (zI g2), .int (zI g3), .int (zI g4), .int (zI g5), .int (zI g6), .ref o6, .ref o7, .ref o8, .ref o9, .int (zI S.2.1), .ref oz])), (o2, .inl (cI, 16, .inl (zia f2))), (o3, .inl (cI, 8, .inl (zia f3))), (o5, .inl (cI, 4, .inl (zia f5))), (o8, .inl (cI, 6561, .inl (zia S.2.2))), (o9, .inl (cI, 6561, .inl (zia S.1)))] → va_S A sx.heap H locs → ∀ ls : Array Slot, lv_has ls 8 [(0, .ref o0), (1, .int (zI most)), (2, .int (zI i6)), (3, .int (zI h6)), (4, .int (zI p)), (5, .int (zI a)), (6, .int (zI k))] → W pg l ev (rmW 4 0 0 94) sx mm args below meth cd H locs 0 0 (QWv below args sx A D (fun (u : BQ) => u = gfM f2 f3 f5 most 6562 0 (f9, g7, f8)) (fun (u : BQ) => [(o0, .inr (5, [.long tr, .ref o1, .int (zI td), .ref o2, .ref o3, .ref o4, .ref o5, .int (zI g1), .int (zI g2), .int (zI g3), .int (zI g4), .int (zI g5), .int (zI g6), .ref o6, .ref o7, .ref o8, .ref o9, .int (zI u.2.1), .ref oz])), (o2, .inl (cI, 16, .inl (zia f2))), (o3, .inl (cI, 8, .inl (zia f3))), (o5, .inl (cI, 4, .inl (zia f5))), (o8, .inl (cI, 6561, .inl (zia u.2.2))), (o9, .inl (cI, 6561, .inl (zia u.1)))]) 0 0) (F0 mm 63 ls []) := by
  intro N
  induction N with
  | zero => intro j k p S n1 i6 h6 a hN; exact absurd hN (Nat.not_lt_zero _)
  | succ N ih =>
    intro j k p S n1 i6 h6 a hN hk hp hs hi hl5 hv k_20 H locs hP hD hS ls hl
    obtain ⟨hx, hb, hr, hml, hown, hts, hlk, hN0⟩ := id M
    obtain ⟨hPm, hB1, hra, hsu, hvw, hno, hdn6, hha7, hso, hbm⟩ := id hp2
    have h9r := pw9_rng (n := f2 0) (by omega)
    have hm6 := qkM_m hs
    obtain ⟨b1, b2, b3, b4⟩ := hs.2.1 i6 hi.1.1 hi.1.2
    rw [← hi.2] at b1 b2 b3 b4
    have hm7 := hi.1.2
    refine lv_iload hx hb dX5_go_63 (lv_at hl 6 rfl) ?_
    refine lv_bipush (v := zI 8) hx hb dX5_go_65 (by decide) ?_
    refine z_icmp_gt (tgt := 164) hx hb dX5_go_67 (by decide) (by omega) (fun c_67 => ?_) (fun c_67 => ?_)
    · skip
      obtain rfl : j = 0 := by omega
      refine z_iinc (a := p) (k := 4) (lv' := [(4, .int (zI (p + 1))), (0, .ref o0), (1, .int (zI most)), (2, .int (zI i6)), (3, .int (zI h6)), (5, .int (zI a)), (6, .int (zI k))]) hx hb dX5_go_164 hl rfl (by decide) rfl (fun ls hl => ?_)
      refine lv_goto (tgt := 20) hx hb dX5_go_167 (by decide) ?_
      exact k_20 n1 (p + 1) S i6 h6 ⟨rfl, rfl⟩ (by omega) (by assumption) (by assumption) (by rw [← hv, kfM]) _ _ hP hD hS _ (lv_sub hl [1, 2, 3, 4, 0] rfl)
    obtain ⟨j, rfl⟩ : ∃ x : Nat, j = x + 1 := ⟨j - 1, by omega⟩
    refine lv_iload hx hb dX5_go_70 (lv_at hl 5 rfl) ?_
    refine z_if_eq (tgt := 102) hx hb dX5_go_72 (by decide) (by omega) (fun c_72 => ?_) (fun c_72 => ?_)
    · skip
      have c5 : slI (f2 0) h6 p ≠ 8 := by omega
      refine lv_iload hx hb dX5_go_102 (lv_at hl 6 rfl) ?_
      refine lv_bipush (v := zI 8) hx hb dX5_go_104 (by decide) ?_
      refine z_icmp_ne (tgt := 113) hx hb dX5_go_106 (by decide) (by omega) (fun c_106 => ?_) (fun c_106 => ?_)
      · skip
        refine lv_iconst (v := zI 0) hx hb dX5_go_113 rfl ?_
        refine lv_istore (lv' := [(7, .int (zI 0)), (0, .ref o0), (1, .int (zI most)), (2, .int (zI i6)), (3, .int (zI h6)), (4, .int (zI p)), (5, .int (zI a)), (6, .int (zI k))]) hx hb dX5_go_114 hl (by decide) rfl (fun ls hl => ?_)
        refine lv_iload hx hb dX5_go_116 (lv_at hl 0 rfl) ?_
        refine z_if_eq (tgt := 158) hx hb dX5_go_118 (by decide) (by omega) (fun c_118 => ?_) (fun c_118 => ?_)
        · skip
          have hno : ¬ moM (f2 0) h6 p k := fun q => c_106 ((moM_s c5).mp q)
          refine z_iinc (a := k) (k := 7) (lv' := [(6, .int (zI (k + 1))), (7, .int (zI 0)), (0, .ref o0), (1, .int (zI most)), (2, .int (zI i6)), (3, .int (zI h6)), (4, .int (zI p)), (5, .int (zI a))]) hx hb dX5_go_158 hl rfl (by decide) rfl (fun ls hl => ?_)
          refine lv_goto (tgt := 63) hx hb dX5_go_161 (by decide) ?_
          exact ih j (k + 1) p S n1 i6 h6 a (by omega) (by omega) (by omega) (by assumption) (by assumption) (by assumption) (by rw [← hv, kfM, if_neg (fun q => hno q.1)]) k_20 _ _ hP hD hS _ (lv_sub hl [2, 3, 4, 5, 6, 7, 0] rfl)
        exfalso; omega
      refine lv_iconst (v := zI 1) hx hb dX5_go_109 rfl ?_
      refine lv_goto (tgt := 114) hx hb dX5_go_110 (by decide) ?_
      refine lv_istore (lv' := [(7, .int (zI 1)), (0, .ref o0), (1, .int (zI most)), (2, .int (zI i6)), (3, .int (zI h6)), (4, .int (zI p)), (5, .int (zI a)), (6, .int (zI k))]) hx hb dX5_go_114 hl (by decide) rfl (fun ls hl => ?_)
      refine lv_iload hx hb dX5_go_116 (lv_at hl 0 rfl) ?_
      refine z_if_eq (tgt := 158) hx hb dX5_go_118 (by decide) (by omega) (fun c_118 => ?_) (fun c_118 => ?_)
      · skip
        exfalso; omega
      have hyes : moM (f2 0) h6 p k := (moM_s c5).mpr c_106
      refine lv_aload_n hx hb dX5_go_121 rfl (lv_at hl 1 rfl) ?_
      refine lv_aload_n hx hb dX5_go_122 rfl (lv_at hl 1 rfl) ?_
      refine lv_iload_n hx hb dX5_go_123 rfl (lv_at hl 4 rfl) ?_
      refine lv_iload hx hb dX5_go_124 (lv_at hl 5 rfl) ?_
      refine lv_iload hx hb dX5_go_126 (lv_at hl 7 rfl) ?_
      refine pc_V (As := [.int (zI h6), .int (zI p), .int (zI k)]) (rest := [.ref o0]) M (c_X5_with l D cB cI cZ cM _ o0 o1 o2 o3 o4 o5 o6 o7 o8 o9 oz tr td g1 g2 g3 g4 g5 g6 S.2.1 f2 h6 p k (by first | assumption | omega) (by first | assumption | omega) (by first | assumption | omega)) gX5_go_X5_with rfl ⟨rfl, hd_X5_with⟩ ⟨Nat.le_of_ble_eq_true rfl, Nat.le_of_ble_eq_true rfl⟩ hK hP [0, 1] rfl 0 5 rfl rfl rfl hl.1 rfl rfl (Nat.le_of_ble_eq_true rfl) dX5_go_128 ⟨Nat.le_of_ble_eq_true rfl, Nat.le_of_ble_eq_true rfl⟩ (fun r_128 h_128 => ?_)
      subst h_128
      have hwt := wtI_rng (k := k) hPm.2 (And.intro b1 b2) (by omega : 0 ≤ p ∧ p < f2 0) (by omega)
      refine pc_V (As := [.int (zI (wtI (f2 0) h6 p k))]) (rest := []) M (c_X5_isLawful l D cB cI cZ cM _ o0 o1 o2 o3 o4 o5 o6 o7 o8 o9 oz tr td g1 g2 g3 g4 g5 g6 S.2.1 f2 f3 f5 (wtI (f2 0) h6 p k) (by first | assumption | omega) (by first | assumption | omega) (by first | assumption | omega) (by first | assumption | omega) (by first | assumption | omega) (by first | assumption | omega)) gX5_go_X5_isLawful rfl ⟨rfl, hd_X5_isLawful⟩ ⟨Nat.le_of_ble_eq_true rfl, Nat.le_of_ble_eq_true rfl⟩ hK hP [0, 1, 2, 3] rfl 0 5 rfl rfl rfl hl.1 rfl rfl (Nat.le_of_ble_eq_true rfl) dX5_go_131 ⟨Nat.le_of_ble_eq_true rfl, Nat.le_of_ble_eq_true rfl⟩ (fun r_131 h_131 => ?_)
      subst h_131
      refine z_if_eq (tgt := 158) hx hb dX5_go_134 (by decide) (zb_bd _) (fun c_134 => ?_) (fun c_134 => ?_)
      · skip
        have c_134 := zb_f c_134
        refine z_iinc (a := k) (k := 7) (lv' := [(6, .int (zI (k + 1))), (7, .int (zI 1)), (0, .ref o0), (1, .int (zI most)), (2, .int (zI i6)), (3, .int (zI h6)), (4, .int (zI p)), (5, .int (zI a))]) hx hb dX5_go_158 hl rfl (by decide) rfl (fun ls hl => ?_)
        refine lv_goto (tgt := 63) hx hb dX5_go_161 (by decide) ?_
        exact ih j (k + 1) p S n1 i6 h6 a (by omega) (by omega) (by omega) (by assumption) (by assumption) (by assumption) (by rw [← hv, kfM, if_neg (fun q => c_134 q.2)]) k_20 _ _ hP hD hS _ (lv_sub hl [2, 3, 4, 5, 6, 7, 0] rfl)
      have c_134 := zb_t c_134
      refine lv_aload_n hx hb dX5_go_137 rfl (lv_at hl 1 rfl) ?_
      refine lv_aload_n hx hb dX5_go_138 rfl (lv_at hl 1 rfl) ?_
      refine lv_iload_n hx hb dX5_go_139 rfl (lv_at hl 4 rfl) ?_
      refine lv_iload hx hb dX5_go_140 (lv_at hl 5 rfl) ?_
      refine lv_iload hx hb dX5_go_142 (lv_at hl 7 rfl) ?_
      refine pc_V (As := [.int (zI h6), .int (zI p), .int (zI k)]) (rest := [.ref o0]) M (c_X5_with l D cB cI cZ cM _ o0 o1 o2 o3 o4 o5 o6 o7 o8 o9 oz tr td g1 g2 g3 g4 g5 g6 S.2.1 f2 h6 p k (by first | assumption | omega) (by first | assumption | omega) (by first | assumption | omega)) gX5_go_X5_with rfl ⟨rfl, hd_X5_with⟩ ⟨Nat.le_of_ble_eq_true rfl, Nat.le_of_ble_eq_true rfl⟩ hK hP [0, 1] rfl 0 5 rfl rfl rfl hl.1 rfl rfl (Nat.le_of_ble_eq_true rfl) dX5_go_144 ⟨Nat.le_of_ble_eq_true rfl, Nat.le_of_ble_eq_true rfl⟩ (fun r_144 h_144 => ?_)
      subst h_144
      refine lv_aload_n hx hb dX5_go_147 rfl (lv_at hl 1 rfl) ?_
      refine va_get (D := D) (ci := 5) (C := RX5) (T := TX5) (N := 19) hx hb hts inc_X5_go_5 hown hK hP 0 rfl rfl 15 (by decide) (hts (.fieldLink RX5 33 "BedHouseModel" "off" "[I") (by decide +kernel)) (fun _ h9 => h9) rfl dX5_go_148 ?_
      refine lv_iload_n hx hb dX5_go_151 rfl (lv_at hl 4 rfl) ?_
      refine z_iald hx hb hK hP 4 1 rfl rfl (Nat.le_of_ble_eq_true rfl) dX5_go_152 (by omega) ?_
      refine lv_iconst (v := zI 1) hx hb dX5_go_153 rfl ?_
      refine z_iadd hx hb dX5_go_154 ?_
      refine wc_Vv (As := [.int (zI (wtI (f2 0) h6 p k)), .int (zI ((S.2.2 h6) + 1))]) (rest := []) (wr := [(o2, .inl (cI, 16, .inl (zia f2))), (o3, .inl (cI, 8, .inl (zia f3))), (o5, .inl (cI, 4, .inl (zia f5)))]) (ws' := (fun u_155 : BQ => [(o0, .inr (5, [.long tr, .ref o1, .int (zI td), .ref o2, .ref o3, .ref o4, .ref o5, .int (zI g1), .int (zI g2), .int (zI g3), .int (zI g4), .int (zI g5), .int (zI g6), .ref o6, .ref o7, .ref o8, .ref o9, .int (zI u_155.2.1), .ref oz])), (o2, .inl (cI, 16, .inl (zia f2))), (o3, .inl (cI, 8, .inl (zia f3))), (o5, .inl (cI, 4, .inl (zia f5))), (o8, .inl (cI, 6561, .inl (zia u_155.2.2))), (o9, .inl (cI, 6561, .inl (zia u_155.1)))])) M (c_X5_reach l D cB cI cZ cM _ o0 o1 o2 o3 o4 o5 o6 o7 o8 o9 oz tr td g1 g2 g3 g4 g5 g6 S.2.1 f2 S.2.2 S.1 (wtI (f2 0) h6 p k) ((S.2.2 h6) + 1) (by first | assumption | omega) (hs) (hwt) (by omega)) gX5_go_X5_reach rfl ⟨rfl, hd_X5_reach⟩ ⟨Nat.le_of_ble_eq_true rfl, Nat.le_of_ble_eq_true rfl⟩ hK hP hD hS hA [0, 4, 5] [1, 2, 3] [3, 0, 1, 2, 4, 5] rfl rfl (by decide) (by decide) (by decide) (fun _ => rfl) 0 5 rfl rfl rfl hl.1 rfl rfl (Nat.le_of_ble_eq_true rfl) dX5_go_155 ⟨Nat.le_of_ble_eq_true rfl, Nat.le_of_ble_eq_true rfl⟩ (by decide) (fun u_155 H locs h_155 hP hD hS => ?_)
      obtain ⟨hr1, hr3, hr4⟩ := rcM_ok (n := S.2.2 h6 + 1) hPm.2 hs hwt (by omega)
      rw [show rcM (wtI (f2 0) h6 p k) (S.2.2 h6 + 1) S = u_155 from h_155.symm] at hr1 hr3 hr4
      have hr2 : (0 ≤ i6 ∧ i6 < u_155.2.1) ∧ h6 = u_155.1 i6 := And.intro (by omega) (by rw [hr4 i6 hi.1.2]; exact hi.2)
      refine z_iinc (a := k) (k := 7) (lv' := [(6, .int (zI (k + 1))), (7, .int (zI 1)), (0, .ref o0), (1, .int (zI most)), (2, .int (zI i6)), (3, .int (zI h6)), (4, .int (zI p)), (5, .int (zI a))]) hx hb dX5_go_158 hl rfl (by decide) rfl (fun ls hl => ?_)
      refine lv_goto (tgt := 63) hx hb dX5_go_161 (by decide) ?_
      exact ih j (k + 1) p u_155 n1 i6 h6 a (by omega) (by omega) (by omega) (by exact hr1) (by exact hr2) (by assumption) (by rw [← hv, kfM, if_pos (And.intro hyes (show lwM f2 f3 f5 (wtI (f2 0) h6 p k) = true from c_134)), h_155]) k_20 _ _ hP hD hS _ (lv_sub hl [2, 3, 4, 5, 6, 7, 0] rfl)
    have c5 : slI (f2 0) h6 p = 8 := by omega
    refine lv_iload hx hb dX5_go_75 (lv_at hl 6 rfl) ?_
    refine lv_bipush (v := zI 8) hx hb dX5_go_77 (by decide) ?_
    refine z_icmp_ge (tgt := 98) hx hb dX5_go_79 (by decide) (by omega) (fun c_79 => ?_) (fun c_79 => ?_)
    · skip
      refine lv_iconst (v := zI 0) hx hb dX5_go_98 rfl ?_
      refine lv_goto (tgt := 114) hx hb dX5_go_99 (by decide) ?_
      refine lv_istore (lv' := [(7, .int (zI 0)), (0, .ref o0), (1, .int (zI most)), (2, .int (zI i6)), (3, .int (zI h6)), (4, .int (zI p)), (5, .int (zI a)), (6, .int (zI k))]) hx hb dX5_go_114 hl (by decide) rfl (fun ls hl => ?_)
      refine lv_iload hx hb dX5_go_116 (lv_at hl 0 rfl) ?_
      refine z_if_eq (tgt := 158) hx hb dX5_go_118 (by decide) (by omega) (fun c_118 => ?_) (fun c_118 => ?_)
      · skip
        have hno : ¬ moM (f2 0) h6 p k := fun q => absurd ((moM_l c5).mp q).1 (by omega)
        refine z_iinc (a := k) (k := 7) (lv' := [(6, .int (zI (k + 1))), (7, .int (zI 0)), (0, .ref o0), (1, .int (zI most)), (2, .int (zI i6)), (3, .int (zI h6)), (4, .int (zI p)), (5, .int (zI a))]) hx hb dX5_go_158 hl rfl (by decide) rfl (fun ls hl => ?_)
        refine lv_goto (tgt := 63) hx hb dX5_go_161 (by decide) ?_
        exact ih j (k + 1) p S n1 i6 h6 a (by omega) (by omega) (by omega) (by assumption) (by assumption) (by assumption) (by rw [← hv, kfM, if_neg (fun q => hno q.1)]) k_20 _ _ hP hD hS _ (lv_sub hl [2, 3, 4, 5, 6, 7, 0] rfl)
      exfalso; omega
    refine lv_aload_n hx hb dX5_go_82 rfl (lv_at hl 0 rfl) ?_
    refine lv_iload_n hx hb dX5_go_83 rfl (lv_at hl 3 rfl) ?_
    refine lv_iload hx hb dX5_go_84 (lv_at hl 6 rfl) ?_
    refine pc_V (As := [.int (zI h6), .int (zI k)]) (rest := []) M (c_X5_panelAt l D cB cI cZ cM _ o0 o1 o2 o3 o4 o5 o6 o7 o8 o9 oz tr td g1 g2 g3 g4 g5 g6 S.2.1 f2 h6 k (by first | assumption | omega) (by first | assumption | omega) (by first | assumption | omega)) gX5_go_X5_panelAt rfl ⟨rfl, hd_X5_panelAt⟩ ⟨Nat.le_of_ble_eq_true rfl, Nat.le_of_ble_eq_true rfl⟩ hK hP [0, 1] rfl 0 5 rfl rfl rfl hl.1 rfl rfl (Nat.le_of_ble_eq_true rfl) dX5_go_86 ⟨Nat.le_of_ble_eq_true rfl, Nat.le_of_ble_eq_true rfl⟩ (fun r_86 h_86 => ?_)
    subst h_86
    have hpf := patF_rng (slI (f2 0) h6) k (f2 0).toNat 0 (by omega)
    refine lv_bipush (v := zI (-9)) hx hb dX5_go_89 (by decide) ?_
    refine z_icmp_ne (tgt := 98) hx hb dX5_go_91 (by decide) (by omega) (fun c_91 => ?_) (fun c_91 => ?_)
    · skip
      refine lv_iconst (v := zI 0) hx hb dX5_go_98 rfl ?_
      refine lv_goto (tgt := 114) hx hb dX5_go_99 (by decide) ?_
      refine lv_istore (lv' := [(7, .int (zI 0)), (0, .ref o0), (1, .int (zI most)), (2, .int (zI i6)), (3, .int (zI h6)), (4, .int (zI p)), (5, .int (zI a)), (6, .int (zI k))]) hx hb dX5_go_114 hl (by decide) rfl (fun ls hl => ?_)
      refine lv_iload hx hb dX5_go_116 (lv_at hl 0 rfl) ?_
      refine z_if_eq (tgt := 158) hx hb dX5_go_118 (by decide) (by omega) (fun c_118 => ?_) (fun c_118 => ?_)
      · skip
        have hno : ¬ moM (f2 0) h6 p k := fun q => c_91 ((moM_l c5).mp q).2
        refine z_iinc (a := k) (k := 7) (lv' := [(6, .int (zI (k + 1))), (7, .int (zI 0)), (0, .ref o0), (1, .int (zI most)), (2, .int (zI i6)), (3, .int (zI h6)), (4, .int (zI p)), (5, .int (zI a))]) hx hb dX5_go_158 hl rfl (by decide) rfl (fun ls hl => ?_)
        refine lv_goto (tgt := 63) hx hb dX5_go_161 (by decide) ?_
        exact ih j (k + 1) p S n1 i6 h6 a (by omega) (by omega) (by omega) (by assumption) (by assumption) (by assumption) (by rw [← hv, kfM, if_neg (fun q => hno q.1)]) k_20 _ _ hP hD hS _ (lv_sub hl [2, 3, 4, 5, 6, 7, 0] rfl)
      exfalso; omega
    refine lv_iconst (v := zI 1) hx hb dX5_go_94 rfl ?_
    refine lv_goto (tgt := 114) hx hb dX5_go_95 (by decide) ?_
    refine lv_istore (lv' := [(7, .int (zI 1)), (0, .ref o0), (1, .int (zI most)), (2, .int (zI i6)), (3, .int (zI h6)), (4, .int (zI p)), (5, .int (zI a)), (6, .int (zI k))]) hx hb dX5_go_114 hl (by decide) rfl (fun ls hl => ?_)
    refine lv_iload hx hb dX5_go_116 (lv_at hl 0 rfl) ?_
    refine z_if_eq (tgt := 158) hx hb dX5_go_118 (by decide) (by omega) (fun c_118 => ?_) (fun c_118 => ?_)
    · skip
      exfalso; omega
    have hyes : moM (f2 0) h6 p k := (moM_l c5).mpr (And.intro c_79 c_91)
    refine lv_aload_n hx hb dX5_go_121 rfl (lv_at hl 1 rfl) ?_
    refine lv_aload_n hx hb dX5_go_122 rfl (lv_at hl 1 rfl) ?_
    refine lv_iload_n hx hb dX5_go_123 rfl (lv_at hl 4 rfl) ?_
    refine lv_iload hx hb dX5_go_124 (lv_at hl 5 rfl) ?_
    refine lv_iload hx hb dX5_go_126 (lv_at hl 7 rfl) ?_
    refine pc_V (As := [.int (zI h6), .int (zI p), .int (zI k)]) (rest := [.ref o0]) M (c_X5_with l D cB cI cZ cM _ o0 o1 o2 o3 o4 o5 o6 o7 o8 o9 oz tr td g1 g2 g3 g4 g5 g6 S.2.1 f2 h6 p k (by first | assumption | omega) (by first | assumption | omega) (by first | assumption | omega)) gX5_go_X5_with rfl ⟨rfl, hd_X5_with⟩ ⟨Nat.le_of_ble_eq_true rfl, Nat.le_of_ble_eq_true rfl⟩ hK hP [0, 1] rfl 0 5 rfl rfl rfl hl.1 rfl rfl (Nat.le_of_ble_eq_true rfl) dX5_go_128 ⟨Nat.le_of_ble_eq_true rfl, Nat.le_of_ble_eq_true rfl⟩ (fun r_128 h_128 => ?_)
    subst h_128
    have hwt := wtI_rng (k := k) hPm.2 (And.intro b1 b2) (by omega : 0 ≤ p ∧ p < f2 0) (by omega)
    refine pc_V (As := [.int (zI (wtI (f2 0) h6 p k))]) (rest := []) M (c_X5_isLawful l D cB cI cZ cM _ o0 o1 o2 o3 o4 o5 o6 o7 o8 o9 oz tr td g1 g2 g3 g4 g5 g6 S.2.1 f2 f3 f5 (wtI (f2 0) h6 p k) (by first | assumption | omega) (by first | assumption | omega) (by first | assumption | omega) (by first | assumption | omega) (by first | assumption | omega) (by first | assumption | omega)) gX5_go_X5_isLawful rfl ⟨rfl, hd_X5_isLawful⟩ ⟨Nat.le_of_ble_eq_true rfl, Nat.le_of_ble_eq_true rfl⟩ hK hP [0, 1, 2, 3] rfl 0 5 rfl rfl rfl hl.1 rfl rfl (Nat.le_of_ble_eq_true rfl) dX5_go_131 ⟨Nat.le_of_ble_eq_true rfl, Nat.le_of_ble_eq_true rfl⟩ (fun r_131 h_131 => ?_)
    subst h_131
    refine z_if_eq (tgt := 158) hx hb dX5_go_134 (by decide) (zb_bd _) (fun c_134 => ?_) (fun c_134 => ?_)
    · skip
      have c_134 := zb_f c_134
      refine z_iinc (a := k) (k := 7) (lv' := [(6, .int (zI (k + 1))), (7, .int (zI 1)), (0, .ref o0), (1, .int (zI most)), (2, .int (zI i6)), (3, .int (zI h6)), (4, .int (zI p)), (5, .int (zI a))]) hx hb dX5_go_158 hl rfl (by decide) rfl (fun ls hl => ?_)
      refine lv_goto (tgt := 63) hx hb dX5_go_161 (by decide) ?_
      exact ih j (k + 1) p S n1 i6 h6 a (by omega) (by omega) (by omega) (by assumption) (by assumption) (by assumption) (by rw [← hv, kfM, if_neg (fun q => c_134 q.2)]) k_20 _ _ hP hD hS _ (lv_sub hl [2, 3, 4, 5, 6, 7, 0] rfl)
    have c_134 := zb_t c_134
    refine lv_aload_n hx hb dX5_go_137 rfl (lv_at hl 1 rfl) ?_
    refine lv_aload_n hx hb dX5_go_138 rfl (lv_at hl 1 rfl) ?_
    refine lv_iload_n hx hb dX5_go_139 rfl (lv_at hl 4 rfl) ?_
    refine lv_iload hx hb dX5_go_140 (lv_at hl 5 rfl) ?_
    refine lv_iload hx hb dX5_go_142 (lv_at hl 7 rfl) ?_
    refine pc_V (As := [.int (zI h6), .int (zI p), .int (zI k)]) (rest := [.ref o0]) M (c_X5_with l D cB cI cZ cM _ o0 o1 o2 o3 o4 o5 o6 o7 o8 o9 oz tr td g1 g2 g3 g4 g5 g6 S.2.1 f2 h6 p k (by first | assumption | omega) (by first | assumption | omega) (by first | assumption | omega)) gX5_go_X5_with rfl ⟨rfl, hd_X5_with⟩ ⟨Nat.le_of_ble_eq_true rfl, Nat.le_of_ble_eq_true rfl⟩ hK hP [0, 1] rfl 0 5 rfl rfl rfl hl.1 rfl rfl (Nat.le_of_ble_eq_true rfl) dX5_go_144 ⟨Nat.le_of_ble_eq_true rfl, Nat.le_of_ble_eq_true rfl⟩ (fun r_144 h_144 => ?_)
    subst h_144
    refine lv_aload_n hx hb dX5_go_147 rfl (lv_at hl 1 rfl) ?_
    refine va_get (D := D) (ci := 5) (C := RX5) (T := TX5) (N := 19) hx hb hts inc_X5_go_5 hown hK hP 0 rfl rfl 15 (by decide) (hts (.fieldLink RX5 33 "BedHouseModel" "off" "[I") (by decide +kernel)) (fun _ h9 => h9) rfl dX5_go_148 ?_
    refine lv_iload_n hx hb dX5_go_151 rfl (lv_at hl 4 rfl) ?_
    refine z_iald hx hb hK hP 4 1 rfl rfl (Nat.le_of_ble_eq_true rfl) dX5_go_152 (by omega) ?_
    refine lv_iconst (v := zI 1) hx hb dX5_go_153 rfl ?_
    refine z_iadd hx hb dX5_go_154 ?_
    refine wc_Vv (As := [.int (zI (wtI (f2 0) h6 p k)), .int (zI ((S.2.2 h6) + 1))]) (rest := []) (wr := [(o2, .inl (cI, 16, .inl (zia f2))), (o3, .inl (cI, 8, .inl (zia f3))), (o5, .inl (cI, 4, .inl (zia f5)))]) (ws' := (fun u_155 : BQ => [(o0, .inr (5, [.long tr, .ref o1, .int (zI td), .ref o2, .ref o3, .ref o4, .ref o5, .int (zI g1), .int (zI g2), .int (zI g3), .int (zI g4), .int (zI g5), .int (zI g6), .ref o6, .ref o7, .ref o8, .ref o9, .int (zI u_155.2.1), .ref oz])), (o2, .inl (cI, 16, .inl (zia f2))), (o3, .inl (cI, 8, .inl (zia f3))), (o5, .inl (cI, 4, .inl (zia f5))), (o8, .inl (cI, 6561, .inl (zia u_155.2.2))), (o9, .inl (cI, 6561, .inl (zia u_155.1)))])) M (c_X5_reach l D cB cI cZ cM _ o0 o1 o2 o3 o4 o5 o6 o7 o8 o9 oz tr td g1 g2 g3 g4 g5 g6 S.2.1 f2 S.2.2 S.1 (wtI (f2 0) h6 p k) ((S.2.2 h6) + 1) (by first | assumption | omega) (hs) (hwt) (by omega)) gX5_go_X5_reach rfl ⟨rfl, hd_X5_reach⟩ ⟨Nat.le_of_ble_eq_true rfl, Nat.le_of_ble_eq_true rfl⟩ hK hP hD hS hA [0, 4, 5] [1, 2, 3] [3, 0, 1, 2, 4, 5] rfl rfl (by decide) (by decide) (by decide) (fun _ => rfl) 0 5 rfl rfl rfl hl.1 rfl rfl (Nat.le_of_ble_eq_true rfl) dX5_go_155 ⟨Nat.le_of_ble_eq_true rfl, Nat.le_of_ble_eq_true rfl⟩ (by decide) (fun u_155 H locs h_155 hP hD hS => ?_)
    obtain ⟨hr1, hr3, hr4⟩ := rcM_ok (n := S.2.2 h6 + 1) hPm.2 hs hwt (by omega)
    rw [show rcM (wtI (f2 0) h6 p k) (S.2.2 h6 + 1) S = u_155 from h_155.symm] at hr1 hr3 hr4
    have hr2 : (0 ≤ i6 ∧ i6 < u_155.2.1) ∧ h6 = u_155.1 i6 := And.intro (by omega) (by rw [hr4 i6 hi.1.2]; exact hi.2)
    refine z_iinc (a := k) (k := 7) (lv' := [(6, .int (zI (k + 1))), (7, .int (zI 1)), (0, .ref o0), (1, .int (zI most)), (2, .int (zI i6)), (3, .int (zI h6)), (4, .int (zI p)), (5, .int (zI a))]) hx hb dX5_go_158 hl rfl (by decide) rfl (fun ls hl => ?_)
    refine lv_goto (tgt := 63) hx hb dX5_go_161 (by decide) ?_
    exact ih j (k + 1) p u_155 n1 i6 h6 a (by omega) (by omega) (by omega) (by exact hr1) (by exact hr2) (by assumption) (by rw [← hv, kfM, if_pos (And.intro hyes (show lwM f2 f3 f5 (wtI (f2 0) h6 p k) = true from c_134)), h_155]) k_20 _ _ hP hD hS _ (lv_sub hl [2, 3, 4, 5, 6, 7, 0] rfl)
set_option maxHeartbeats 4000000 in
set_option maxRecDepth 100000 in
theorem lp_X5_go_20 (l : Launch) (D : va_G) (cB cI cZ cM : ClassId) (o0 : Nat) (o1 : Nat) (o2 : Nat) (o3 : Nat) (o4 : Nat) (o5 : Nat) (o6 : Nat) (o7 : Nat) (o8 : Nat) (o9 : Nat) (oz : Nat) (tr : Int64) (td : Int) (g1 : Int) (g2 : Int) (g3 : Int) (g4 : Int) (g5 : Int) (g6 : Int) (g7 : Int) (f2 : Int → Int) (f3 : Int → Int) (f5 : Int → Int) (f8 : Int → Int) (f9 : Int → Int) (most : Int) (hp2 : okR f2 f3 f5) (hq : qkM (f2 0) (f9, g7, f8)) (hmo : -100 ≤ most ∧ most ≤ 9999) {pg : Program} {ev : Env} {sx : State} {mm : MethodId} {args : Array Value} {below : List Frame} {meth : Method} {cd : Code} (M : MX pg sx mm args meth cd cX5_go 8 none RX5 wsX5_go) (hK : va_K D vwCl (TYS cB cI cZ cM) sx) {A : Nat → Prop} (hA : ∀ q : Nat, sx.heap.size ≤ q → A q) : ∀ (N : Nat) (n0 : Nat) (p : Int) (S : BQ) (i : Int) (h : Int), (n0 < N) → (0 ≤ p ∧ p + n0 = f2 0) → (qkM (f2 0) S) → ((0 ≤ i ∧ i < S.2.1) ∧ h = S.1 i) → (gfM f2 f3 f5 most (6561 - i).toNat (i + 1) (pfM f2 f3 f5 most h n0 p S) = gfM f2 f3 f5 most 6562 0 (f9, g7, f8)) → (k_2 : ∀ (n : Nat) (e : Int) (S : BQ), (e = i + 1) → (0 ≤ e ∧ e + n = 6562) → (qkM (f2 0) S) → (gfM f2 f3 f5 most (6562 - e).toNat e S = gfM f2 f3 f5 most 6562 0 (f9, g7, f8)) → ∀ (H : Heap) (locs : List Loc), va_P D vwCl [(o0, .inr (5, [.long tr, .ref o1, .int (zI td), .ref o2, .ref o3, .ref o4, .ref o5, .int (zI g1), .int (zI g2), .int (zI g3), .int (zI g4), .int (zI g5), .int (zI g6), .ref o6, .ref o7, .ref o8, .ref o9, .int (zI S.2.1), .ref oz])), (o2, .inl (cI, 16, .inl (zia f2))), (o3, .inl (cI, 8, .inl (zia f3))), (o5, .inl (cI, 4, .inl (zia f5))), (o8, .inl (cI, 6561, .inl (zia S.2.2))), (o9, .inl (cI, 6561, .inl (zia S.1)))] H → va_D A [(o0, .inr (5, [.long tr, .ref o1, .int (zI td), .ref o2, .ref o3, .ref o4, .ref o5, .int (zI g1), .int (zI g2), .int (zI g3), .int (zI g4), .int (zI g5), .int (zI g6), .ref o6, .ref o7, .ref o8, .ref o9, .int (zI S.2.1), .ref oz])), (o2, .inl (cI, 16, .inl (zia f2))), (o3, .inl (cI, 8, .inl (zia f3))), (o5, .inl (cI, 4, .inl (zia f5))), (o8, .inl (cI, 6561, .inl (zia S.2.2))), (o9, .inl (cI, 6561, .inl (zia S.1)))] → va_S A sx.heap H locs → ∀ ls : Array Slot, lv_has ls 8 [(0, .ref o0), (1, .int (zI most)), (2, .int (zI e))] → W pg l ev (rmW 4 0 0 94) sx mm args below meth cd H locs 0 0 (QWv below args sx A D (fun (u : BQ) => u = gfM f2 f3 f5 most 6562 0 (f9, g7, f8)) (fun (u : BQ) => [(o0, .inr (5, [.long tr, .ref o1, .int (zI td), .ref o2, .ref o3, .ref o4, .ref o5, .int (zI g1), .int (zI g2), .int (zI g3), .int (zI g4), .int (zI g5), .int (zI g6), .ref o6, .ref o7, .ref o8, .ref o9, .int (zI u.2.1), .ref oz])), (o2, .inl (cI, 16, .inl (zia f2))), (o3, .inl (cI, 8, .inl (zia f3))), (o5, .inl (cI, 4, .inl (zia f5))), (o8, .inl (cI, 6561, .inl (zia u.2.2))), (o9, .inl (cI, 6561, .inl (zia u.1)))]) 0 0) (F0 mm 2 ls [])) → ∀ (H : Heap) (locs : List Loc), va_P D vwCl [(o0, .inr (5, [.long tr, .ref o1, .int (zI td), .ref o2, .ref o3, .ref o4, .ref o5, .int (zI g1), .int (zI g2), .int (zI g3), .int (zI g4), .int (zI g5), .int (zI g6), .ref o6, .ref o7, .ref o8, .ref o9, .int (zI S.2.1), .ref oz])), (o2, .inl (cI, 16, .inl (zia f2))), (o3, .inl (cI, 8, .inl (zia f3))), (o5, .inl (cI, 4, .inl (zia f5))), (o8, .inl (cI, 6561, .inl (zia S.2.2))), (o9, .inl (cI, 6561, .inl (zia S.1)))] H → va_D A [(o0, .inr (5, [.long tr, .ref o1, .int (zI td), .ref o2, .ref o3, .ref o4, .ref o5, .int (zI g1), .int (zI g2), .int (zI g3), .int (zI g4), .int (zI g5), .int (zI g6), .ref o6, .ref o7, .ref o8, .ref o9, .int (zI S.2.1), .ref oz])), (o2, .inl (cI, 16, .inl (zia f2))), (o3, .inl (cI, 8, .inl (zia f3))), (o5, .inl (cI, 4, .inl (zia f5))), (o8, .inl (cI, 6561, .inl (zia S.2.2))), (o9, .inl (cI, 6561, .inl (zia S.1)))] → va_S A sx.heap H locs → ∀ ls : Array Slot, lv_has ls 8 [(0, .ref o0), (1, .int (zI most)), (2, .int (zI i)), (3, .int (zI h)), (4, .int (zI p))] → W pg l ev (rmW 4 0 0 94) sx mm args below meth cd H locs 0 0 (QWv below args sx A D (fun (u : BQ) => u = gfM f2 f3 f5 most 6562 0 (f9, g7, f8)) (fun (u : BQ) => [(o0, .inr (5, [.long tr, .ref o1, .int (zI td), .ref o2, .ref o3, .ref o4, .ref o5, .int (zI g1), .int (zI g2), .int (zI g3), .int (zI g4), .int (zI g5), .int (zI g6), .ref o6, .ref o7, .ref o8, .ref o9, .int (zI u.2.1), .ref oz])), (o2, .inl (cI, 16, .inl (zia f2))), (o3, .inl (cI, 8, .inl (zia f3))), (o5, .inl (cI, 4, .inl (zia f5))), (o8, .inl (cI, 6561, .inl (zia u.2.2))), (o9, .inl (cI, 6561, .inl (zia u.1)))]) 0 0) (F0 mm 20 ls []) := by
  intro N
  induction N with
  | zero => intro n0 p S i h hN; exact absurd hN (Nat.not_lt_zero _)
  | succ N ih =>
    intro n0 p S i h hN hp hs hi hv k_2 H locs hP hD hS ls hl
    obtain ⟨hx, hb, hr, hml, hown, hts, hlk, hN0⟩ := id M
    obtain ⟨hPm, hB1, hra, hsu, hvw, hno, hdn6, hha7, hso, hbm⟩ := id hp2
    have h9r := pw9_rng (n := f2 0) (by omega)
    have hm6 := qkM_m hs
    obtain ⟨b1, b2, b3, b4⟩ := hs.2.1 i hi.1.1 hi.1.2
    rw [← hi.2] at b1 b2 b3 b4
    refine lv_iload hx hb dX5_go_20 (lv_at hl 4 rfl) ?_
    refine lv_aload_n hx hb dX5_go_22 rfl (lv_at hl 0 rfl) ?_
    refine va_get (D := D) (ci := 5) (C := RX5) (T := TX5) (N := 19) hx hb hts inc_X5_go_5 hown hK hP 0 rfl rfl 3 (by decide) (hts (.fieldLink RX5 13 "BedHouseModel" "plan" "[I") (by decide +kernel)) (fun _ h9 => h9) rfl dX5_go_23 ?_
    refine lv_iconst (v := zI 0) hx hb dX5_go_26 rfl ?_
    refine z_iald hx hb hK hP 1 1 rfl rfl (Nat.le_of_ble_eq_true rfl) dX5_go_27 (by omega) ?_
    refine z_icmp_ge (tgt := 170) hx hb dX5_go_28 (by decide) (by omega) (fun c_28 => ?_) (fun c_28 => ?_)
    · skip
      refine z_iinc (a := i) (k := 2) (lv' := [(2, .int (zI (i + 1))), (0, .ref o0), (1, .int (zI most)), (3, .int (zI h)), (4, .int (zI p))]) hx hb dX5_go_170 hl rfl (by decide) rfl (fun ls hl => ?_)
      refine lv_goto (tgt := 2) hx hb dX5_go_173 (by decide) ?_
      exact k_2 ((6562 - (i + 1)).toNat) (i + 1) S rfl (by have hm7 := qkM_m hs; omega) (by assumption) (by rw [← hv]; rw [show n0 = 0 by omega, pfM]; congr 1; omega) _ _ hP hD hS _ (lv_sub hl [1, 2, 0] rfl)
    have hn0 : n0 = (n0 - 1) + 1 := by omega
    refine lv_aload_n hx hb dX5_go_31 rfl (lv_at hl 0 rfl) ?_
    refine va_get (D := D) (ci := 5) (C := RX5) (T := TX5) (N := 19) hx hb hts inc_X5_go_5 hown hK hP 0 rfl rfl 15 (by decide) (hts (.fieldLink RX5 33 "BedHouseModel" "off" "[I") (by decide +kernel)) (fun _ h9 => h9) rfl dX5_go_32 ?_
    refine lv_iload_n hx hb dX5_go_35 rfl (lv_at hl 3 rfl) ?_
    refine z_iald hx hb hK hP 4 1 rfl rfl (Nat.le_of_ble_eq_true rfl) dX5_go_36 (by omega) ?_
    refine lv_iload_n hx hb dX5_go_37 rfl (lv_at hl 1 rfl) ?_
    refine z_icmp_ge (tgt := 170) hx hb dX5_go_38 (by decide) (by omega) (fun c_38 => ?_) (fun c_38 => ?_)
    · skip
      refine z_iinc (a := i) (k := 2) (lv' := [(2, .int (zI (i + 1))), (0, .ref o0), (1, .int (zI most)), (3, .int (zI h)), (4, .int (zI p))]) hx hb dX5_go_170 hl rfl (by decide) rfl (fun ls hl => ?_)
      refine lv_goto (tgt := 2) hx hb dX5_go_173 (by decide) ?_
      exact k_2 ((6562 - (i + 1)).toNat) (i + 1) S rfl (by have hm7 := qkM_m hs; omega) (by assumption) (by rw [← hv, show n0 = (n0 - 1) + 1 by omega, pfM, if_neg (by omega)]; congr 1; omega) _ _ hP hD hS _ (lv_sub hl [1, 2, 0] rfl)
    obtain ⟨n0, rfl⟩ : ∃ x : Nat, n0 = x + 1 := ⟨n0 - 1, by omega⟩
    refine lv_aload_n hx hb dX5_go_41 rfl (lv_at hl 0 rfl) ?_
    refine lv_iload_n hx hb dX5_go_42 rfl (lv_at hl 3 rfl) ?_
    refine lv_iload hx hb dX5_go_43 (lv_at hl 4 rfl) ?_
    refine pc_V (As := [.int (zI h), .int (zI p)]) (rest := []) M (c_X5_slotIn l D cB cI cZ cM _ o0 o1 o2 o3 o4 o5 o6 o7 o8 o9 oz tr td g1 g2 g3 g4 g5 g6 S.2.1 f2 h p (by first | assumption | omega) (by first | assumption | omega) (by first | assumption | omega)) gX5_go_X5_slotIn rfl ⟨rfl, hd_X5_slotIn⟩ ⟨Nat.le_of_ble_eq_true rfl, Nat.le_of_ble_eq_true rfl⟩ hK hP [0, 1] rfl 0 5 rfl rfl rfl hl.1 rfl rfl (Nat.le_of_ble_eq_true rfl) dX5_go_45 ⟨Nat.le_of_ble_eq_true rfl, Nat.le_of_ble_eq_true rfl⟩ (fun r_45 h_45 => ?_)
    subst h_45
    have hsl := slI_rng (f2 0) p b1
    refine lv_bipush (v := zI 8) hx hb dX5_go_48 (by decide) ?_
    refine z_icmp_ne (tgt := 57) hx hb dX5_go_50 (by decide) (by omega) (fun c_50 => ?_) (fun c_50 => ?_)
    · skip
      refine lv_iconst (v := zI 0) hx hb dX5_go_57 rfl ?_
      refine lv_istore (lv' := [(5, .int (zI 0)), (0, .ref o0), (1, .int (zI most)), (2, .int (zI i)), (3, .int (zI h)), (4, .int (zI p))]) hx hb dX5_go_58 hl (by decide) rfl (fun ls hl => ?_)
      refine lv_iconst (v := zI 0) hx hb dX5_go_60 rfl ?_
      refine lv_istore (lv' := [(6, .int (zI 0)), (5, .int (zI 0)), (0, .ref o0), (1, .int (zI most)), (2, .int (zI i)), (3, .int (zI h)), (4, .int (zI p))]) hx hb dX5_go_61 hl (by decide) rfl (fun ls hl => ?_)
      exact lp_X5_go_63 l D cB cI cZ cM o0 o1 o2 o3 o4 o5 o6 o7 o8 o9 oz tr td g1 g2 g3 g4 g5 g6 g7 f2 f3 f5 f8 f9 most hp2 hq hmo M hK hA (9 + 1) 9 0 p S n0 i h 0 (Nat.lt_succ_self _) (by omega) (by omega) (by exact hs) (by exact hi) (by exact Or.inr (And.intro rfl c_50)) (by rw [← hv, pfM, if_pos c_38]) (fun n0y py Sy iy hy hg hpy hsy hiy hvy H locs hP hD hS ls hl => ih n0y py Sy iy hy (by omega) hpy hsy hiy hvy (by rw [hg.2]; exact k_2) H locs hP hD hS ls hl) _ _ hP hD hS _ (lv_sub hl [2, 3, 4, 5, 6, 1, 0] rfl)
    refine lv_iconst (v := zI 1) hx hb dX5_go_53 rfl ?_
    refine lv_goto (tgt := 58) hx hb dX5_go_54 (by decide) ?_
    refine lv_istore (lv' := [(5, .int (zI 1)), (0, .ref o0), (1, .int (zI most)), (2, .int (zI i)), (3, .int (zI h)), (4, .int (zI p))]) hx hb dX5_go_58 hl (by decide) rfl (fun ls hl => ?_)
    refine lv_iconst (v := zI 0) hx hb dX5_go_60 rfl ?_
    refine lv_istore (lv' := [(6, .int (zI 0)), (5, .int (zI 1)), (0, .ref o0), (1, .int (zI most)), (2, .int (zI i)), (3, .int (zI h)), (4, .int (zI p))]) hx hb dX5_go_61 hl (by decide) rfl (fun ls hl => ?_)
    exact lp_X5_go_63 l D cB cI cZ cM o0 o1 o2 o3 o4 o5 o6 o7 o8 o9 oz tr td g1 g2 g3 g4 g5 g6 g7 f2 f3 f5 f8 f9 most hp2 hq hmo M hK hA (9 + 1) 9 0 p S n0 i h 1 (Nat.lt_succ_self _) (by omega) (by omega) (by exact hs) (by exact hi) (by exact Or.inl (And.intro rfl c_50)) (by rw [← hv, pfM, if_pos c_38]) (fun n0y py Sy iy hy hg hpy hsy hiy hvy H locs hP hD hS ls hl => ih n0y py Sy iy hy (by omega) hpy hsy hiy hvy (by rw [hg.2]; exact k_2) H locs hP hD hS ls hl) _ _ hP hD hS _ (lv_sub hl [2, 3, 4, 5, 6, 1, 0] rfl)
set_option maxHeartbeats 4000000 in
set_option maxRecDepth 100000 in
theorem lp_X5_go_2 (l : Launch) (D : va_G) (cB cI cZ cM : ClassId) (o0 : Nat) (o1 : Nat) (o2 : Nat) (o3 : Nat) (o4 : Nat) (o5 : Nat) (o6 : Nat) (o7 : Nat) (o8 : Nat) (o9 : Nat) (oz : Nat) (tr : Int64) (td : Int) (g1 : Int) (g2 : Int) (g3 : Int) (g4 : Int) (g5 : Int) (g6 : Int) (g7 : Int) (f2 : Int → Int) (f3 : Int → Int) (f5 : Int → Int) (f8 : Int → Int) (f9 : Int → Int) (most : Int) (hp2 : okR f2 f3 f5) (hq : qkM (f2 0) (f9, g7, f8)) (hmo : -100 ≤ most ∧ most ≤ 9999) {pg : Program} {ev : Env} {sx : State} {mm : MethodId} {args : Array Value} {below : List Frame} {meth : Method} {cd : Code} (M : MX pg sx mm args meth cd cX5_go 8 none RX5 wsX5_go) (hK : va_K D vwCl (TYS cB cI cZ cM) sx) {A : Nat → Prop} (hA : ∀ q : Nat, sx.heap.size ≤ q → A q) : ∀ (N : Nat) (n : Nat) (e : Int) (S : BQ), (n < N) → (0 ≤ e ∧ e + n = 6562) → (qkM (f2 0) S) → (gfM f2 f3 f5 most (6562 - e).toNat e S = gfM f2 f3 f5 most 6562 0 (f9, g7, f8)) → ∀ (H : Heap) (locs : List Loc), va_P D vwCl [(o0, .inr (5, [.long tr, .ref o1, .int (zI td), .ref o2, .ref o3, .ref o4, .ref o5, .int (zI g1), .int (zI g2), .int (zI g3), .int (zI g4), .int (zI g5), .int (zI g6), .ref o6, .ref o7, .ref o8, .ref o9, .int (zI S.2.1), .ref oz])), (o2, .inl (cI, 16, .inl (zia f2))), (o3, .inl (cI, 8, .inl (zia f3))), (o5, .inl (cI, 4, .inl (zia f5))), (o8, .inl (cI, 6561, .inl (zia S.2.2))), (o9, .inl (cI, 6561, .inl (zia S.1)))] H → va_D A [(o0, .inr (5, [.long tr, .ref o1, .int (zI td), .ref o2, .ref o3, .ref o4, .ref o5, .int (zI g1), .int (zI g2), .int (zI g3), .int (zI g4), .int (zI g5), .int (zI g6), .ref o6, .ref o7, .ref o8, .ref o9, .int (zI S.2.1), .ref oz])), (o2, .inl (cI, 16, .inl (zia f2))), (o3, .inl (cI, 8, .inl (zia f3))), (o5, .inl (cI, 4, .inl (zia f5))), (o8, .inl (cI, 6561, .inl (zia S.2.2))), (o9, .inl (cI, 6561, .inl (zia S.1)))] → va_S A sx.heap H locs → ∀ ls : Array Slot, lv_has ls 8 [(0, .ref o0), (1, .int (zI most)), (2, .int (zI e))] → W pg l ev (rmW 4 0 0 94) sx mm args below meth cd H locs 0 0 (QWv below args sx A D (fun (u : BQ) => u = gfM f2 f3 f5 most 6562 0 (f9, g7, f8)) (fun (u : BQ) => [(o0, .inr (5, [.long tr, .ref o1, .int (zI td), .ref o2, .ref o3, .ref o4, .ref o5, .int (zI g1), .int (zI g2), .int (zI g3), .int (zI g4), .int (zI g5), .int (zI g6), .ref o6, .ref o7, .ref o8, .ref o9, .int (zI u.2.1), .ref oz])), (o2, .inl (cI, 16, .inl (zia f2))), (o3, .inl (cI, 8, .inl (zia f3))), (o5, .inl (cI, 4, .inl (zia f5))), (o8, .inl (cI, 6561, .inl (zia u.2.2))), (o9, .inl (cI, 6561, .inl (zia u.1)))]) 0 0) (F0 mm 2 ls []) := by
  intro N
  induction N with
  | zero => intro n e S hN; exact absurd hN (Nat.not_lt_zero _)
  | succ N ih =>
    intro n e S hN hi hs hv H locs hP hD hS ls hl
    obtain ⟨hx, hb, hr, hml, hown, hts, hlk, hN0⟩ := id M
    obtain ⟨hPm, hB1, hra, hsu, hvw, hno, hdn6, hha7, hso, hbm⟩ := id hp2
    have h9r := pw9_rng (n := f2 0) (by omega)
    have hm6 := qkM_m hs
    refine lv_iload_n hx hb dX5_go_2 rfl (lv_at hl 2 rfl) ?_
    refine lv_aload_n hx hb dX5_go_3 rfl (lv_at hl 0 rfl) ?_
    refine va_get (D := D) (ci := 5) (C := RX5) (T := TX5) (N := 19) hx hb hts inc_X5_go_5 hown hK hP 0 rfl rfl 17 (by decide) (hts (.fieldLink RX5 152 "BedHouseModel" "reachedMany" "I") (by decide +kernel)) (fun _ h9 => h9) rfl dX5_go_4 ?_
    refine z_icmp_ge (tgt := 176) hx hb dX5_go_7 (by decide) (by omega) (fun c_7 => ?_) (fun c_7 => ?_)
    · skip
      exact wr_retv M dX5_go_176 (u := S) (by rw [← hv, show (6562 - e).toNat = (6562 - e).toNat from rfl]; cases hx9 : (6562 - e).toNat with | zero => rfl | succ m9 => rw [gfM, if_neg (by omega)]) hP hD hS
    obtain ⟨n, rfl⟩ : ∃ x : Nat, n = x + 1 := ⟨n - 1, by omega⟩
    refine lv_aload_n hx hb dX5_go_10 rfl (lv_at hl 0 rfl) ?_
    refine va_get (D := D) (ci := 5) (C := RX5) (T := TX5) (N := 19) hx hb hts inc_X5_go_5 hown hK hP 0 rfl rfl 16 (by decide) (hts (.fieldLink RX5 36 "BedHouseModel" "reached" "[I") (by decide +kernel)) (fun _ h9 => h9) rfl dX5_go_11 ?_
    refine lv_iload_n hx hb dX5_go_14 rfl (lv_at hl 2 rfl) ?_
    refine z_iald hx hb hK hP 5 1 rfl rfl (Nat.le_of_ble_eq_true rfl) dX5_go_15 (by omega) ?_
    refine lv_istore_n (lv' := [(3, .int (zI (S.1 e))), (0, .ref o0), (1, .int (zI most)), (2, .int (zI e))]) hx hb dX5_go_16 rfl hl (by decide) rfl (fun ls hl => ?_)
    refine lv_iconst (v := zI 0) hx hb dX5_go_17 rfl ?_
    refine lv_istore (lv' := [(4, .int (zI 0)), (3, .int (zI (S.1 e))), (0, .ref o0), (1, .int (zI most)), (2, .int (zI e))]) hx hb dX5_go_18 hl (by decide) rfl (fun ls hl => ?_)
    exact lp_X5_go_20 l D cB cI cZ cM o0 o1 o2 o3 o4 o5 o6 o7 o8 o9 oz tr td g1 g2 g3 g4 g5 g6 g7 f2 f3 f5 f8 f9 most hp2 hq hmo M hK hA (((f2 0).toNat) + 1) ((f2 0).toNat) 0 S e (S.1 e) (Nat.lt_succ_self _) (by omega) (by assumption) (by exact ⟨by omega, rfl⟩) (by rw [← hv, show (6562 - e).toNat = (6561 - e).toNat + 1 by omega, gfM, if_pos c_7]) (fun n e S hg hi hs hv H locs hP hD hS ls hl => ih n e S (by omega) hi hs hv H locs hP hD hS ls hl) _ _ hP hD hS _ (lv_sub hl [2, 3, 4, 1, 0] rfl)
set_option maxHeartbeats 4000000 in
set_option maxRecDepth 100000 in
theorem c_X5_go (l : Launch) (D : va_G) (cB cI cZ cM : ClassId) (Hp : Heap) (o0 : Nat) (o1 : Nat) (o2 : Nat) (o3 : Nat) (o4 : Nat) (o5 : Nat) (o6 : Nat) (o7 : Nat) (o8 : Nat) (o9 : Nat) (oz : Nat) (tr : Int64) (td : Int) (g1 : Int) (g2 : Int) (g3 : Int) (g4 : Int) (g5 : Int) (g6 : Int) (g7 : Int) (f2 : Int → Int) (f3 : Int → Int) (f5 : Int → Int) (f8 : Int → Int) (f9 : Int → Int) (most : Int) (hp2 : okR f2 f3 f5) (hq : qkM (f2 0) (f9, g7, f8)) (hmo : -100 ≤ most ∧ most ≤ 9999) : cWv l yX5_go wsX5_go (rmW 4 0 0 94) D (TYS cB cI cZ cM) [.ref o0, .int (zI most)] [(o0, .inr (5, [.long tr, .ref o1, .int (zI td), .ref o2, .ref o3, .ref o4, .ref o5, .int (zI g1), .int (zI g2), .int (zI g3), .int (zI g4), .int (zI g5), .int (zI g6), .ref o6, .ref o7, .ref o8, .ref o9, .int (zI g7), .ref oz])), (o2, .inl (cI, 16, .inl (zia f2))), (o3, .inl (cI, 8, .inl (zia f3))), (o5, .inl (cI, 4, .inl (zia f5))), (o8, .inl (cI, 6561, .inl (zia f8))), (o9, .inl (cI, 6561, .inl (zia f9)))] Hp (fun (u : BQ) => u = gfM f2 f3 f5 most 6562 0 (f9, g7, f8)) (fun (u : BQ) => [(o0, .inr (5, [.long tr, .ref o1, .int (zI td), .ref o2, .ref o3, .ref o4, .ref o5, .int (zI g1), .int (zI g2), .int (zI g3), .int (zI g4), .int (zI g5), .int (zI g6), .ref o6, .ref o7, .ref o8, .ref o9, .int (zI u.2.1), .ref oz])), (o2, .inl (cI, 16, .inl (zia f2))), (o3, .inl (cI, 8, .inl (zia f3))), (o5, .inl (cI, 4, .inl (zia f5))), (o8, .inl (cI, 6561, .inl (zia u.2.2))), (o9, .inl (cI, 6561, .inl (zia u.1)))]) 0 0 := by
  refine wr_startv (by decide) rfl (Nat.le_of_ble_eq_true rfl) ?_
  intro pg ev sx mm args below meth cd ls A M hP hD hS hA hK hl
  obtain ⟨hx, hb, hr, hml, hown, hts, hlk, hN0⟩ := id M
  have hl : lv_has ls 8 [(0, .ref o0), (1, .int (zI most))] := hl
  refine W.widen (k := 0) (n := 0) (Nat.zero_le _) (Nat.zero_le _) ?_
  obtain ⟨hPm, hB1, hra, hsu, hvw, hno, hdn6, hha7, hso, hbm⟩ := id hp2
  have h9r := pw9_rng (n := f2 0) (by omega)
  refine lv_iconst (v := zI 0) hx hb dX5_go_0 rfl ?_
  refine lv_istore_n (lv' := [(2, .int (zI 0)), (0, .ref o0), (1, .int (zI most))]) hx hb dX5_go_1 rfl hl (by decide) rfl (fun ls hl => ?_)
  exact lp_X5_go_2 l D cB cI cZ cM o0 o1 o2 o3 o4 o5 o6 o7 o8 o9 oz tr td g1 g2 g3 g4 g5 g6 g7 f2 f3 f5 f8 f9 most hp2 hq hmo M hK hA (6562 + 1) 6562 0 (f9, g7, f8) (Nat.lt_succ_self _) (by omega) (by exact hq) (by rfl) _ _ hP hD hS _ (lv_sub hl [1, 2, 0] rfl)
