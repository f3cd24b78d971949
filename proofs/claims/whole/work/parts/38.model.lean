theorem inc_X5_best_5 : ∀ w ∈ wsX50, w ∈ wsX5_best := by decide +kernel
theorem inc_X5_isFit_5 : ∀ w ∈ wsX50, w ∈ wsX5_isFit := by decide +kernel
theorem hd_X5_isFit : yX5_isFit.cls ≠ "java/lang/invoke/MethodHandle" ∧ yX5_isFit.cls ≠ "java/lang/invoke/VarHandle" ∧ (parseMethodDescriptor yX5_isFit.desc).map (fun d => d.parameters.length) = some 1 := by decide +kernel
set_option maxHeartbeats 4000000 in
set_option maxRecDepth 100000 in
theorem lp_X5_best_28 (l : Launch) (D : va_G) (cB cI cZ cM : ClassId) (o0 : Nat) (o1 : Nat) (o2 : Nat) (o3 : Nat) (o4 : Nat) (o5 : Nat) (o6 : Nat) (o7 : Nat) (o8 : Nat) (o9 : Nat) (oz : Nat) (tr : Int64) (td : Int) (g1 : Int) (g2 : Int) (g3 : Int) (g4 : Int) (g5 : Int) (g6 : Int) (g7 : Int) (f2 : Int → Int) (f3 : Int → Int) (f5 : Int → Int) (f6 : Int → Int) (p : Int) (hp2 : okR f2 f3 f5) (hn6 : okN f2 f6) (hp0 : -2147483648 ≤ p ∧ p < 2147483648) {pg : Program} {ev : Env} {sx : State} {mm : MethodId} {args : Array Value} {below : List Frame} {meth : Method} {cd : Code} (M : MX pg sx mm args meth cd cX5_best 5 (some .int) RX5 wsX5_best) (hP : va_P D vwCl [(o0, .inr (5, [.long tr, .ref o1, .int (zI td), .ref o2, .ref o3, .ref o4, .ref o5, .int (zI g1), .int (zI g2), .int (zI g3), .int (zI g4), .int (zI g5), .int (zI g6), .ref o6, .ref o7, .ref o8, .ref o9, .int (zI g7), .ref oz])), (o2, .inl (cI, 16, .inl (zia f2))), (o3, .inl (cI, 8, .inl (zia f3))), (o5, .inl (cI, 4, .inl (zia f5))), (o6, .inl (cI, 63, .inl (zia f6)))] sx.heap) (hK : va_K D vwCl (TYS cB cI cZ cM) sx) : ∀ (N : Nat) (n : Nat) (h : Int) (s : Int × Int), (n < N) → (-1 ≤ p ∧ p ≤ f2 0 - 1) → (0 ≤ h ∧ h + n = pw9 (f2 0)) → ((s.1 = -9 ∨ (0 ≤ s.1 ∧ s.1 < h)) ∧ (-1000000 ≤ s.2 ∧ s.2 ≤ 1000)) → (bsM f2 f3 f5 n h s = bsM f2 f3 f5 (pw9 (f2 0)).toNat 0 (-9, -1000000)) → ∀ ls : Array Slot, lv_has ls 5 [(0, .ref o0), (1, .int (zI p)), (2, .int (zI s.1)), (3, .int (zI s.2)), (4, .int (zI h))] → W pg l ev (rmP 7 158) sx mm args below meth cd sx.heap [] 0 0 (QP below args sx (fun r => r = zI (if -1 ≤ p ∧ p ≤ f2 0 - 1 then (if (bsM f2 f3 f5 (pw9 (f2 0)).toNat 0 (-9, -1000000)).1 = -9 ∨ p = -1 then (bsM f2 f3 f5 (pw9 (f2 0)).toNat 0 (-9, -1000000)).2 else slI (f2 0) (bsM f2 f3 f5 (pw9 (f2 0)).toNat 0 (-9, -1000000)).1 p) else -1000000))) (F0 mm 28 ls []) := by
  intro N
  induction N with
  | zero => intro n h s hN; exact absurd hN (Nat.not_lt_zero _)
  | succ N ih =>
    intro n h s hN hp1 hi hs hv ls hl
    obtain ⟨hx, hb, hr, hml, hown, hts, hlk, hN0⟩ := id M
    obtain ⟨hPm, hB1, hra, hsu, hvw, hno, hdn6, hha7, hso, hbm⟩ := id hp2
    obtain ⟨hhm, hdy, hac, hlk, hmn, hcl⟩ := id hn6
    have h9r := pw9_rng (n := f2 0) (by omega)
    refine lv_iload hx hb dX5_best_28 (lv_at hl 4 rfl) ?_
    refine lv_aload_n hx hb dX5_best_30 rfl (lv_at hl 0 rfl) ?_
    refine pc_V (As := []) (rest := [.int (zI h)]) M (c_X5_houses l D cB cI cZ cM _ o0 o1 o2 o3 o4 o5 o6 o7 o8 o9 oz tr td g1 g2 g3 g4 g5 g6 g7 f2 (by first | assumption | omega)) gX5_best_X5_houses rfl ⟨rfl, hd_X5_houses⟩ ⟨Nat.le_of_ble_eq_true rfl, Nat.le_of_ble_eq_true rfl⟩ hK hP [0, 1] rfl 0 5 rfl rfl rfl hl.1 rfl rfl (Nat.le_of_ble_eq_true rfl) dX5_best_31 ⟨Nat.le_of_ble_eq_true rfl, Nat.le_of_ble_eq_true rfl⟩ (fun r_31 h_31 => ?_)
    subst h_31
    refine z_icmp_ge (tgt := 72) hx hb dX5_best_34 (by decide) (by omega) (fun c_34 => ?_) (fun c_34 => ?_)
    · skip
      obtain rfl : n = 0 := by omega
      have hv9 : s = bsM f2 f3 f5 (pw9 (f2 0)).toNat 0 (-9, -1000000) := by rw [← hv, bsM]
      refine lv_iload_n hx hb dX5_best_72 rfl (lv_at hl 2 rfl) ?_
      refine lv_bipush (v := zI (-9)) hx hb dX5_best_73 (by decide) ?_
      refine z_icmp_eq (tgt := 83) hx hb dX5_best_75 (by decide) (by omega) (fun c_75 => ?_) (fun c_75 => ?_)
      · skip
        refine lv_iload_n hx hb dX5_best_83 rfl (lv_at hl 3 rfl) ?_
        refine lv_goto (tgt := 93) hx hb dX5_best_84 (by decide) ?_
        exact pu_ret M dX5_best_93 (congrArg zI (by rw [if_pos hp1, ← hv9, if_pos (Or.inl c_75)]))
      refine lv_iload_n hx hb dX5_best_78 rfl (lv_at hl 1 rfl) ?_
      refine lv_iconst (v := zI (-1)) hx hb dX5_best_79 rfl ?_
      refine z_icmp_ne (tgt := 87) hx hb dX5_best_80 (by decide) (by omega) (fun c_80 => ?_) (fun c_80 => ?_)
      · skip
        refine lv_aload_n hx hb dX5_best_87 rfl (lv_at hl 0 rfl) ?_
        refine lv_iload_n hx hb dX5_best_88 rfl (lv_at hl 2 rfl) ?_
        refine lv_iload_n hx hb dX5_best_89 rfl (lv_at hl 1 rfl) ?_
        refine pc_V (As := [.int (zI s.1), .int (zI p)]) (rest := []) M (c_X5_slotIn l D cB cI cZ cM _ o0 o1 o2 o3 o4 o5 o6 o7 o8 o9 oz tr td g1 g2 g3 g4 g5 g6 g7 f2 s.1 p (by first | assumption | omega) (by omega) (by omega)) gX5_best_X5_slotIn rfl ⟨rfl, hd_X5_slotIn⟩ ⟨Nat.le_of_ble_eq_true rfl, Nat.le_of_ble_eq_true rfl⟩ hK hP [0, 1] rfl 0 5 rfl rfl rfl hl.1 rfl rfl (Nat.le_of_ble_eq_true rfl) dX5_best_90 ⟨Nat.le_of_ble_eq_true rfl, Nat.le_of_ble_eq_true rfl⟩ (fun r_90 h_90 => ?_)
        subst h_90
        exact pu_ret M dX5_best_93 (congrArg zI (by rw [if_pos hp1, ← hv9, if_neg (fun q => q.elim c_75 c_80)]))
      refine lv_iload_n hx hb dX5_best_83 rfl (lv_at hl 3 rfl) ?_
      refine lv_goto (tgt := 93) hx hb dX5_best_84 (by decide) ?_
      exact pu_ret M dX5_best_93 (congrArg zI (by rw [if_pos hp1, ← hv9, if_pos (Or.inr c_80)]))
    obtain ⟨n, rfl⟩ : ∃ j : Nat, n = j + 1 := ⟨n - 1, by omega⟩
    refine lv_aload_n hx hb dX5_best_37 rfl (lv_at hl 0 rfl) ?_
    refine lv_iload hx hb dX5_best_38 (lv_at hl 4 rfl) ?_
    refine pc_V (As := [.int (zI h)]) (rest := []) M (c_X5_isLawful l D cB cI cZ cM _ o0 o1 o2 o3 o4 o5 o6 o7 o8 o9 oz tr td g1 g2 g3 g4 g5 g6 g7 f2 f3 f5 h (by first | assumption | omega) (by first | assumption | omega) (by first | assumption | omega) (by first | assumption | omega) (by first | assumption | omega) (by first | assumption | omega)) gX5_best_X5_isLawful rfl ⟨rfl, hd_X5_isLawful⟩ ⟨Nat.le_of_ble_eq_true rfl, Nat.le_of_ble_eq_true rfl⟩ hK hP [0, 1, 2, 3] rfl 0 5 rfl rfl rfl hl.1 rfl rfl (Nat.le_of_ble_eq_true rfl) dX5_best_40 ⟨Nat.le_of_ble_eq_true rfl, Nat.le_of_ble_eq_true rfl⟩ (fun r_40 h_40 => ?_)
    subst h_40
    refine z_if_eq (tgt := 66) hx hb dX5_best_43 (by decide) (zb_bd _) (fun c_43 => ?_) (fun c_43 => ?_)
    · skip
      have c_43 := zb_f c_43
      refine z_iinc (a := h) (k := 4) (lv' := [(4, .int (zI (h + 1))), (0, .ref o0), (1, .int (zI p)), (2, .int (zI s.1)), (3, .int (zI s.2))]) hx hb dX5_best_66 hl rfl (by decide) rfl (fun ls hl => ?_)
      refine lv_goto (tgt := 28) hx hb dX5_best_69 (by decide) ?_
      exact ih n (h + 1) s (by omega) (by assumption) (by omega) (by omega) (by rw [← hv, bsM, if_neg (fun q => c_43 q.1)]) _ (lv_sub hl [1, 2, 3, 4, 0] rfl)
    have c_43 := zb_t c_43
    refine lv_aload_n hx hb dX5_best_46 rfl (lv_at hl 0 rfl) ?_
    refine lv_iload hx hb dX5_best_47 (lv_at hl 4 rfl) ?_
    have hwo := woM_rng (q := slI (f2 0) h) (so := f3) (P := f2 0) (ra := f2 2) (su := f2 3) (vw := f2 4) (no := f2 5) hso hPm
    refine pc_V (As := [.int (zI h)]) (rest := []) M (c_X5_worthOf l D cB cI cZ cM _ o0 o1 o2 o3 o4 o5 o6 o7 o8 o9 oz tr td g1 g2 g3 g4 g5 g6 g7 f2 f3 h (by first | assumption | omega) (by first | assumption | omega) (by first | assumption | omega) (by first | assumption | omega) (by first | assumption | omega) (by first | assumption | omega) (by first | assumption | omega)) gX5_best_X5_worthOf rfl ⟨rfl, hd_X5_worthOf⟩ ⟨Nat.le_of_ble_eq_true rfl, Nat.le_of_ble_eq_true rfl⟩ hK hP [0, 1, 2] rfl 0 5 rfl rfl rfl hl.1 rfl rfl (Nat.le_of_ble_eq_true rfl) dX5_best_49 ⟨Nat.le_of_ble_eq_true rfl, Nat.le_of_ble_eq_true rfl⟩ (fun r_49 h_49 => ?_)
    subst h_49
    refine lv_iload_n hx hb dX5_best_52 rfl (lv_at hl 3 rfl) ?_
    refine z_icmp_le (tgt := 66) hx hb dX5_best_53 (by decide) (by omega) (fun c_53 => ?_) (fun c_53 => ?_)
    · skip
      refine z_iinc (a := h) (k := 4) (lv' := [(4, .int (zI (h + 1))), (0, .ref o0), (1, .int (zI p)), (2, .int (zI s.1)), (3, .int (zI s.2))]) hx hb dX5_best_66 hl rfl (by decide) rfl (fun ls hl => ?_)
      refine lv_goto (tgt := 28) hx hb dX5_best_69 (by decide) ?_
      exact ih n (h + 1) s (by omega) (by assumption) (by omega) (by omega) (by rw [← hv, bsM, if_neg (fun q => absurd (show s.2 < woM (slI (f2 0) h) f3 (f2 0) (f2 2) (f2 3) (f2 4) (f2 5) from q.2) (by omega))]) _ (lv_sub hl [1, 2, 3, 4, 0] rfl)
    refine lv_iload hx hb dX5_best_56 (lv_at hl 4 rfl) ?_
    refine lv_istore_n (lv' := [(2, .int (zI h)), (0, .ref o0), (1, .int (zI p)), (3, .int (zI s.2)), (4, .int (zI h))]) hx hb dX5_best_58 rfl hl (by decide) rfl (fun ls hl => ?_)
    refine lv_aload_n hx hb dX5_best_59 rfl (lv_at hl 1 rfl) ?_
    refine lv_iload hx hb dX5_best_60 (lv_at hl 4 rfl) ?_
    refine pc_V (As := [.int (zI h)]) (rest := []) M (c_X5_worthOf l D cB cI cZ cM _ o0 o1 o2 o3 o4 o5 o6 o7 o8 o9 oz tr td g1 g2 g3 g4 g5 g6 g7 f2 f3 h (by first | assumption | omega) (by first | assumption | omega) (by first | assumption | omega) (by first | assumption | omega) (by first | assumption | omega) (by first | assumption | omega) (by first | assumption | omega)) gX5_best_X5_worthOf rfl ⟨rfl, hd_X5_worthOf⟩ ⟨Nat.le_of_ble_eq_true rfl, Nat.le_of_ble_eq_true rfl⟩ hK hP [0, 1, 2] rfl 0 5 rfl rfl rfl hl.1 rfl rfl (Nat.le_of_ble_eq_true rfl) dX5_best_62 ⟨Nat.le_of_ble_eq_true rfl, Nat.le_of_ble_eq_true rfl⟩ (fun r_62 h_62 => ?_)
    subst h_62
    refine lv_istore_n (lv' := [(3, .int (zI (woM (slI (f2 0) h) f3 (f2 0) (f2 2) (f2 3) (f2 4) (f2 5)))), (2, .int (zI h)), (0, .ref o0), (1, .int (zI p)), (4, .int (zI h))]) hx hb dX5_best_65 rfl hl (by decide) rfl (fun ls hl => ?_)
    refine z_iinc (a := h) (k := 4) (lv' := [(4, .int (zI (h + 1))), (3, .int (zI (woM (slI (f2 0) h) f3 (f2 0) (f2 2) (f2 3) (f2 4) (f2 5)))), (2, .int (zI h)), (0, .ref o0), (1, .int (zI p))]) hx hb dX5_best_66 hl rfl (by decide) rfl (fun ls hl => ?_)
    refine lv_goto (tgt := 28) hx hb dX5_best_69 (by decide) ?_
    exact ih n (h + 1) (h, wrM f2 f3 h) (by omega) (by assumption) (by omega) (by show (h = -9 ∨ (0 ≤ h ∧ h < h + 1)) ∧ (-1000000 ≤ wrM f2 f3 h ∧ wrM f2 f3 h ≤ 1000); unfold wrM; omega) (by rw [← hv, bsM, if_pos (And.intro (show lwM f2 f3 f5 h = true from c_43) (show s.2 < wrM f2 f3 h from c_53))]) _ (lv_sub hl [3, 4, 2, 1, 0] rfl)
set_option maxHeartbeats 4000000 in
set_option maxRecDepth 100000 in
theorem c_X5_best (l : Launch) (D : va_G) (cB cI cZ cM : ClassId) (Hp : Heap) (o0 : Nat) (o1 : Nat) (o2 : Nat) (o3 : Nat) (o4 : Nat) (o5 : Nat) (o6 : Nat) (o7 : Nat) (o8 : Nat) (o9 : Nat) (oz : Nat) (tr : Int64) (td : Int) (g1 : Int) (g2 : Int) (g3 : Int) (g4 : Int) (g5 : Int) (g6 : Int) (g7 : Int) (f2 : Int → Int) (f3 : Int → Int) (f5 : Int → Int) (f6 : Int → Int) (p : Int) (hp2 : okR f2 f3 f5) (hn6 : okN f2 f6) (hp0 : -2147483648 ≤ p ∧ p < 2147483648) : cP l yX5_best wsX5_best 7 158 D (TYS cB cI cZ cM) [.ref o0, .int (zI p)] [(o0, .inr (5, [.long tr, .ref o1, .int (zI td), .ref o2, .ref o3, .ref o4, .ref o5, .int (zI g1), .int (zI g2), .int (zI g3), .int (zI g4), .int (zI g5), .int (zI g6), .ref o6, .ref o7, .ref o8, .ref o9, .int (zI g7), .ref oz])), (o2, .inl (cI, 16, .inl (zia f2))), (o3, .inl (cI, 8, .inl (zia f3))), (o5, .inl (cI, 4, .inl (zia f5))), (o6, .inl (cI, 63, .inl (zia f6)))] Hp (fun r => r = zI (if -1 ≤ p ∧ p ≤ f2 0 - 1 then (if (bsM f2 f3 f5 (pw9 (f2 0)).toNat 0 (-9, -1000000)).1 = -9 ∨ p = -1 then (bsM f2 f3 f5 (pw9 (f2 0)).toNat 0 (-9, -1000000)).2 else slI (f2 0) (bsM f2 f3 f5 (pw9 (f2 0)).toNat 0 (-9, -1000000)).1 p) else -1000000)) := by
  refine pu_start (by decide) rfl (Nat.le_of_ble_eq_true rfl) ?_
  intro pg ev sx mm args below meth cd ls M hP hK hl
  obtain ⟨hx, hb, hr, hml, hown, hts, hlk, hN0⟩ := id M
  have hl : lv_has ls 5 [(0, .ref o0), (1, .int (zI p))] := hl
  obtain ⟨hPm, hB1, hra, hsu, hvw, hno, hdn6, hha7, hso, hbm⟩ := id hp2
  obtain ⟨hhm, hdy, hac, hlk, hmn, hcl⟩ := id hn6
  have h9r := pw9_rng (n := f2 0) (by omega)
  refine lv_iload_n hx hb dX5_best_0 rfl (lv_at hl 1 rfl) ?_
  refine lv_iconst (v := zI (-1)) hx hb dX5_best_1 rfl ?_
  refine lv_aload_n hx hb dX5_best_2 rfl (lv_at hl 0 rfl) ?_
  refine va_get (D := D) (ci := 5) (C := RX5) (T := TX5) (N := 19) hx hb hts inc_X5_best_5 hown hK hP 0 rfl rfl 3 (by decide) (hts (.fieldLink RX5 13 "BedHouseModel" "plan" "[I") (by decide +kernel)) (fun _ h9 => h9) rfl dX5_best_3 ?_
  refine lv_iconst (v := zI 0) hx hb dX5_best_6 rfl ?_
  refine z_iald hx hb hK hP 1 1 rfl rfl (Nat.le_of_ble_eq_true rfl) dX5_best_7 (by omega) ?_
  refine lv_iconst (v := zI 1) hx hb dX5_best_8 rfl ?_
  refine z_isub hx hb dX5_best_9 ?_
  refine pc_J (As := [.int (zI p), .int (zI (-1)), .int (zI ((f2 0) - 1))]) (rest := []) M (c_X5_in l D cB cI cZ cM _ p (-1) ((f2 0) - 1) (by first | assumption | omega) (by first | assumption | omega) (by first | assumption | omega)) gX5_best_X5_in rfl hd_X5_in ⟨Nat.le_of_ble_eq_true rfl, Nat.le_of_ble_eq_true rfl⟩ hK hP [] rfl hl.1 rfl rfl (Nat.le_of_ble_eq_true rfl) dX5_best_10 ⟨Nat.le_of_ble_eq_true rfl, Nat.le_of_ble_eq_true rfl⟩ (fun r_10 h_10 => ?_)
  subst h_10
  refine z_if_ne (tgt := 19) hx hb dX5_best_13 (by decide) (zb_bd _) (fun c_13 => ?_) (fun c_13 => ?_)
  · skip
    have c_13 := zb_t c_13
    refine lv_bipush (v := zI (-9)) hx hb dX5_best_19 (by decide) ?_
    refine lv_istore_n (lv' := [(2, .int (zI (-9))), (0, .ref o0), (1, .int (zI p))]) hx hb dX5_best_21 rfl hl (by decide) rfl (fun ls hl => ?_)
    refine lv_ldc hx hb hown (hts (.constant RX5 151 (-1000000)) (by decide +kernel)) dX5_best_22 ?_
    refine z_top (y := zI (-1000000)) (by decide) ?_
    refine lv_istore_n (lv' := [(3, .int (zI (-1000000))), (2, .int (zI (-9))), (0, .ref o0), (1, .int (zI p))]) hx hb dX5_best_24 rfl hl (by decide) rfl (fun ls hl => ?_)
    refine lv_iconst (v := zI 0) hx hb dX5_best_25 rfl ?_
    refine lv_istore (lv' := [(4, .int (zI 0)), (3, .int (zI (-1000000))), (2, .int (zI (-9))), (0, .ref o0), (1, .int (zI p))]) hx hb dX5_best_26 hl (by decide) rfl (fun ls hl => ?_)
    exact lp_X5_best_28 l D cB cI cZ cM o0 o1 o2 o3 o4 o5 o6 o7 o8 o9 oz tr td g1 g2 g3 g4 g5 g6 g7 f2 f3 f5 f6 p hp2 hn6 hp0 M hP hK (((pw9 (f2 0)).toNat) + 1) ((pw9 (f2 0)).toNat) 0 (-9, -1000000) (Nat.lt_succ_self _) (by exact c_13) (by omega) (by dsimp only; omega) (by rfl) _ (lv_sub hl [3, 4, 2, 1, 0] rfl)
  have c_13 := zb_f c_13
  refine lv_ldc hx hb hown (hts (.constant RX5 151 (-1000000)) (by decide +kernel)) dX5_best_16 ?_
  refine z_top (y := zI (-1000000)) (by decide) ?_
  exact pu_ret M dX5_best_18 (congrArg zI (by rw [if_neg c_13]))
set_option maxHeartbeats 4000000 in
set_option maxRecDepth 100000 in
theorem lp_X5_isFit_8 (l : Launch) (D : va_G) (cB cI cZ cM : ClassId) (o0 : Nat) (o1 : Nat) (o2 : Nat) (o3 : Nat) (o4 : Nat) (o5 : Nat) (o6 : Nat) (o7 : Nat) (o8 : Nat) (o9 : Nat) (oz : Nat) (tr : Int64) (td : Int) (g1 : Int) (g2 : Int) (g3 : Int) (g4 : Int) (g5 : Int) (g6 : Int) (g7 : Int) (f2 : Int → Int) (f3 : Int → Int) (f5 : Int → Int) (f6 : Int → Int) (h : Int) (hp2 : okR f2 f3 f5) (hn6 : okN f2 f6) (hh : 0 ≤ h ∧ h < pw9 (f2 0)) {pg : Program} {ev : Env} {sx : State} {mm : MethodId} {args : Array Value} {below : List Frame} {meth : Method} {cd : Code} (M : MX pg sx mm args meth cd cX5_isFit 4 (some .boolean) RX5 wsX5_isFit) (hP : va_P D vwCl [(o0, .inr (5, [.long tr, .ref o1, .int (zI td), .ref o2, .ref o3, .ref o4, .ref o5, .int (zI g1), .int (zI g2), .int (zI g3), .int (zI g4), .int (zI g5), .int (zI g6), .ref o6, .ref o7, .ref o8, .ref o9, .int (zI g7), .ref oz])), (o2, .inl (cI, 16, .inl (zia f2))), (o3, .inl (cI, 8, .inl (zia f3))), (o5, .inl (cI, 4, .inl (zia f5))), (o6, .inl (cI, 63, .inl (zia f6)))] sx.heap) (hK : va_K D vwCl (TYS cB cI cZ cM) sx) : ∀ (N : Nat) (n : Nat) (k : Int) (a : Int), (n < N) → (0 ≤ k ∧ k + n = f6 4) → (a = 0 ∨ a = 1) → ((decide (a = 1) && cuM f2 f3 f6 h n k) = ftM f2 f3 f5 f6 h) → ∀ ls : Array Slot, lv_has ls 4 [(0, .ref o0), (1, .int (zI h)), (2, .int (zI a)), (3, .int (zI k))] → W pg l ev (rmP 6 135) sx mm args below meth cd sx.heap [] 0 0 (QP below args sx (fun r => r = zI (zb (ftM f2 f3 f5 f6 h = true)))) (F0 mm 8 ls []) := by
  intro N
  induction N with
  | zero => intro n k a hN; exact absurd hN (Nat.not_lt_zero _)
  | succ N ih =>
    intro n k a hN hi ha hv ls hl
    obtain ⟨hx, hb, hr, hml, hown, hts, hlk, hN0⟩ := id M
    obtain ⟨hPm, hB1, hra, hsu, hvw, hno, hdn6, hha7, hso, hbm⟩ := id hp2
    obtain ⟨hhm, hdy, hac, hlk, hmn, hcl⟩ := id hn6
    have h9r := pw9_rng (n := f2 0) (by omega)
    refine lv_iload_n hx hb dX5_isFit_8 rfl (lv_at hl 3 rfl) ?_
    refine lv_aload_n hx hb dX5_isFit_9 rfl (lv_at hl 0 rfl) ?_
    refine va_get (D := D) (ci := 5) (C := RX5) (T := TX5) (N := 19) hx hb hts inc_X5_isFit_5 hown hK hP 0 rfl rfl 13 (by decide) (hts (.fieldLink RX5 26 "BedHouseModel" "now" "[I") (by decide +kernel)) (fun _ h9 => h9) rfl dX5_isFit_10 ?_
    refine lv_iconst (v := zI 4) hx hb dX5_isFit_13 rfl ?_
    refine z_iald hx hb hK hP 4 1 rfl rfl (Nat.le_of_ble_eq_true rfl) dX5_isFit_14 (by omega) ?_
    refine z_icmp_ge (tgt := 73) hx hb dX5_isFit_15 (by decide) (by omega) (fun c_15 => ?_) (fun c_15 => ?_)
    · skip
      obtain rfl : n = 0 := by omega
      refine lv_iload_n hx hb dX5_isFit_73 rfl (lv_at hl 2 rfl) ?_
      exact pu_retz M (zb_nar ha) dX5_isFit_74 (congrArg zI (by rw [← hv, cuM, Bool.and_true]; exact zb_of ha))
    obtain ⟨n, rfl⟩ : ∃ j : Nat, n = j + 1 := ⟨n - 1, by omega⟩
    refine lv_iload_n hx hb dX5_isFit_18 rfl (lv_at hl 2 rfl) ?_
    refine z_if_eq (tgt := 73) hx hb dX5_isFit_19 (by decide) (by omega) (fun c_19 => ?_) (fun c_19 => ?_)
    · skip
      refine lv_iload_n hx hb dX5_isFit_73 rfl (lv_at hl 2 rfl) ?_
      exact pu_retz M (zb_nar ha) dX5_isFit_74 (congrArg zI (by rw [← hv, decide_eq_false (show ¬ a = 1 by omega), Bool.false_and]; show a = 0; omega))
    refine lv_aload_n hx hb dX5_isFit_22 rfl (lv_at hl 0 rfl) ?_
    refine lv_iload_n hx hb dX5_isFit_23 rfl (lv_at hl 1 rfl) ?_
    refine lv_aload_n hx hb dX5_isFit_24 rfl (lv_at hl 0 rfl) ?_
    refine va_get (D := D) (ci := 5) (C := RX5) (T := TX5) (N := 19) hx hb hts inc_X5_isFit_5 hown hK hP 0 rfl rfl 13 (by decide) (hts (.fieldLink RX5 26 "BedHouseModel" "now" "[I") (by decide +kernel)) (fun _ h9 => h9) rfl dX5_isFit_25 ?_
    refine lv_iconst (v := zI 5) hx hb dX5_isFit_28 rfl ?_
    refine lv_iconst (v := zI 2) hx hb dX5_isFit_29 rfl ?_
    refine lv_iload_n hx hb dX5_isFit_30 rfl (lv_at hl 3 rfl) ?_
    refine z_imul hx hb dX5_isFit_31 ?_
    refine z_iadd hx hb dX5_isFit_32 ?_
    refine z_iald hx hb hK hP 4 1 rfl rfl (Nat.le_of_ble_eq_true rfl) dX5_isFit_33 (by omega) ?_
    have hcl5 := hcl k (by omega) (by omega)
    refine pc_V (As := [.int (zI h), .int (zI (f6 (5 + (2 * k))))]) (rest := []) M (c_X5_isLit l D cB cI cZ cM _ o0 o1 o2 o3 o4 o5 o6 o7 o8 o9 oz tr td g1 g2 g3 g4 g5 g6 g7 f2 f3 h (f6 (5 + (2 * k))) (by first | assumption | omega) (by first | assumption | omega) (by first | assumption | omega) (by first | assumption | omega) (hcl5.1)) gX5_isFit_X5_isLit rfl ⟨rfl, hd_X5_isLit⟩ ⟨Nat.le_of_ble_eq_true rfl, Nat.le_of_ble_eq_true rfl⟩ hK hP [0, 1, 2] rfl 0 5 rfl rfl rfl hl.1 rfl rfl (Nat.le_of_ble_eq_true rfl) dX5_isFit_34 ⟨Nat.le_of_ble_eq_true rfl, Nat.le_of_ble_eq_true rfl⟩ (fun r_34 h_34 => ?_)
    subst h_34
    refine lv_aload_n hx hb dX5_isFit_37 rfl (lv_at hl 0 rfl) ?_
    refine va_get (D := D) (ci := 5) (C := RX5) (T := TX5) (N := 19) hx hb hts inc_X5_isFit_5 hown hK hP 0 rfl rfl 13 (by decide) (hts (.fieldLink RX5 26 "BedHouseModel" "now" "[I") (by decide +kernel)) (fun _ h9 => h9) rfl dX5_isFit_38 ?_
    refine lv_iconst (v := zI 5) hx hb dX5_isFit_41 rfl ?_
    refine lv_iconst (v := zI 2) hx hb dX5_isFit_42 rfl ?_
    refine lv_iload_n hx hb dX5_isFit_43 rfl (lv_at hl 3 rfl) ?_
    refine z_imul hx hb dX5_isFit_44 ?_
    refine z_iadd hx hb dX5_isFit_45 ?_
    refine lv_iconst (v := zI 1) hx hb dX5_isFit_46 rfl ?_
    refine z_iadd hx hb dX5_isFit_47 ?_
    refine z_iald hx hb hK hP 4 1 rfl rfl (Nat.le_of_ble_eq_true rfl) dX5_isFit_48 (by omega) ?_
    refine lv_iconst (v := zI 1) hx hb dX5_isFit_49 rfl ?_
    refine z_icmp_ne (tgt := 57) hx hb dX5_isFit_50 (by decide) (by omega) (fun c_50 => ?_) (fun c_50 => ?_)
    · skip
      refine lv_iconst (v := zI 0) hx hb dX5_isFit_57 rfl ?_
      have hz01 := zb_01 (liM (slI (f2 0) h) f3 (f2 0) (f2 3) (f6 (5 + 2 * k)))
      refine z_icmp_ne (tgt := 65) hx hb dX5_isFit_58 (by decide) (by omega) (fun c_58 => ?_) (fun c_58 => ?_)
      · skip
        refine lv_iconst (v := zI 0) hx hb dX5_isFit_65 rfl ?_
        refine lv_istore_n (lv' := [(2, .int (zI 0)), (0, .ref o0), (1, .int (zI h)), (3, .int (zI k))]) hx hb dX5_isFit_66 rfl hl (by decide) rfl (fun ls hl => ?_)
        refine z_iinc (a := k) (k := 3) (lv' := [(3, .int (zI (k + 1))), (2, .int (zI 0)), (0, .ref o0), (1, .int (zI h))]) hx hb dX5_isFit_67 hl rfl (by decide) rfl (fun ls hl => ?_)
        refine lv_goto (tgt := 8) hx hb dX5_isFit_70 (by decide) ?_
        exact ih n (k + 1) 0 (by omega) (by omega) (by omega) (by rw [← hv, cuM, decide_eq_true (show a = 1 by omega), Bool.true_and]; congr 1; have hcl1 := hcl k (by omega) (by omega); by_cases q1 : liM (slI (f2 0) h) f3 (f2 0) (f2 3) (f6 (5 + 2 * k)); (rw [zb_1 q1] at c_58; simp [q1]; omega); (rw [zb_0 q1] at c_58; simp [q1]; omega)) _ (lv_sub hl [2, 3, 1, 0] rfl)
      refine lv_iconst (v := zI 1) hx hb dX5_isFit_61 rfl ?_
      refine lv_goto (tgt := 66) hx hb dX5_isFit_62 (by decide) ?_
      refine lv_istore_n (lv' := [(2, .int (zI 1)), (0, .ref o0), (1, .int (zI h)), (3, .int (zI k))]) hx hb dX5_isFit_66 rfl hl (by decide) rfl (fun ls hl => ?_)
      refine z_iinc (a := k) (k := 3) (lv' := [(3, .int (zI (k + 1))), (2, .int (zI 1)), (0, .ref o0), (1, .int (zI h))]) hx hb dX5_isFit_67 hl rfl (by decide) rfl (fun ls hl => ?_)
      refine lv_goto (tgt := 8) hx hb dX5_isFit_70 (by decide) ?_
      exact ih n (k + 1) 1 (by omega) (by omega) (by omega) (by rw [← hv, cuM, decide_eq_true (show a = 1 by omega), Bool.true_and]; congr 1; have hcl1 := hcl k (by omega) (by omega); by_cases q1 : liM (slI (f2 0) h) f3 (f2 0) (f2 3) (f6 (5 + 2 * k)); (rw [zb_1 q1] at c_58; simp [q1]; omega); (rw [zb_0 q1] at c_58; simp [q1]; omega)) _ (lv_sub hl [2, 3, 1, 0] rfl)
    refine lv_iconst (v := zI 1) hx hb dX5_isFit_53 rfl ?_
    refine lv_goto (tgt := 58) hx hb dX5_isFit_54 (by decide) ?_
    have hz01 := zb_01 (liM (slI (f2 0) h) f3 (f2 0) (f2 3) (f6 (5 + 2 * k)))
    refine z_icmp_ne (tgt := 65) hx hb dX5_isFit_58 (by decide) (by omega) (fun c_58 => ?_) (fun c_58 => ?_)
    · skip
      refine lv_iconst (v := zI 0) hx hb dX5_isFit_65 rfl ?_
      refine lv_istore_n (lv' := [(2, .int (zI 0)), (0, .ref o0), (1, .int (zI h)), (3, .int (zI k))]) hx hb dX5_isFit_66 rfl hl (by decide) rfl (fun ls hl => ?_)
      refine z_iinc (a := k) (k := 3) (lv' := [(3, .int (zI (k + 1))), (2, .int (zI 0)), (0, .ref o0), (1, .int (zI h))]) hx hb dX5_isFit_67 hl rfl (by decide) rfl (fun ls hl => ?_)
      refine lv_goto (tgt := 8) hx hb dX5_isFit_70 (by decide) ?_
      exact ih n (k + 1) 0 (by omega) (by omega) (by omega) (by rw [← hv, cuM, decide_eq_true (show a = 1 by omega), Bool.true_and]; congr 1; have hcl1 := hcl k (by omega) (by omega); by_cases q1 : liM (slI (f2 0) h) f3 (f2 0) (f2 3) (f6 (5 + 2 * k)); (rw [zb_1 q1] at c_58; simp [q1]; omega); (rw [zb_0 q1] at c_58; simp [q1]; omega)) _ (lv_sub hl [2, 3, 1, 0] rfl)
    refine lv_iconst (v := zI 1) hx hb dX5_isFit_61 rfl ?_
    refine lv_goto (tgt := 66) hx hb dX5_isFit_62 (by decide) ?_
    refine lv_istore_n (lv' := [(2, .int (zI 1)), (0, .ref o0), (1, .int (zI h)), (3, .int (zI k))]) hx hb dX5_isFit_66 rfl hl (by decide) rfl (fun ls hl => ?_)
    refine z_iinc (a := k) (k := 3) (lv' := [(3, .int (zI (k + 1))), (2, .int (zI 1)), (0, .ref o0), (1, .int (zI h))]) hx hb dX5_isFit_67 hl rfl (by decide) rfl (fun ls hl => ?_)
    refine lv_goto (tgt := 8) hx hb dX5_isFit_70 (by decide) ?_
    exact ih n (k + 1) 1 (by omega) (by omega) (by omega) (by rw [← hv, cuM, decide_eq_true (show a = 1 by omega), Bool.true_and]; congr 1; have hcl1 := hcl k (by omega) (by omega); by_cases q1 : liM (slI (f2 0) h) f3 (f2 0) (f2 3) (f6 (5 + 2 * k)); (rw [zb_1 q1] at c_58; simp [q1]; omega); (rw [zb_0 q1] at c_58; simp [q1]; omega)) _ (lv_sub hl [2, 3, 1, 0] rfl)
set_option maxHeartbeats 4000000 in
set_option maxRecDepth 100000 in
theorem c_X5_isFit (l : Launch) (D : va_G) (cB cI cZ cM : ClassId) (Hp : Heap) (o0 : Nat) (o1 : Nat) (o2 : Nat) (o3 : Nat) (o4 : Nat) (o5 : Nat) (o6 : Nat) (o7 : Nat) (o8 : Nat) (o9 : Nat) (oz : Nat) (tr : Int64) (td : Int) (g1 : Int) (g2 : Int) (g3 : Int) (g4 : Int) (g5 : Int) (g6 : Int) (g7 : Int) (f2 : Int → Int) (f3 : Int → Int) (f5 : Int → Int) (f6 : Int → Int) (h : Int) (hp2 : okR f2 f3 f5) (hn6 : okN f2 f6) (hh : 0 ≤ h ∧ h < pw9 (f2 0)) : cP l yX5_isFit wsX5_isFit 6 135 D (TYS cB cI cZ cM) [.ref o0, .int (zI h)] [(o0, .inr (5, [.long tr, .ref o1, .int (zI td), .ref o2, .ref o3, .ref o4, .ref o5, .int (zI g1), .int (zI g2), .int (zI g3), .int (zI g4), .int (zI g5), .int (zI g6), .ref o6, .ref o7, .ref o8, .ref o9, .int (zI g7), .ref oz])), (o2, .inl (cI, 16, .inl (zia f2))), (o3, .inl (cI, 8, .inl (zia f3))), (o5, .inl (cI, 4, .inl (zia f5))), (o6, .inl (cI, 63, .inl (zia f6)))] Hp (fun r => r = zI (zb (ftM f2 f3 f5 f6 h = true))) := by
  refine pu_start (by decide) rfl (Nat.le_of_ble_eq_true rfl) ?_
  intro pg ev sx mm args below meth cd ls M hP hK hl
  obtain ⟨hx, hb, hr, hml, hown, hts, hlk, hN0⟩ := id M
  have hl : lv_has ls 4 [(0, .ref o0), (1, .int (zI h))] := hl
  obtain ⟨hPm, hB1, hra, hsu, hvw, hno, hdn6, hha7, hso, hbm⟩ := id hp2
  obtain ⟨hhm, hdy, hac, hlk, hmn, hcl⟩ := id hn6
  have h9r := pw9_rng (n := f2 0) (by omega)
  refine lv_aload_n hx hb dX5_isFit_0 rfl (lv_at hl 0 rfl) ?_
  refine lv_iload_n hx hb dX5_isFit_1 rfl (lv_at hl 1 rfl) ?_
  refine pc_V (As := [.int (zI h)]) (rest := []) M (c_X5_isLawful l D cB cI cZ cM _ o0 o1 o2 o3 o4 o5 o6 o7 o8 o9 oz tr td g1 g2 g3 g4 g5 g6 g7 f2 f3 f5 h (by first | assumption | omega) (by first | assumption | omega) (by first | assumption | omega) (by first | assumption | omega) (by first | assumption | omega) (by first | assumption | omega)) gX5_isFit_X5_isLawful rfl ⟨rfl, hd_X5_isLawful⟩ ⟨Nat.le_of_ble_eq_true rfl, Nat.le_of_ble_eq_true rfl⟩ hK hP [0, 1, 2, 3] rfl 0 5 rfl rfl rfl hl.1 rfl rfl (Nat.le_of_ble_eq_true rfl) dX5_isFit_2 ⟨Nat.le_of_ble_eq_true rfl, Nat.le_of_ble_eq_true rfl⟩ (fun r_2 h_2 => ?_)
  subst h_2
  refine lv_istore_n (lv' := [(2, .int (zI (zb (mlw (slI (f2 0) h) f3 f5 (f2 0) (f2 1) (f2 6) = true)))), (0, .ref o0), (1, .int (zI h))]) hx hb dX5_isFit_5 rfl hl (by decide) rfl (fun ls hl => ?_)
  refine lv_iconst (v := zI 0) hx hb dX5_isFit_6 rfl ?_
  refine lv_istore_n (lv' := [(3, .int (zI 0)), (2, .int (zI (zb (mlw (slI (f2 0) h) f3 f5 (f2 0) (f2 1) (f2 6) = true)))), (0, .ref o0), (1, .int (zI h))]) hx hb dX5_isFit_7 rfl hl (by decide) rfl (fun ls hl => ?_)
  exact lp_X5_isFit_8 l D cB cI cZ cM o0 o1 o2 o3 o4 o5 o6 o7 o8 o9 oz tr td g1 g2 g3 g4 g5 g6 g7 f2 f3 f5 f6 h hp2 hn6 hh M hP hK (((f6 4).toNat) + 1) ((f6 4).toNat) 0 (zb (mlw (slI (f2 0) h) f3 f5 (f2 0) (f2 1) (f2 6) = true)) (Nat.lt_succ_self _) (by omega) (by exact zb_01 _) (by rw [show decide (zb (mlw (slI (f2 0) h) f3 f5 (f2 0) (f2 1) (f2 6) = true) = 1) = mlw (slI (f2 0) h) f3 f5 (f2 0) (f2 1) (f2 6) from zb_dec _]; rfl) _ (lv_sub hl [2, 3, 1, 0] rfl)
set_option maxHeartbeats 4000000 in
set_option maxRecDepth 100000 in
theorem lp_X5_fit_4 (l : Launch) (D : va_G) (cB cI cZ cM : ClassId) (o0 : Nat) (o1 : Nat) (o2 : Nat) (o3 : Nat) (o4 : Nat) (o5 : Nat) (o6 : Nat) (o7 : Nat) (o8 : Nat) (o9 : Nat) (oz : Nat) (tr : Int64) (td : Int) (g1 : Int) (g2 : Int) (g3 : Int) (g4 : Int) (g5 : Int) (g6 : Int) (g7 : Int) (f2 : Int → Int) (f3 : Int → Int) (f5 : Int → Int) (f6 : Int → Int) (hp2 : okR f2 f3 f5) (hn6 : okN f2 f6) {pg : Program} {ev : Env} {sx : State} {mm : MethodId} {args : Array Value} {below : List Frame} {meth : Method} {cd : Code} (M : MX pg sx mm args meth cd cX5_fit 3 (some .int) RX5 wsX5_fit) (hP : va_P D vwCl [(o0, .inr (5, [.long tr, .ref o1, .int (zI td), .ref o2, .ref o3, .ref o4, .ref o5, .int (zI g1), .int (zI g2), .int (zI g3), .int (zI g4), .int (zI g5), .int (zI g6), .ref o6, .ref o7, .ref o8, .ref o9, .int (zI g7), .ref oz])), (o2, .inl (cI, 16, .inl (zia f2))), (o3, .inl (cI, 8, .inl (zia f3))), (o5, .inl (cI, 4, .inl (zia f5))), (o6, .inl (cI, 63, .inl (zia f6)))] sx.heap) (hK : va_K D vwCl (TYS cB cI cZ cM) sx) : ∀ (N : Nat) (n : Nat) (h : Int) (a : Int), (n < N) → (0 ≤ h ∧ h + n = pw9 (f2 0)) → (0 ≤ a ∧ a ≤ h) → (a + fcM f2 f3 f5 f6 n h = fcM f2 f3 f5 f6 (pw9 (f2 0)).toNat 0) → ∀ ls : Array Slot, lv_has ls 3 [(0, .ref o0), (1, .int (zI a)), (2, .int (zI h))] → W pg l ev (rmP 7 158) sx mm args below meth cd sx.heap [] 0 0 (QP below args sx (fun r => r = zI (fcM f2 f3 f5 f6 (pw9 (f2 0)).toNat 0))) (F0 mm 4 ls []) := by
  intro N
  induction N with
  | zero => intro n h a hN; exact absurd hN (Nat.not_lt_zero _)
  | succ N ih =>
    intro n h a hN hi ha hv ls hl
    obtain ⟨hx, hb, hr, hml, hown, hts, hlk, hN0⟩ := id M
    obtain ⟨hPm, hB1, hra, hsu, hvw, hno, hdn6, hha7, hso, hbm⟩ := id hp2
    obtain ⟨hhm, hdy, hac, hlk, hmn, hcl⟩ := id hn6
    have h9r := pw9_rng (n := f2 0) (by omega)
    refine lv_iload_n hx hb dX5_fit_4 rfl (lv_at hl 2 rfl) ?_
    refine lv_aload_n hx hb dX5_fit_5 rfl (lv_at hl 0 rfl) ?_
    refine pc_V (As := []) (rest := [.int (zI h)]) M (c_X5_houses l D cB cI cZ cM _ o0 o1 o2 o3 o4 o5 o6 o7 o8 o9 oz tr td g1 g2 g3 g4 g5 g6 g7 f2 (by first | assumption | omega)) gX5_fit_X5_houses rfl ⟨rfl, hd_X5_houses⟩ ⟨Nat.le_of_ble_eq_true rfl, Nat.le_of_ble_eq_true rfl⟩ hK hP [0, 1] rfl 0 5 rfl rfl rfl hl.1 rfl rfl (Nat.le_of_ble_eq_true rfl) dX5_fit_6 ⟨Nat.le_of_ble_eq_true rfl, Nat.le_of_ble_eq_true rfl⟩ (fun r_6 h_6 => ?_)
    subst h_6
    refine z_icmp_ge (tgt := 34) hx hb dX5_fit_9 (by decide) (by omega) (fun c_9 => ?_) (fun c_9 => ?_)
    · skip
      obtain rfl : n = 0 := by omega
      refine lv_iload_n hx hb dX5_fit_34 rfl (lv_at hl 1 rfl) ?_
      exact pu_ret M dX5_fit_35 (congrArg zI (by rw [← hv, fcM]; omega))
    obtain ⟨n, rfl⟩ : ∃ j : Nat, n = j + 1 := ⟨n - 1, by omega⟩
    refine lv_iload_n hx hb dX5_fit_12 rfl (lv_at hl 1 rfl) ?_
    refine lv_aload_n hx hb dX5_fit_13 rfl (lv_at hl 0 rfl) ?_
    refine lv_iload_n hx hb dX5_fit_14 rfl (lv_at hl 2 rfl) ?_
    refine pc_V (As := [.int (zI h)]) (rest := [.int (zI a)]) M (c_X5_isFit l D cB cI cZ cM _ o0 o1 o2 o3 o4 o5 o6 o7 o8 o9 oz tr td g1 g2 g3 g4 g5 g6 g7 f2 f3 f5 f6 h (by first | assumption | omega) (by first | assumption | omega) (by first | assumption | omega)) gX5_fit_X5_isFit rfl ⟨rfl, hd_X5_isFit⟩ ⟨Nat.le_of_ble_eq_true rfl, Nat.le_of_ble_eq_true rfl⟩ hK hP [0, 1, 2, 3, 4] rfl 0 5 rfl rfl rfl hl.1 rfl rfl (Nat.le_of_ble_eq_true rfl) dX5_fit_15 ⟨Nat.le_of_ble_eq_true rfl, Nat.le_of_ble_eq_true rfl⟩ (fun r_15 h_15 => ?_)
    subst h_15
    refine z_if_eq (tgt := 25) hx hb dX5_fit_18 (by decide) (zb_bd _) (fun c_18 => ?_) (fun c_18 => ?_)
    · skip
      have c_18 := zb_f c_18
      refine lv_iconst (v := zI 0) hx hb dX5_fit_25 rfl ?_
      refine z_iadd hx hb dX5_fit_26 ?_
      refine lv_istore_n (lv' := [(1, .int (zI (a + 0))), (0, .ref o0), (2, .int (zI h))]) hx hb dX5_fit_27 rfl hl (by decide) rfl (fun ls hl => ?_)
      refine z_iinc (a := h) (k := 2) (lv' := [(2, .int (zI (h + 1))), (1, .int (zI (a + 0))), (0, .ref o0)]) hx hb dX5_fit_28 hl rfl (by decide) rfl (fun ls hl => ?_)
      refine lv_goto (tgt := 4) hx hb dX5_fit_31 (by decide) ?_
      exact ih n (h + 1) (a + 0) (by omega) (by omega) (by omega) (by rw [← hv, fcM, if_neg c_18]; omega) _ (lv_sub hl [2, 1, 0] rfl)
    have c_18 := zb_t c_18
    refine lv_iconst (v := zI 1) hx hb dX5_fit_21 rfl ?_
    refine lv_goto (tgt := 26) hx hb dX5_fit_22 (by decide) ?_
    refine z_iadd hx hb dX5_fit_26 ?_
    refine lv_istore_n (lv' := [(1, .int (zI (a + 1))), (0, .ref o0), (2, .int (zI h))]) hx hb dX5_fit_27 rfl hl (by decide) rfl (fun ls hl => ?_)
    refine z_iinc (a := h) (k := 2) (lv' := [(2, .int (zI (h + 1))), (1, .int (zI (a + 1))), (0, .ref o0)]) hx hb dX5_fit_28 hl rfl (by decide) rfl (fun ls hl => ?_)
    refine lv_goto (tgt := 4) hx hb dX5_fit_31 (by decide) ?_
    exact ih n (h + 1) (a + 1) (by omega) (by omega) (by omega) (by rw [← hv, fcM, if_pos c_18]; omega) _ (lv_sub hl [2, 1, 0] rfl)
set_option maxHeartbeats 4000000 in
set_option maxRecDepth 100000 in
theorem c_X5_fit (l : Launch) (D : va_G) (cB cI cZ cM : ClassId) (Hp : Heap) (o0 : Nat) (o1 : Nat) (o2 : Nat) (o3 : Nat) (o4 : Nat) (o5 : Nat) (o6 : Nat) (o7 : Nat) (o8 : Nat) (o9 : Nat) (oz : Nat) (tr : Int64) (td : Int) (g1 : Int) (g2 : Int) (g3 : Int) (g4 : Int) (g5 : Int) (g6 : Int) (g7 : Int) (f2 : Int → Int) (f3 : Int → Int) (f5 : Int → Int) (f6 : Int → Int) (hp2 : okR f2 f3 f5) (hn6 : okN f2 f6) : cP l yX5_fit wsX5_fit 7 158 D (TYS cB cI cZ cM) [.ref o0] [(o0, .inr (5, [.long tr, .ref o1, .int (zI td), .ref o2, .ref o3, .ref o4, .ref o5, .int (zI g1), .int (zI g2), .int (zI g3), .int (zI g4), .int (zI g5), .int (zI g6), .ref o6, .ref o7, .ref o8, .ref o9, .int (zI g7), .ref oz])), (o2, .inl (cI, 16, .inl (zia f2))), (o3, .inl (cI, 8, .inl (zia f3))), (o5, .inl (cI, 4, .inl (zia f5))), (o6, .inl (cI, 63, .inl (zia f6)))] Hp (fun r => r = zI (fcM f2 f3 f5 f6 (pw9 (f2 0)).toNat 0)) := by
  refine pu_start (by decide) rfl (Nat.le_of_ble_eq_true rfl) ?_
  intro pg ev sx mm args below meth cd ls M hP hK hl
  obtain ⟨hx, hb, hr, hml, hown, hts, hlk, hN0⟩ := id M
  have hl : lv_has ls 3 [(0, .ref o0)] := hl
  obtain ⟨hPm, hB1, hra, hsu, hvw, hno, hdn6, hha7, hso, hbm⟩ := id hp2
  obtain ⟨hhm, hdy, hac, hlk, hmn, hcl⟩ := id hn6
  have h9r := pw9_rng (n := f2 0) (by omega)
  refine lv_iconst (v := zI 0) hx hb dX5_fit_0 rfl ?_
  refine lv_istore_n (lv' := [(1, .int (zI 0)), (0, .ref o0)]) hx hb dX5_fit_1 rfl hl (by decide) rfl (fun ls hl => ?_)
  refine lv_iconst (v := zI 0) hx hb dX5_fit_2 rfl ?_
  refine lv_istore_n (lv' := [(2, .int (zI 0)), (1, .int (zI 0)), (0, .ref o0)]) hx hb dX5_fit_3 rfl hl (by decide) rfl (fun ls hl => ?_)
  exact lp_X5_fit_4 l D cB cI cZ cM o0 o1 o2 o3 o4 o5 o6 o7 o8 o9 oz tr td g1 g2 g3 g4 g5 g6 g7 f2 f3 f5 f6 hp2 hn6 M hP hK (((pw9 (f2 0)).toNat) + 1) ((pw9 (f2 0)).toNat) 0 0 (Nat.lt_succ_self _) (by omega) (by omega) (by omega) _ (lv_sub hl [2, 1, 0] rfl)
set_option maxHeartbeats 4000000 in
set_option maxRecDepth 100000 in
theorem lp_X5_sure_57 (l : Launch) (D : va_G) (cB cI cZ cM : ClassId) (o0 : Nat) (o1 : Nat) (o2 : Nat) (o3 : Nat) (o4 : Nat) (o5 : Nat) (o6 : Nat) (o7 : Nat) (o8 : Nat) (o9 : Nat) (oz : Nat) (tr : Int64) (td : Int) (g1 : Int) (g2 : Int) (g3 : Int) (g4 : Int) (g5 : Int) (g6 : Int) (g7 : Int) (f2 : Int → Int) (f3 : Int → Int) (f5 : Int → Int) (f6 : Int → Int) (p : Int) (hp2 : okR f2 f3 f5) (hn6 : okN f2 f6) (hp0 : -2147483648 ≤ p ∧ p < 2147483648) {pg : Program} {ev : Env} {sx : State} {mm : MethodId} {args : Array Value} {below : List Frame} {meth : Method} {cd : Code} (M : MX pg sx mm args meth cd cX5_sure 5 (some .int) RX5 wsX5_sure) (hP : va_P D vwCl [(o0, .inr (5, [.long tr, .ref o1, .int (zI td), .ref o2, .ref o3, .ref o4, .ref o5, .int (zI g1), .int (zI g2), .int (zI g3), .int (zI g4), .int (zI g5), .int (zI g6), .ref o6, .ref o7, .ref o8, .ref o9, .int (zI g7), .ref oz])), (o2, .inl (cI, 16, .inl (zia f2))), (o3, .inl (cI, 8, .inl (zia f3))), (o5, .inl (cI, 4, .inl (zia f5))), (o6, .inl (cI, 63, .inl (zia f6)))] sx.heap) (hK : va_K D vwCl (TYS cB cI cZ cM) sx) : ∀ (N : Nat) (n : Nat) (k : Int) (a : Int) (t : Int), (n < N) → (0 ≤ p ∧ p < f2 0) → (0 ≤ k ∧ k + n = 9) → (-9 ≤ a ∧ a ≤ 8) → (0 ≤ t ∧ t < 512) → (skM t n k a = skM (suM f2 f3 f5 f6 p (pw9 (f2 0)).toNat 0 0) 9 0 (-9)) → ∀ ls : Array Slot, lv_has ls 5 [(0, .ref o0), (1, .int (zI p)), (2, .int (zI t)), (3, .int (zI a)), (4, .int (zI k))] → W pg l ev (rmP 7 158) sx mm args below meth cd sx.heap [] 0 0 (QP below args sx (fun r => r = zI (if 0 ≤ p ∧ p < f2 0 then skM (suM f2 f3 f5 f6 p (pw9 (f2 0)).toNat 0 0) 9 0 (-9) else -1))) (F0 mm 57 ls []) := by
  intro N
  induction N with
  | zero => intro n k a t hN; exact absurd hN (Nat.not_lt_zero _)
  | succ N ih =>
    intro n k a t hN hp1 hi ha ht hv ls hl
    obtain ⟨hx, hb, hr, hml, hown, hts, hlk, hN0⟩ := id M
    refine lv_iload hx hb dX5_sure_57 (lv_at hl 4 rfl) ?_
    refine lv_bipush (v := zI 8) hx hb dX5_sure_59 (by decide) ?_
    refine z_icmp_gt (tgt := 85) hx hb dX5_sure_61 (by decide) (by omega) (fun c_61 => ?_) (fun c_61 => ?_)
    · skip
      obtain rfl : n = 0 := by omega
      refine lv_iload_n hx hb dX5_sure_85 rfl (lv_at hl 3 rfl) ?_
      exact pu_ret M dX5_sure_86 (congrArg zI (by rw [if_pos hp1, ← hv, skM]))
    obtain ⟨n, rfl⟩ : ∃ x : Nat, n = x + 1 := ⟨n - 1, by omega⟩
    refine lv_iload_n hx hb dX5_sure_64 rfl (lv_at hl 2 rfl) ?_
    refine lv_iconst (v := zI 1) hx hb dX5_sure_65 rfl ?_
    refine lv_iload hx hb dX5_sure_66 (lv_at hl 4 rfl) ?_
    have hpw : 0 ≤ zpw k ∧ zpw k < 512 := ⟨zpw_nn _, zpw_lt (n := 9) (by omega) (by omega)⟩
    refine z_ishl1 hx hb dX5_sure_68 (by omega) ?_
    refine z_icmp_ne (tgt := 77) hx hb dX5_sure_69 (by decide) (by omega) (fun c_69 => ?_) (fun c_69 => ?_)
    · skip
      refine lv_iload_n hx hb dX5_sure_77 rfl (lv_at hl 3 rfl) ?_
      refine lv_istore_n (lv' := [(3, .int (zI a)), (0, .ref o0), (1, .int (zI p)), (2, .int (zI t)), (4, .int (zI k))]) hx hb dX5_sure_78 rfl hl (by decide) rfl (fun ls hl => ?_)
      refine z_iinc (a := k) (k := 4) (lv' := [(4, .int (zI (k + 1))), (3, .int (zI a)), (0, .ref o0), (1, .int (zI p)), (2, .int (zI t))]) hx hb dX5_sure_79 hl rfl (by decide) rfl (fun ls hl => ?_)
      refine lv_goto (tgt := 57) hx hb dX5_sure_82 (by decide) ?_
      exact ih n (k + 1) a t (by omega) (by assumption) (by omega) (by omega) (by assumption) (by rw [← hv, skM, if_neg c_69]) _ (lv_sub hl [2, 3, 4, 1, 0] rfl)
    refine lv_iload hx hb dX5_sure_72 (lv_at hl 4 rfl) ?_
    refine lv_goto (tgt := 78) hx hb dX5_sure_74 (by decide) ?_
    refine lv_istore_n (lv' := [(3, .int (zI k)), (0, .ref o0), (1, .int (zI p)), (2, .int (zI t)), (4, .int (zI k))]) hx hb dX5_sure_78 rfl hl (by decide) rfl (fun ls hl => ?_)
    refine z_iinc (a := k) (k := 4) (lv' := [(4, .int (zI (k + 1))), (3, .int (zI k)), (0, .ref o0), (1, .int (zI p)), (2, .int (zI t))]) hx hb dX5_sure_79 hl rfl (by decide) rfl (fun ls hl => ?_)
    refine lv_goto (tgt := 57) hx hb dX5_sure_82 (by decide) ?_
    exact ih n (k + 1) k t (by omega) (by assumption) (by omega) (by omega) (by assumption) (by rw [← hv, skM, if_pos c_69]) _ (lv_sub hl [2, 3, 4, 1, 0] rfl)
set_option maxHeartbeats 4000000 in
set_option maxRecDepth 100000 in
theorem lp_X5_sure_14 (l : Launch) (D : va_G) (cB cI cZ cM : ClassId) (o0 : Nat) (o1 : Nat) (o2 : Nat) (o3 : Nat) (o4 : Nat) (o5 : Nat) (o6 : Nat) (o7 : Nat) (o8 : Nat) (o9 : Nat) (oz : Nat) (tr : Int64) (td : Int) (g1 : Int) (g2 : Int) (g3 : Int) (g4 : Int) (g5 : Int) (g6 : Int) (g7 : Int) (f2 : Int → Int) (f3 : Int → Int) (f5 : Int → Int) (f6 : Int → Int) (p : Int) (hp2 : okR f2 f3 f5) (hn6 : okN f2 f6) (hp0 : -2147483648 ≤ p ∧ p < 2147483648) {pg : Program} {ev : Env} {sx : State} {mm : MethodId} {args : Array Value} {below : List Frame} {meth : Method} {cd : Code} (M : MX pg sx mm args meth cd cX5_sure 5 (some .int) RX5 wsX5_sure) (hP : va_P D vwCl [(o0, .inr (5, [.long tr, .ref o1, .int (zI td), .ref o2, .ref o3, .ref o4, .ref o5, .int (zI g1), .int (zI g2), .int (zI g3), .int (zI g4), .int (zI g5), .int (zI g6), .ref o6, .ref o7, .ref o8, .ref o9, .int (zI g7), .ref oz])), (o2, .inl (cI, 16, .inl (zia f2))), (o3, .inl (cI, 8, .inl (zia f3))), (o5, .inl (cI, 4, .inl (zia f5))), (o6, .inl (cI, 63, .inl (zia f6)))] sx.heap) (hK : va_K D vwCl (TYS cB cI cZ cM) sx) : ∀ (N : Nat) (n : Nat) (h : Int) (t : Int), (n < N) → (0 ≤ p ∧ p < f2 0) → (0 ≤ h ∧ h + n = pw9 (f2 0)) → (0 ≤ t ∧ t < 512) → (suM f2 f3 f5 f6 p n h t = suM f2 f3 f5 f6 p (pw9 (f2 0)).toNat 0 0) → ∀ ls : Array Slot, lv_has ls 5 [(0, .ref o0), (1, .int (zI p)), (2, .int (zI t)), (3, .int (zI h))] → W pg l ev (rmP 7 158) sx mm args below meth cd sx.heap [] 0 0 (QP below args sx (fun r => r = zI (if 0 ≤ p ∧ p < f2 0 then skM (suM f2 f3 f5 f6 p (pw9 (f2 0)).toNat 0 0) 9 0 (-9) else -1))) (F0 mm 14 ls []) := by
  intro N
  induction N with
  | zero => intro n h t hN; exact absurd hN (Nat.not_lt_zero _)
  | succ N ih =>
    intro n h t hN hp1 hi ht hv ls hl
    obtain ⟨hx, hb, hr, hml, hown, hts, hlk, hN0⟩ := id M
    obtain ⟨hPm, hB1, hra, hsu, hvw, hno, hdn6, hha7, hso, hbm⟩ := id hp2
    obtain ⟨hhm, hdy, hac, hlk, hmn, hcl⟩ := id hn6
    have h9r := pw9_rng (n := f2 0) (by omega)
    refine lv_iload_n hx hb dX5_sure_14 rfl (lv_at hl 3 rfl) ?_
    refine lv_aload_n hx hb dX5_sure_15 rfl (lv_at hl 0 rfl) ?_
    refine pc_V (As := []) (rest := [.int (zI h)]) M (c_X5_houses l D cB cI cZ cM _ o0 o1 o2 o3 o4 o5 o6 o7 o8 o9 oz tr td g1 g2 g3 g4 g5 g6 g7 f2 (by first | assumption | omega)) gX5_sure_X5_houses rfl ⟨rfl, hd_X5_houses⟩ ⟨Nat.le_of_ble_eq_true rfl, Nat.le_of_ble_eq_true rfl⟩ hK hP [0, 1] rfl 0 5 rfl rfl rfl hl.1 rfl rfl (Nat.le_of_ble_eq_true rfl) dX5_sure_16 ⟨Nat.le_of_ble_eq_true rfl, Nat.le_of_ble_eq_true rfl⟩ (fun r_16 h_16 => ?_)
    subst h_16
    refine z_icmp_ge (tgt := 51) hx hb dX5_sure_19 (by decide) (by omega) (fun c_19 => ?_) (fun c_19 => ?_)
    · skip
      obtain rfl : n = 0 := by omega
      refine lv_bipush (v := zI (-9)) hx hb dX5_sure_51 (by decide) ?_
      refine lv_istore_n (lv' := [(3, .int (zI (-9))), (0, .ref o0), (1, .int (zI p)), (2, .int (zI t))]) hx hb dX5_sure_53 rfl hl (by decide) rfl (fun ls hl => ?_)
      refine lv_iconst (v := zI 0) hx hb dX5_sure_54 rfl ?_
      refine lv_istore (lv' := [(4, .int (zI 0)), (3, .int (zI (-9))), (0, .ref o0), (1, .int (zI p)), (2, .int (zI t))]) hx hb dX5_sure_55 hl (by decide) rfl (fun ls hl => ?_)
      exact lp_X5_sure_57 l D cB cI cZ cM o0 o1 o2 o3 o4 o5 o6 o7 o8 o9 oz tr td g1 g2 g3 g4 g5 g6 g7 f2 f3 f5 f6 p hp2 hn6 hp0 M hP hK (9 + 1) 9 0 (-9) t (Nat.lt_succ_self _) (by assumption) (by omega) (by omega) (by assumption) (by rw [show t = suM f2 f3 f5 f6 p (pw9 (f2 0)).toNat 0 0 by rw [← hv, suM]]) _ (lv_sub hl [2, 3, 4, 1, 0] rfl)
    obtain ⟨n, rfl⟩ : ∃ j : Nat, n = j + 1 := ⟨n - 1, by omega⟩
    refine lv_iload_n hx hb dX5_sure_22 rfl (lv_at hl 2 rfl) ?_
    refine lv_aload_n hx hb dX5_sure_23 rfl (lv_at hl 0 rfl) ?_
    refine lv_iload_n hx hb dX5_sure_24 rfl (lv_at hl 3 rfl) ?_
    refine pc_V (As := [.int (zI h)]) (rest := [.int (zI t)]) M (c_X5_isFit l D cB cI cZ cM _ o0 o1 o2 o3 o4 o5 o6 o7 o8 o9 oz tr td g1 g2 g3 g4 g5 g6 g7 f2 f3 f5 f6 h (by first | assumption | omega) (by first | assumption | omega) (by first | assumption | omega)) gX5_sure_X5_isFit rfl ⟨rfl, hd_X5_isFit⟩ ⟨Nat.le_of_ble_eq_true rfl, Nat.le_of_ble_eq_true rfl⟩ hK hP [0, 1, 2, 3, 4] rfl 0 5 rfl rfl rfl hl.1 rfl rfl (Nat.le_of_ble_eq_true rfl) dX5_sure_25 ⟨Nat.le_of_ble_eq_true rfl, Nat.le_of_ble_eq_true rfl⟩ (fun r_25 h_25 => ?_)
    subst h_25
    refine z_if_eq (tgt := 42) hx hb dX5_sure_28 (by decide) (zb_bd _) (fun c_28 => ?_) (fun c_28 => ?_)
    · skip
      have c_28 := zb_f c_28
      refine lv_iconst (v := zI 0) hx hb dX5_sure_42 rfl ?_
      refine z_ior hx hb dX5_sure_43 (⟨by omega, by first | omega | exact zpw_nn _⟩) ?_
      refine lv_istore_n (lv' := [(2, .int (zI (zbor t 0))), (0, .ref o0), (1, .int (zI p)), (3, .int (zI h))]) hx hb dX5_sure_44 rfl hl (by decide) rfl (fun ls hl => ?_)
      refine z_iinc (a := h) (k := 3) (lv' := [(3, .int (zI (h + 1))), (2, .int (zI (zbor t 0))), (0, .ref o0), (1, .int (zI p))]) hx hb dX5_sure_45 hl rfl (by decide) rfl (fun ls hl => ?_)
      refine lv_goto (tgt := 14) hx hb dX5_sure_48 (by decide) ?_
      exact ih n (h + 1) (zbor t 0) (by omega) (by assumption) (by omega) (by exact ⟨zbor_nn _ _, zbor_lt 9 (by omega) (by first | omega | exact zpw_lt (n := 9) (by omega) (by omega))⟩) (by rw [← hv, suM, if_neg c_28]) _ (lv_sub hl [2, 3, 1, 0] rfl)
    have c_28 := zb_t c_28
    refine lv_iconst (v := zI 1) hx hb dX5_sure_31 rfl ?_
    refine lv_aload_n hx hb dX5_sure_32 rfl (lv_at hl 0 rfl) ?_
    refine lv_iload_n hx hb dX5_sure_33 rfl (lv_at hl 3 rfl) ?_
    refine lv_iload_n hx hb dX5_sure_34 rfl (lv_at hl 1 rfl) ?_
    refine pc_V (As := [.int (zI h), .int (zI p)]) (rest := [.int (zI 1), .int (zI t)]) M (c_X5_slotIn l D cB cI cZ cM _ o0 o1 o2 o3 o4 o5 o6 o7 o8 o9 oz tr td g1 g2 g3 g4 g5 g6 g7 f2 h p (by first | assumption | omega) (by omega) (hp1)) gX5_sure_X5_slotIn rfl ⟨rfl, hd_X5_slotIn⟩ ⟨Nat.le_of_ble_eq_true rfl, Nat.le_of_ble_eq_true rfl⟩ hK hP [0, 1] rfl 0 5 rfl rfl rfl hl.1 rfl rfl (Nat.le_of_ble_eq_true rfl) dX5_sure_35 ⟨Nat.le_of_ble_eq_true rfl, Nat.le_of_ble_eq_true rfl⟩ (fun r_35 h_35 => ?_)
    subst h_35
    have hsl := slI_rng (f2 0) p (show 0 ≤ h by omega)
    refine z_ishl1 hx hb dX5_sure_38 (by omega) ?_
    refine lv_goto (tgt := 43) hx hb dX5_sure_39 (by decide) ?_
    refine z_ior hx hb dX5_sure_43 (⟨by omega, by first | omega | exact zpw_nn _⟩) ?_
    refine lv_istore_n (lv' := [(2, .int (zI (zbor t (zpw (slI (f2 0) h p))))), (0, .ref o0), (1, .int (zI p)), (3, .int (zI h))]) hx hb dX5_sure_44 rfl hl (by decide) rfl (fun ls hl => ?_)
    refine z_iinc (a := h) (k := 3) (lv' := [(3, .int (zI (h + 1))), (2, .int (zI (zbor t (zpw (slI (f2 0) h p))))), (0, .ref o0), (1, .int (zI p))]) hx hb dX5_sure_45 hl rfl (by decide) rfl (fun ls hl => ?_)
    refine lv_goto (tgt := 14) hx hb dX5_sure_48 (by decide) ?_
    exact ih n (h + 1) (zbor t (zpw (slI (f2 0) h p))) (by omega) (by assumption) (by omega) (by exact ⟨zbor_nn _ _, zbor_lt 9 (by omega) (by first | omega | exact zpw_lt (n := 9) (by omega) (by omega))⟩) (by rw [← hv, suM, if_pos c_28]) _ (lv_sub hl [2, 3, 1, 0] rfl)
set_option maxHeartbeats 4000000 in
set_option maxRecDepth 100000 in
theorem c_X5_sure (l : Launch) (D : va_G) (cB cI cZ cM : ClassId) (Hp : Heap) (o0 : Nat) (o1 : Nat) (o2 : Nat) (o3 : Nat) (o4 : Nat) (o5 : Nat) (o6 : Nat) (o7 : Nat) (o8 : Nat) (o9 : Nat) (oz : Nat) (tr : Int64) (td : Int) (g1 : Int) (g2 : Int) (g3 : Int) (g4 : Int) (g5 : Int) (g6 : Int) (g7 : Int) (f2 : Int → Int) (f3 : Int → Int) (f5 : Int → Int) (f6 : Int → Int) (p : Int) (hp2 : okR f2 f3 f5) (hn6 : okN f2 f6) (hp0 : -2147483648 ≤ p ∧ p < 2147483648) : cP l yX5_sure wsX5_sure 7 158 D (TYS cB cI cZ cM) [.ref o0, .int (zI p)] [(o0, .inr (5, [.long tr, .ref o1, .int (zI td), .ref o2, .ref o3, .ref o4, .ref o5, .int (zI g1), .int (zI g2), .int (zI g3), .int (zI g4), .int (zI g5), .int (zI g6), .ref o6, .ref o7, .ref o8, .ref o9, .int (zI g7), .ref oz])), (o2, .inl (cI, 16, .inl (zia f2))), (o3, .inl (cI, 8, .inl (zia f3))), (o5, .inl (cI, 4, .inl (zia f5))), (o6, .inl (cI, 63, .inl (zia f6)))] Hp (fun r => r = zI (if 0 ≤ p ∧ p < f2 0 then skM (suM f2 f3 f5 f6 p (pw9 (f2 0)).toNat 0 0) 9 0 (-9) else -1)) := by
  refine pu_start (by decide) rfl (Nat.le_of_ble_eq_true rfl) ?_
  intro pg ev sx mm args below meth cd ls M hP hK hl
  obtain ⟨hx, hb, hr, hml, hown, hts, hlk, hN0⟩ := id M
  have hl : lv_has ls 5 [(0, .ref o0), (1, .int (zI p))] := hl
  obtain ⟨hPm, hB1, hra, hsu, hvw, hno, hdn6, hha7, hso, hbm⟩ := id hp2
  obtain ⟨hhm, hdy, hac, hlk, hmn, hcl⟩ := id hn6
  have h9r := pw9_rng (n := f2 0) (by omega)
  refine lv_aload_n hx hb dX5_sure_0 rfl (lv_at hl 0 rfl) ?_
  refine lv_iload_n hx hb dX5_sure_1 rfl (lv_at hl 1 rfl) ?_
  refine pc_V (As := [.int (zI p)]) (rest := []) M (c_X5_isPanel l D cB cI cZ cM _ o0 o1 o2 o3 o4 o5 o6 o7 o8 o9 oz tr td g1 g2 g3 g4 g5 g6 g7 f2 p (by first | assumption | omega) (by first | assumption | omega)) gX5_sure_X5_isPanel rfl ⟨rfl, hd_X5_isPanel⟩ ⟨Nat.le_of_ble_eq_true rfl, Nat.le_of_ble_eq_true rfl⟩ hK hP [0, 1] rfl 0 5 rfl rfl rfl hl.1 rfl rfl (Nat.le_of_ble_eq_true rfl) dX5_sure_2 ⟨Nat.le_of_ble_eq_true rfl, Nat.le_of_ble_eq_true rfl⟩ (fun r_2 h_2 => ?_)
  subst h_2
  refine z_if_ne (tgt := 10) hx hb dX5_sure_5 (by decide) (zb_bd _) (fun c_5 => ?_) (fun c_5 => ?_)
  · skip
    have c_5 := zb_t c_5
    refine lv_iconst (v := zI 0) hx hb dX5_sure_10 rfl ?_
    refine lv_istore_n (lv' := [(2, .int (zI 0)), (0, .ref o0), (1, .int (zI p))]) hx hb dX5_sure_11 rfl hl (by decide) rfl (fun ls hl => ?_)
    refine lv_iconst (v := zI 0) hx hb dX5_sure_12 rfl ?_
    refine lv_istore_n (lv' := [(3, .int (zI 0)), (2, .int (zI 0)), (0, .ref o0), (1, .int (zI p))]) hx hb dX5_sure_13 rfl hl (by decide) rfl (fun ls hl => ?_)
    exact lp_X5_sure_14 l D cB cI cZ cM o0 o1 o2 o3 o4 o5 o6 o7 o8 o9 oz tr td g1 g2 g3 g4 g5 g6 g7 f2 f3 f5 f6 p hp2 hn6 hp0 M hP hK (((pw9 (f2 0)).toNat) + 1) ((pw9 (f2 0)).toNat) 0 0 (Nat.lt_succ_self _) (by exact c_5) (by omega) (by omega) (by rfl) _ (lv_sub hl [2, 3, 1, 0] rfl)
  have c_5 := zb_f c_5
  refine lv_iconst (v := zI (-1)) hx hb dX5_sure_8 rfl ?_
  exact pu_ret M dX5_sure_9 (congrArg zI (by rw [if_neg c_5]))
