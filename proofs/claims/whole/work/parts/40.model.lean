theorem inc_X5_here_5 : ∀ w ∈ wsX50, w ∈ wsX5_here := by decide +kernel
theorem inc_X5_next_5 : ∀ w ∈ wsX50, w ∈ wsX5_next := by decide +kernel
theorem hd_X5_here : yX5_here.cls ≠ "java/lang/invoke/MethodHandle" ∧ yX5_here.cls ≠ "java/lang/invoke/VarHandle" ∧ (parseMethodDescriptor yX5_here.desc).map (fun d => d.parameters.length) = some 0 := by decide +kernel
theorem hd_X5_meaning : yX5_meaning.cls ≠ "java/lang/invoke/MethodHandle" ∧ yX5_meaning.cls ≠ "java/lang/invoke/VarHandle" ∧ (parseMethodDescriptor yX5_meaning.desc).map (fun d => d.parameters.length) = some 1 := by decide +kernel
set_option maxHeartbeats 4000000 in
set_option maxRecDepth 100000 in
theorem c_X5_here (l : Launch) (D : va_G) (cB cI cZ cM : ClassId) (Hp : Heap) (o0 : Nat) (o1 : Nat) (o2 : Nat) (o3 : Nat) (o4 : Nat) (o5 : Nat) (o6 : Nat) (o7 : Nat) (o8 : Nat) (o9 : Nat) (oz : Nat) (tr : Int64) (td : Int) (g1 : Int) (g2 : Int) (g3 : Int) (g4 : Int) (g5 : Int) (g6 : Int) (g7 : Int) (f1 : Int → Int) (htd : 0 ≤ td ∧ td ≤ 200) (hf1 : ∀ i : Int, 0 ≤ i → i < 200 → 0 ≤ f1 i ∧ f1 i ≤ 255) (hg1 : 0 ≤ g1 ∧ g1 ≤ td) : cP l yX5_here wsX5_here 0 0 D (TYS cB cI cZ cM) [.ref o0] [(o0, .inr (5, [.long tr, .ref o1, .int (zI td), .ref o2, .ref o3, .ref o4, .ref o5, .int (zI g1), .int (zI g2), .int (zI g3), .int (zI g4), .int (zI g5), .int (zI g6), .ref o6, .ref o7, .ref o8, .ref o9, .int (zI g7), .ref oz])), (o1, .inl (cB, 200, .inl (zia (sgF f1))))] Hp (fun r => r = zI (btA f1 td g1)) := by
  refine pu_start (by decide) rfl (Nat.le_of_ble_eq_true rfl) ?_
  intro pg ev sx mm args below meth cd ls M hP hK hl
  obtain ⟨hx, hb, hr, hml, hown, hts, hlk, hN0⟩ := id M
  have hl : lv_has ls 1 [(0, .ref o0)] := hl
  refine lv_aload_n hx hb dX5_here_0 rfl (lv_at hl 0 rfl) ?_
  refine va_get (D := D) (ci := 5) (C := RX5) (T := TX5) (N := 19) hx hb hts inc_X5_here_5 hown hK hP 0 rfl rfl 7 (by decide) (hts (.fieldLink RX5 56 "BedHouseModel" "at" "I") (by decide +kernel)) (fun _ h9 => h9) rfl dX5_here_1 ?_
  refine lv_aload_n hx hb dX5_here_4 rfl (lv_at hl 0 rfl) ?_
  refine va_get (D := D) (ci := 5) (C := RX5) (T := TX5) (N := 19) hx hb hts inc_X5_here_5 hown hK hP 0 rfl rfl 2 (by decide) (hts (.fieldLink RX5 50 "BedHouseModel" "typed" "I") (by decide +kernel)) (fun _ h9 => h9) rfl dX5_here_5 ?_
  refine z_icmp_ge (tgt := 27) hx hb dX5_here_8 (by decide) (by omega) (fun c_8 => ?_) (fun c_8 => ?_)
  · skip
    refine lv_iconst (v := zI (-1)) hx hb dX5_here_27 rfl ?_
    exact pu_ret M dX5_here_28 (congrArg zI (by rw [btA_end c_8]))
  refine lv_aload_n hx hb dX5_here_11 rfl (lv_at hl 0 rfl) ?_
  refine va_get (D := D) (ci := 5) (C := RX5) (T := TX5) (N := 19) hx hb hts inc_X5_here_5 hown hK hP 0 rfl rfl 1 (by decide) (hts (.fieldLink RX5 7 "BedHouseModel" "text" "[B") (by decide +kernel)) (fun _ h9 => h9) rfl dX5_here_12 ?_
  refine lv_aload_n hx hb dX5_here_15 rfl (lv_at hl 0 rfl) ?_
  refine va_get (D := D) (ci := 5) (C := RX5) (T := TX5) (N := 19) hx hb hts inc_X5_here_5 hown hK hP 0 rfl rfl 7 (by decide) (hts (.fieldLink RX5 56 "BedHouseModel" "at" "I") (by decide +kernel)) (fun _ h9 => h9) rfl dX5_here_16 ?_
  refine z_bald hx hb hK hP 1 0 rfl rfl (Nat.le_of_ble_eq_true rfl) dX5_here_19 (by omega) ?_
  refine lv_topi (fun y1 e_y1 => ?_)
  refine lv_sipush (v := zI 255) hx hb dX5_here_20 (by decide) ?_
  refine lv_iand hx hb dX5_here_23 ?_
  refine z_top (y := zI (btA f1 td g1)) (by rw [e_y1]; unfold btA; rw [if_pos (by omega)]; exact sg8_and (hf1 g1 (by omega) (by omega))) ?_
  refine lv_goto (tgt := 28) hx hb dX5_here_24 (by decide) ?_
  exact pu_ret M dX5_here_28 (congrArg zI (by rfl))
set_option maxHeartbeats 4000000 in
set_option maxRecDepth 100000 in
theorem c_X5_meaning (l : Launch) (D : va_G) (cB cI cZ cM : ClassId) (Hp : Heap) (c : Int) (hc0 : -2147483648 ≤ c ∧ c < 2147483648) : cP l yX5_meaning wsX5_meaning 0 0 D (TYS cB cI cZ cM) [.int (zI c)] [] Hp (fun r => r = zI (meM c)) := by
  refine pu_start (by decide) rfl (Nat.le_of_ble_eq_true rfl) ?_
  intro pg ev sx mm args below meth cd ls M hP hK hl
  obtain ⟨hx, hb, hr, hml, hown, hts, hlk, hN0⟩ := id M
  have hl : lv_has ls 1 [(0, .int (zI c))] := hl
  refine lv_iload_n hx hb dX5_meaning_0 rfl (lv_at hl 0 rfl) ?_
  by_cases c_1_14432 : c = 14432
  · skip
    refine lv_lookup (tgt := 102) (off := 101) hx hb dX5_meaning_1 (by decide) (by rw [zI_toInt (by omega), c_1_14432]; rfl) (by decide) ?_
    refine lv_bipush (v := zI 6) hx hb dX5_meaning_102 (by decide) ?_
    exact pu_ret M dX5_meaning_104 (congrArg zI (by rw [c_1_14432]; decide))
  by_cases c_1_43051 : c = 43051
  · skip
    refine lv_lookup (tgt := 98) (off := 97) hx hb dX5_meaning_1 (by decide) (by rw [zI_toInt (by omega), c_1_43051]; rfl) (by decide) ?_
    refine lv_iconst (v := zI 4) hx hb dX5_meaning_98 rfl ?_
    exact pu_ret M dX5_meaning_99 (congrArg zI (by rw [c_1_43051]; decide))
  by_cases c_1_90302 : c = 90302
  · skip
    refine lv_lookup (tgt := 111) (off := 110) hx hb dX5_meaning_1 (by decide) (by rw [zI_toInt (by omega), c_1_90302]; rfl) (by decide) ?_
    refine lv_bipush (v := zI 9) hx hb dX5_meaning_111 (by decide) ?_
    exact pu_ret M dX5_meaning_113 (congrArg zI (by rw [c_1_90302]; decide))
  by_cases c_1_355280 : c = 355280
  · skip
    refine lv_lookup (tgt := 100) (off := 99) hx hb dX5_meaning_1 (by decide) (by rw [zI_toInt (by omega), c_1_355280]; rfl) (by decide) ?_
    refine lv_iconst (v := zI 5) hx hb dX5_meaning_100 rfl ?_
    exact pu_ret M dX5_meaning_101 (congrArg zI (by rw [c_1_355280]; decide))
  by_cases c_1_439745 : c = 439745
  · skip
    refine lv_lookup (tgt := 105) (off := 104) hx hb dX5_meaning_1 (by decide) (by rw [zI_toInt (by omega), c_1_439745]; rfl) (by decide) ?_
    refine lv_bipush (v := zI 7) hx hb dX5_meaning_105 (by decide) ?_
    exact pu_ret M dX5_meaning_107 (congrArg zI (by rw [c_1_439745]; decide))
  by_cases c_1_453774 : c = 453774
  · skip
    refine lv_lookup (tgt := 92) (off := 91) hx hb dX5_meaning_1 (by decide) (by rw [zI_toInt (by omega), c_1_453774]; rfl) (by decide) ?_
    refine lv_iconst (v := zI 0) hx hb dX5_meaning_92 rfl ?_
    exact pu_ret M dX5_meaning_93 (congrArg zI (by rw [c_1_453774]; decide))
  by_cases c_1_3957544 : c = 3957544
  · skip
    refine lv_lookup (tgt := 94) (off := 93) hx hb dX5_meaning_1 (by decide) (by rw [zI_toInt (by omega), c_1_3957544]; rfl) (by decide) ?_
    refine lv_iconst (v := zI 1) hx hb dX5_meaning_94 rfl ?_
    exact pu_ret M dX5_meaning_95 (congrArg zI (by rw [c_1_3957544]; decide))
  by_cases c_1_4281544 : c = 4281544
  · skip
    refine lv_lookup (tgt := 114) (off := 113) hx hb dX5_meaning_1 (by decide) (by rw [zI_toInt (by omega), c_1_4281544]; rfl) (by decide) ?_
    refine lv_bipush (v := zI 10) hx hb dX5_meaning_114 (by decide) ?_
    exact pu_ret M dX5_meaning_116 (congrArg zI (by rw [c_1_4281544]; decide))
  by_cases c_1_7742498 : c = 7742498
  · skip
    refine lv_lookup (tgt := 108) (off := 107) hx hb dX5_meaning_1 (by decide) (by rw [zI_toInt (by omega), c_1_7742498]; rfl) (by decide) ?_
    refine lv_bipush (v := zI 8) hx hb dX5_meaning_108 (by decide) ?_
    exact pu_ret M dX5_meaning_110 (congrArg zI (by rw [c_1_7742498]; decide))
  by_cases c_1_266660330 : c = 266660330
  · skip
    refine lv_lookup (tgt := 96) (off := 95) hx hb dX5_meaning_1 (by decide) (by rw [zI_toInt (by omega), c_1_266660330]; rfl) (by decide) ?_
    refine lv_iconst (v := zI 3) hx hb dX5_meaning_96 rfl ?_
    exact pu_ret M dX5_meaning_97 (congrArg zI (by rw [c_1_266660330]; decide))
  refine lv_lookup (tgt := 117) (off := 116) hx hb dX5_meaning_1 (by decide) (by show Op.lookupswitch.offset [(14432, 101), (43051, 97), (90302, 110), (355280, 99), (439745, 104), (453774, 91), (3957544, 93), (4281544, 113), (7742498, 107), (266660330, 95)] 116 (zI c).toInt = 116; rw [lv_osw (k := zI 14432) (fun q => c_1_14432 ((zI_eq (by omega) (by omega)).mp q)) (by decide), lv_osw (k := zI 43051) (fun q => c_1_43051 ((zI_eq (by omega) (by omega)).mp q)) (by decide), lv_osw (k := zI 90302) (fun q => c_1_90302 ((zI_eq (by omega) (by omega)).mp q)) (by decide), lv_osw (k := zI 355280) (fun q => c_1_355280 ((zI_eq (by omega) (by omega)).mp q)) (by decide), lv_osw (k := zI 439745) (fun q => c_1_439745 ((zI_eq (by omega) (by omega)).mp q)) (by decide), lv_osw (k := zI 453774) (fun q => c_1_453774 ((zI_eq (by omega) (by omega)).mp q)) (by decide), lv_osw (k := zI 3957544) (fun q => c_1_3957544 ((zI_eq (by omega) (by omega)).mp q)) (by decide), lv_osw (k := zI 4281544) (fun q => c_1_4281544 ((zI_eq (by omega) (by omega)).mp q)) (by decide), lv_osw (k := zI 7742498) (fun q => c_1_7742498 ((zI_eq (by omega) (by omega)).mp q)) (by decide), lv_osw (k := zI 266660330) (fun q => c_1_266660330 ((zI_eq (by omega) (by omega)).mp q)) (by decide)]; rfl) (by decide) ?_
  refine lv_bipush (v := zI 14) hx hb dX5_meaning_117 (by decide) ?_
  exact pu_ret M dX5_meaning_119 (congrArg zI (by unfold meM; rw [if_neg c_1_14432, if_neg c_1_43051, if_neg c_1_90302, if_neg c_1_355280, if_neg c_1_439745, if_neg c_1_453774, if_neg c_1_3957544, if_neg c_1_4281544, if_neg c_1_7742498, if_neg c_1_266660330]))
set_option maxHeartbeats 4000000 in
set_option maxRecDepth 100000 in
theorem lp_X5_next_68 (l : Launch) (D : va_G) (cB cI cZ cM : ClassId) (o0 : Nat) (o1 : Nat) (o2 : Nat) (o3 : Nat) (o4 : Nat) (o5 : Nat) (o6 : Nat) (o7 : Nat) (o8 : Nat) (o9 : Nat) (oz : Nat) (tr : Int64) (td : Int) (g1 : Int) (g2 : Int) (g3 : Int) (g4 : Int) (g5 : Int) (g6 : Int) (g7 : Int) (f1 : Int → Int) (htd : 0 ≤ td ∧ td ≤ 200) (hf1 : ∀ i : Int, 0 ≤ i → i < 200 → 0 ≤ f1 i ∧ f1 i ≤ 255) (hg1 : 0 ≤ g1 ∧ g1 ≤ td) {pg : Program} {ev : Env} {sx : State} {mm : MethodId} {args : Array Value} {below : List Frame} {meth : Method} {cd : Code} (M : MX pg sx mm args meth cd cX5_next 5 none RX5 wsX5_next) (hK : va_K D vwCl (TYS cB cI cZ cM) sx) {A : Nat → Prop} (hA : ∀ q : Nat, sx.heap.size ≤ q → A q) : ∀ (N : Nat) (n : Nat) (i : Int) (c : Int) (x : Int) (t : Int), (n < N) → (t = skF (btA f1 td) 201 g1) → ((0 ≤ t ∧ t ≤ i) ∧ i ≤ td) → (td < i + n) → (0 ≤ c ∧ (i - t = 0 → c < 1) ∧ (i - t = 1 → c < 27) ∧ (i - t = 2 → c < 729) ∧ (i - t = 3 → c < 19683) ∧ (i - t = 4 → c < 531441) ∧ (i - t = 5 → c < 14348907) ∧ c < 387420489) → (0 ≤ x ∧ x ≤ 99) → (97 ≤ btA f1 td t ∧ btA f1 td t ≤ 122) → (wcM (btA f1 td) t n i c x = wcM (btA f1 td) t 201 t 0 0) → ∀ (H : Heap) (locs : List Loc), va_P D vwCl [(o0, .inr (5, [.long tr, .ref o1, .int (zI td), .ref o2, .ref o3, .ref o4, .ref o5, .int (zI i), .int (zI t), .int (zI g3), .int (zI 0), .int (zI g5), .int (zI g6), .ref o6, .ref o7, .ref o8, .ref o9, .int (zI g7), .ref oz])), (o1, .inl (cB, 200, .inl (zia (sgF f1))))] H → va_D A [(o0, .inr (5, [.long tr, .ref o1, .int (zI td), .ref o2, .ref o3, .ref o4, .ref o5, .int (zI i), .int (zI t), .int (zI g3), .int (zI 0), .int (zI g5), .int (zI g6), .ref o6, .ref o7, .ref o8, .ref o9, .int (zI g7), .ref oz])), (o1, .inl (cB, 200, .inl (zia (sgF f1))))] → va_S A sx.heap H locs → ∀ ls : Array Slot, lv_has ls 5 [(0, .ref o0), (1, .int (zI (btA f1 td t))), (2, .int (zI c)), (3, .int (zI x))] → W pg l ev (rmW 1 0 0 22) sx mm args below meth cd H locs 0 0 (QWv below args sx A D (fun (u : TKS) => u = nxM (btA f1 td) g1) (fun (u : TKS) => [(o0, .inr (5, [.long tr, .ref o1, .int (zI td), .ref o2, .ref o3, .ref o4, .ref o5, .int (zI u.1), .int (zI u.2.1), .int (zI u.2.2.1), .int (zI u.2.2.2), .int (zI g5), .int (zI g6), .ref o6, .ref o7, .ref o8, .ref o9, .int (zI g7), .ref oz])), (o1, .inl (cB, 200, .inl (zia (sgF f1))))]) 0 0) (F0 mm 68 ls []) := by
  intro N
  induction N with
  | zero => intro n i c x t hN; exact absurd hN (Nat.not_lt_zero _)
  | succ N ih =>
    intro n i c x t hN ht hi hn hc hx9 hb0 hv H locs hP hD hS ls hl
    obtain ⟨hx, hb, hr, hml, hown, hts, hlk, hN0⟩ := id M
    obtain ⟨n, rfl⟩ : ∃ x : Nat, n = x + 1 := ⟨n - 1, by omega⟩
    have hbr := btA_rng hf1 td i
    have hbt := btA_rng hf1 td t
    refine lv_aload_n hx hb dX5_next_68 rfl (lv_at hl 0 rfl) ?_
    refine pc_V (As := []) (rest := []) M (c_X5_here l D cB cI cZ cM _ o0 o1 o2 o3 o4 o5 o6 o7 o8 o9 oz tr td i t g3 0 g5 g6 g7 f1 (by first | assumption | omega) (by first | assumption | omega) (by first | assumption | omega)) gX5_next_X5_here rfl ⟨rfl, hd_X5_here⟩ ⟨Nat.le_of_ble_eq_true rfl, Nat.le_of_ble_eq_true rfl⟩ hK hP [0, 1] rfl 0 5 rfl rfl rfl hl.1 rfl rfl (Nat.le_of_ble_eq_true rfl) dX5_next_69 ⟨Nat.le_of_ble_eq_true rfl, Nat.le_of_ble_eq_true rfl⟩ (fun r_69 h_69 => ?_)
    subst h_69
    refine lv_bipush (v := zI 97) hx hb dX5_next_72 (by decide) ?_
    refine lv_bipush (v := zI 122) hx hb dX5_next_74 (by decide) ?_
    refine pc_J (As := [.int (zI (btA f1 td i)), .int (zI 97), .int (zI 122)]) (rest := []) M (c_X5_in l D cB cI cZ cM _ (btA f1 td i) 97 122 (by first | assumption | omega) (by first | assumption | omega) (by first | assumption | omega)) gX5_next_X5_in rfl hd_X5_in ⟨Nat.le_of_ble_eq_true rfl, Nat.le_of_ble_eq_true rfl⟩ hK hP [] rfl hl.1 rfl rfl (Nat.le_of_ble_eq_true rfl) dX5_next_76 ⟨Nat.le_of_ble_eq_true rfl, Nat.le_of_ble_eq_true rfl⟩ (fun r_76 h_76 => ?_)
    subst h_76
    refine z_if_eq (tgt := 161) hx hb dX5_next_79 (by decide) (zb_bd _) (fun c_79 => ?_) (fun c_79 => ?_)
    · skip
      have c_79 := zb_f c_79
      have hw9 : wcM (btA f1 td) t 201 t 0 0 = (i, c, x) := by rw [← hv, wcM, if_neg c_79]
      refine lv_aload_n hx hb dX5_next_161 rfl (lv_at hl 0 rfl) ?_
      refine lv_iload_n hx hb dX5_next_162 rfl (lv_at hl 3 rfl) ?_
      refine z_if_ne (tgt := 173) hx hb dX5_next_163 (by decide) (by omega) (fun c_163 => ?_) (fun c_163 => ?_)
      · skip
        refine lv_iload_n hx hb dX5_next_173 rfl (lv_at hl 2 rfl) ?_
        refine lv_ldc hx hb hown (hts (.constant RX5 76 (54575892)) (by decide +kernel)) dX5_next_174 ?_
        refine z_top (y := zI 54575892) (by decide) ?_
        refine z_icmp_ne (tgt := 189) hx hb dX5_next_176 (by decide) (by omega) (fun c_176 => ?_) (fun c_176 => ?_)
        · skip
          refine lv_bipush (v := zI 14) hx hb dX5_next_189 (by decide) ?_
          refine va_put (D := D) (ci := 5) (v := .int (zI 14)) (ty := .int) (C := RX5) (T := TX5) (N := 19) hx hb hts inc_X5_next_5 tyX5 tyX5_ok nmX5 hown hK hP hD hS 0 rfl rfl 9 (by decide) (hts (.fieldLink RX5 69 "BedHouseModel" "sort" "I") (by decide +kernel)) (fun _ h9 => h9) rfl (by decide +kernel) rfl rfl (Nat.le_of_ble_eq_true rfl) dX5_next_191 (fun H locs hP hD hS => ?_)
          have hP : va_P D vwCl [(o0, .inr (5, [.long tr, .ref o1, .int (zI td), .ref o2, .ref o3, .ref o4, .ref o5, .int (zI i), .int (zI t), .int (zI 14), .int (zI 0), .int (zI g5), .int (zI g6), .ref o6, .ref o7, .ref o8, .ref o9, .int (zI g7), .ref oz])), (o1, .inl (cB, 200, .inl (zia (sgF f1))))] H := hP
          have hD : va_D A [(o0, .inr (5, [.long tr, .ref o1, .int (zI td), .ref o2, .ref o3, .ref o4, .ref o5, .int (zI i), .int (zI t), .int (zI 14), .int (zI 0), .int (zI g5), .int (zI g6), .ref o6, .ref o7, .ref o8, .ref o9, .int (zI g7), .ref oz])), (o1, .inl (cB, 200, .inl (zia (sgF f1))))] := hD
          refine lv_goto (tgt := 339) hx hb dX5_next_194 (by decide) ?_
          have hnx : nxM (btA f1 td) g1 = (i, t, 14, 0) := by unfold nxM; rw [← ht]; unfold tkM; rw [if_neg (by omega), if_pos hb0, hw9]; dsimp only; rw [if_neg (by omega), if_neg (by omega)]
          exact wr_retv M dX5_next_339 (u := (i, t, 14, 0)) (hnx.symm) hP hD hS
        refine lv_iload_n hx hb dX5_next_179 rfl (lv_at hl 3 rfl) ?_
        refine lv_bipush (v := zI 14) hx hb dX5_next_180 (by decide) ?_
        refine z_icmp_ne (tgt := 189) hx hb dX5_next_182 (by decide) (by omega) (fun c_182 => ?_) (fun c_182 => ?_)
        · skip
          refine lv_bipush (v := zI 14) hx hb dX5_next_189 (by decide) ?_
          refine va_put (D := D) (ci := 5) (v := .int (zI 14)) (ty := .int) (C := RX5) (T := TX5) (N := 19) hx hb hts inc_X5_next_5 tyX5 tyX5_ok nmX5 hown hK hP hD hS 0 rfl rfl 9 (by decide) (hts (.fieldLink RX5 69 "BedHouseModel" "sort" "I") (by decide +kernel)) (fun _ h9 => h9) rfl (by decide +kernel) rfl rfl (Nat.le_of_ble_eq_true rfl) dX5_next_191 (fun H locs hP hD hS => ?_)
          have hP : va_P D vwCl [(o0, .inr (5, [.long tr, .ref o1, .int (zI td), .ref o2, .ref o3, .ref o4, .ref o5, .int (zI i), .int (zI t), .int (zI 14), .int (zI 0), .int (zI g5), .int (zI g6), .ref o6, .ref o7, .ref o8, .ref o9, .int (zI g7), .ref oz])), (o1, .inl (cB, 200, .inl (zia (sgF f1))))] H := hP
          have hD : va_D A [(o0, .inr (5, [.long tr, .ref o1, .int (zI td), .ref o2, .ref o3, .ref o4, .ref o5, .int (zI i), .int (zI t), .int (zI 14), .int (zI 0), .int (zI g5), .int (zI g6), .ref o6, .ref o7, .ref o8, .ref o9, .int (zI g7), .ref oz])), (o1, .inl (cB, 200, .inl (zia (sgF f1))))] := hD
          refine lv_goto (tgt := 339) hx hb dX5_next_194 (by decide) ?_
          have hnx : nxM (btA f1 td) g1 = (i, t, 14, 0) := by unfold nxM; rw [← ht]; unfold tkM; rw [if_neg (by omega), if_pos hb0, hw9]; dsimp only; rw [if_neg (by omega), if_neg (by omega)]
          exact wr_retv M dX5_next_339 (u := (i, t, 14, 0)) (hnx.symm) hP hD hS
        refine lv_iconst (v := zI 2) hx hb dX5_next_185 rfl ?_
        refine lv_goto (tgt := 191) hx hb dX5_next_186 (by decide) ?_
        refine va_put (D := D) (ci := 5) (v := .int (zI 2)) (ty := .int) (C := RX5) (T := TX5) (N := 19) hx hb hts inc_X5_next_5 tyX5 tyX5_ok nmX5 hown hK hP hD hS 0 rfl rfl 9 (by decide) (hts (.fieldLink RX5 69 "BedHouseModel" "sort" "I") (by decide +kernel)) (fun _ h9 => h9) rfl (by decide +kernel) rfl rfl (Nat.le_of_ble_eq_true rfl) dX5_next_191 (fun H locs hP hD hS => ?_)
        have hP : va_P D vwCl [(o0, .inr (5, [.long tr, .ref o1, .int (zI td), .ref o2, .ref o3, .ref o4, .ref o5, .int (zI i), .int (zI t), .int (zI 2), .int (zI 0), .int (zI g5), .int (zI g6), .ref o6, .ref o7, .ref o8, .ref o9, .int (zI g7), .ref oz])), (o1, .inl (cB, 200, .inl (zia (sgF f1))))] H := hP
        have hD : va_D A [(o0, .inr (5, [.long tr, .ref o1, .int (zI td), .ref o2, .ref o3, .ref o4, .ref o5, .int (zI i), .int (zI t), .int (zI 2), .int (zI 0), .int (zI g5), .int (zI g6), .ref o6, .ref o7, .ref o8, .ref o9, .int (zI g7), .ref oz])), (o1, .inl (cB, 200, .inl (zia (sgF f1))))] := hD
        refine lv_goto (tgt := 339) hx hb dX5_next_194 (by decide) ?_
        have hnx : nxM (btA f1 td) g1 = (i, t, 2, 0) := by unfold nxM; rw [← ht]; unfold tkM; rw [if_neg (by omega), if_pos hb0, hw9]; dsimp only; rw [if_neg (by omega), if_pos (by omega)]
        exact wr_retv M dX5_next_339 (u := (i, t, 2, 0)) (hnx.symm) hP hD hS
      refine lv_iload_n hx hb dX5_next_166 rfl (lv_at hl 2 rfl) ?_
      refine pc_J (As := [.int (zI c)]) (rest := [.ref o0]) M (c_X5_meaning l D cB cI cZ cM _ c (by first | assumption | omega)) gX5_next_X5_meaning rfl hd_X5_meaning ⟨Nat.le_of_ble_eq_true rfl, Nat.le_of_ble_eq_true rfl⟩ hK hP [] rfl hl.1 rfl rfl (Nat.le_of_ble_eq_true rfl) dX5_next_167 ⟨Nat.le_of_ble_eq_true rfl, Nat.le_of_ble_eq_true rfl⟩ (fun r_167 h_167 => ?_)
      subst h_167
      refine lv_goto (tgt := 191) hx hb dX5_next_170 (by decide) ?_
      refine va_put (D := D) (ci := 5) (v := .int (zI (meM c))) (ty := .int) (C := RX5) (T := TX5) (N := 19) hx hb hts inc_X5_next_5 tyX5 tyX5_ok nmX5 hown hK hP hD hS 0 rfl rfl 9 (by decide) (hts (.fieldLink RX5 69 "BedHouseModel" "sort" "I") (by decide +kernel)) (fun _ h9 => h9) rfl (by decide +kernel) rfl rfl (Nat.le_of_ble_eq_true rfl) dX5_next_191 (fun H locs hP hD hS => ?_)
      have hP : va_P D vwCl [(o0, .inr (5, [.long tr, .ref o1, .int (zI td), .ref o2, .ref o3, .ref o4, .ref o5, .int (zI i), .int (zI t), .int (zI (meM c)), .int (zI 0), .int (zI g5), .int (zI g6), .ref o6, .ref o7, .ref o8, .ref o9, .int (zI g7), .ref oz])), (o1, .inl (cB, 200, .inl (zia (sgF f1))))] H := hP
      have hD : va_D A [(o0, .inr (5, [.long tr, .ref o1, .int (zI td), .ref o2, .ref o3, .ref o4, .ref o5, .int (zI i), .int (zI t), .int (zI (meM c)), .int (zI 0), .int (zI g5), .int (zI g6), .ref o6, .ref o7, .ref o8, .ref o9, .int (zI g7), .ref oz])), (o1, .inl (cB, 200, .inl (zia (sgF f1))))] := hD
      refine lv_goto (tgt := 339) hx hb dX5_next_194 (by decide) ?_
      have hnx : nxM (btA f1 td) g1 = (i, t, meM c, 0) := by unfold nxM; rw [← ht]; unfold tkM; rw [if_neg (by omega), if_pos hb0, hw9]; dsimp only; rw [if_pos (by omega)]
      exact wr_retv M dX5_next_339 (u := (i, t, meM c, 0)) (hnx.symm) hP hD hS
    have c_79 := zb_t c_79
    have hbn := btA_nn (tx := f1) (ln := td) (i := i) (by omega)
    refine lv_aload_n hx hb dX5_next_82 rfl (lv_at hl 0 rfl) ?_
    refine va_get (D := D) (ci := 5) (C := RX5) (T := TX5) (N := 19) hx hb hts inc_X5_next_5 hown hK hP 0 rfl rfl 7 (by decide) (hts (.fieldLink RX5 56 "BedHouseModel" "at" "I") (by decide +kernel)) (fun _ h9 => h9) rfl dX5_next_83 ?_
    refine lv_aload_n hx hb dX5_next_86 rfl (lv_at hl 0 rfl) ?_
    refine va_get (D := D) (ci := 5) (C := RX5) (T := TX5) (N := 19) hx hb hts inc_X5_next_5 hown hK hP 0 rfl rfl 8 (by decide) (hts (.fieldLink RX5 63 "BedHouseModel" "start" "I") (by decide +kernel)) (fun _ h9 => h9) rfl dX5_next_87 ?_
    refine z_isub hx hb dX5_next_90 ?_
    refine lv_istore (lv' := [(4, .int (zI (i - t))), (0, .ref o0), (1, .int (zI (btA f1 td t))), (2, .int (zI c)), (3, .int (zI x))]) hx hb dX5_next_91 hl (by decide) rfl (fun ls hl => ?_)
    refine lv_iload hx hb dX5_next_93 (lv_at hl 0 rfl) ?_
    refine lv_bipush (v := zI 6) hx hb dX5_next_95 (by decide) ?_
    refine z_icmp_ge (tgt := 115) hx hb dX5_next_97 (by decide) (by omega) (fun c_97 => ?_) (fun c_97 => ?_)
    · skip
      refine lv_iload_n hx hb dX5_next_115 rfl (lv_at hl 3 rfl) ?_
      refine lv_istore_n (lv' := [(2, .int (zI c)), (4, .int (zI (i - t))), (0, .ref o0), (1, .int (zI (btA f1 td t))), (3, .int (zI x))]) hx hb dX5_next_116 rfl hl (by decide) rfl (fun ls hl => ?_)
      refine lv_iload hx hb dX5_next_117 (lv_at hl 1 rfl) ?_
      refine lv_bipush (v := zI 6) hx hb dX5_next_119 (by decide) ?_
      refine z_icmp_ne (tgt := 134) hx hb dX5_next_121 (by decide) (by omega) (fun c_121 => ?_) (fun c_121 => ?_)
      · skip
        refine lv_iload hx hb dX5_next_134 (lv_at hl 1 rfl) ?_
        refine lv_bipush (v := zI 6) hx hb dX5_next_136 (by decide) ?_
        refine z_icmp_le (tgt := 146) hx hb dX5_next_138 (by decide) (by omega) (fun c_138 => ?_) (fun c_138 => ?_)
        · skip
          exfalso; omega
        refine lv_bipush (v := zI 99) hx hb dX5_next_141 (by decide) ?_
        refine lv_goto (tgt := 147) hx hb dX5_next_143 (by decide) ?_
        refine lv_istore_n (lv' := [(3, .int (zI 99)), (2, .int (zI c)), (4, .int (zI (i - t))), (0, .ref o0), (1, .int (zI (btA f1 td t)))]) hx hb dX5_next_147 rfl hl (by decide) rfl (fun ls hl => ?_)
        refine lv_aload_n hx hb dX5_next_148 rfl (lv_at hl 3 rfl) ?_
        refine lv_dup hx hb dX5_next_149 rfl ?_
        refine va_get (D := D) (ci := 5) (C := RX5) (T := TX5) (N := 19) hx hb hts inc_X5_next_5 hown hK hP 0 rfl rfl 7 (by decide) (hts (.fieldLink RX5 56 "BedHouseModel" "at" "I") (by decide +kernel)) (fun _ h9 => h9) rfl dX5_next_150 ?_
        refine lv_iconst (v := zI 1) hx hb dX5_next_153 rfl ?_
        refine z_iadd hx hb dX5_next_154 ?_
        refine va_put (D := D) (ci := 5) (v := .int (zI (i + 1))) (ty := .int) (C := RX5) (T := TX5) (N := 19) hx hb hts inc_X5_next_5 tyX5 tyX5_ok nmX5 hown hK hP hD hS 0 rfl rfl 7 (by decide) (hts (.fieldLink RX5 56 "BedHouseModel" "at" "I") (by decide +kernel)) (fun _ h9 => h9) rfl (by decide +kernel) rfl rfl (Nat.le_of_ble_eq_true rfl) dX5_next_155 (fun H locs hP hD hS => ?_)
        have hP : va_P D vwCl [(o0, .inr (5, [.long tr, .ref o1, .int (zI td), .ref o2, .ref o3, .ref o4, .ref o5, .int (zI (i + 1)), .int (zI t), .int (zI g3), .int (zI 0), .int (zI g5), .int (zI g6), .ref o6, .ref o7, .ref o8, .ref o9, .int (zI g7), .ref oz])), (o1, .inl (cB, 200, .inl (zia (sgF f1))))] H := hP
        have hD : va_D A [(o0, .inr (5, [.long tr, .ref o1, .int (zI td), .ref o2, .ref o3, .ref o4, .ref o5, .int (zI (i + 1)), .int (zI t), .int (zI g3), .int (zI 0), .int (zI g5), .int (zI g6), .ref o6, .ref o7, .ref o8, .ref o9, .int (zI g7), .ref oz])), (o1, .inl (cB, 200, .inl (zia (sgF f1))))] := hD
        refine lv_goto (tgt := 68) hx hb dX5_next_158 (by decide) ?_
        exact ih n (i + 1) c 99 t (by omega) (by assumption) (by omega) (by omega) (by omega) (by omega) (by assumption) (by rw [← hv, wcM, if_pos c_79, if_neg (show ¬ i - t < 6 by omega), if_neg (show ¬ i - t = 6 by omega), if_pos (show 6 < i - t by omega)]) _ _ hP hD hS _ (lv_sub hl [3, 4, 1, 0] rfl)
      refine lv_aload_n hx hb dX5_next_124 rfl (lv_at hl 2 rfl) ?_
      refine pc_V (As := []) (rest := []) M (c_X5_here l D cB cI cZ cM _ o0 o1 o2 o3 o4 o5 o6 o7 o8 o9 oz tr td i t g3 0 g5 g6 g7 f1 (by first | assumption | omega) (by first | assumption | omega) (by first | assumption | omega)) gX5_next_X5_here rfl ⟨rfl, hd_X5_here⟩ ⟨Nat.le_of_ble_eq_true rfl, Nat.le_of_ble_eq_true rfl⟩ hK hP [0, 1] rfl 0 5 rfl rfl rfl hl.1 rfl rfl (Nat.le_of_ble_eq_true rfl) dX5_next_125 ⟨Nat.le_of_ble_eq_true rfl, Nat.le_of_ble_eq_true rfl⟩ (fun r_125 h_125 => ?_)
      subst h_125
      refine lv_bipush (v := zI 96) hx hb dX5_next_128 (by decide) ?_
      refine z_isub hx hb dX5_next_130 ?_
      refine lv_goto (tgt := 147) hx hb dX5_next_131 (by decide) ?_
      refine lv_istore_n (lv' := [(3, .int (zI ((btA f1 td i) - 96))), (2, .int (zI c)), (4, .int (zI (i - t))), (0, .ref o0), (1, .int (zI (btA f1 td t)))]) hx hb dX5_next_147 rfl hl (by decide) rfl (fun ls hl => ?_)
      refine lv_aload_n hx hb dX5_next_148 rfl (lv_at hl 3 rfl) ?_
      refine lv_dup hx hb dX5_next_149 rfl ?_
      refine va_get (D := D) (ci := 5) (C := RX5) (T := TX5) (N := 19) hx hb hts inc_X5_next_5 hown hK hP 0 rfl rfl 7 (by decide) (hts (.fieldLink RX5 56 "BedHouseModel" "at" "I") (by decide +kernel)) (fun _ h9 => h9) rfl dX5_next_150 ?_
      refine lv_iconst (v := zI 1) hx hb dX5_next_153 rfl ?_
      refine z_iadd hx hb dX5_next_154 ?_
      refine va_put (D := D) (ci := 5) (v := .int (zI (i + 1))) (ty := .int) (C := RX5) (T := TX5) (N := 19) hx hb hts inc_X5_next_5 tyX5 tyX5_ok nmX5 hown hK hP hD hS 0 rfl rfl 7 (by decide) (hts (.fieldLink RX5 56 "BedHouseModel" "at" "I") (by decide +kernel)) (fun _ h9 => h9) rfl (by decide +kernel) rfl rfl (Nat.le_of_ble_eq_true rfl) dX5_next_155 (fun H locs hP hD hS => ?_)
      have hP : va_P D vwCl [(o0, .inr (5, [.long tr, .ref o1, .int (zI td), .ref o2, .ref o3, .ref o4, .ref o5, .int (zI (i + 1)), .int (zI t), .int (zI g3), .int (zI 0), .int (zI g5), .int (zI g6), .ref o6, .ref o7, .ref o8, .ref o9, .int (zI g7), .ref oz])), (o1, .inl (cB, 200, .inl (zia (sgF f1))))] H := hP
      have hD : va_D A [(o0, .inr (5, [.long tr, .ref o1, .int (zI td), .ref o2, .ref o3, .ref o4, .ref o5, .int (zI (i + 1)), .int (zI t), .int (zI g3), .int (zI 0), .int (zI g5), .int (zI g6), .ref o6, .ref o7, .ref o8, .ref o9, .int (zI g7), .ref oz])), (o1, .inl (cB, 200, .inl (zia (sgF f1))))] := hD
      refine lv_goto (tgt := 68) hx hb dX5_next_158 (by decide) ?_
      exact ih n (i + 1) c ((btA f1 td i) - 96) t (by omega) (by assumption) (by omega) (by omega) (by omega) (by omega) (by assumption) (by rw [← hv, wcM, if_pos c_79, if_neg (show ¬ i - t < 6 by omega), if_pos (show i - t = 6 by omega)]) _ _ hP hD hS _ (lv_sub hl [3, 4, 1, 0] rfl)
    refine lv_bipush (v := zI 27) hx hb dX5_next_100 (by decide) ?_
    refine lv_iload_n hx hb dX5_next_102 rfl (lv_at hl 3 rfl) ?_
    refine z_imul hx hb dX5_next_103 ?_
    refine lv_aload_n hx hb dX5_next_104 rfl (lv_at hl 1 rfl) ?_
    refine pc_V (As := []) (rest := [.int (zI (27 * c))]) M (c_X5_here l D cB cI cZ cM _ o0 o1 o2 o3 o4 o5 o6 o7 o8 o9 oz tr td i t g3 0 g5 g6 g7 f1 (by first | assumption | omega) (by first | assumption | omega) (by first | assumption | omega)) gX5_next_X5_here rfl ⟨rfl, hd_X5_here⟩ ⟨Nat.le_of_ble_eq_true rfl, Nat.le_of_ble_eq_true rfl⟩ hK hP [0, 1] rfl 0 5 rfl rfl rfl hl.1 rfl rfl (Nat.le_of_ble_eq_true rfl) dX5_next_105 ⟨Nat.le_of_ble_eq_true rfl, Nat.le_of_ble_eq_true rfl⟩ (fun r_105 h_105 => ?_)
    subst h_105
    refine z_iadd hx hb dX5_next_108 ?_
    refine lv_bipush (v := zI 96) hx hb dX5_next_109 (by decide) ?_
    refine z_isub hx hb dX5_next_111 ?_
    refine lv_goto (tgt := 116) hx hb dX5_next_112 (by decide) ?_
    refine lv_istore_n (lv' := [(2, .int (zI (((27 * c) + (btA f1 td i)) - 96))), (4, .int (zI (i - t))), (0, .ref o0), (1, .int (zI (btA f1 td t))), (3, .int (zI x))]) hx hb dX5_next_116 rfl hl (by decide) rfl (fun ls hl => ?_)
    refine lv_iload hx hb dX5_next_117 (lv_at hl 1 rfl) ?_
    refine lv_bipush (v := zI 6) hx hb dX5_next_119 (by decide) ?_
    refine z_icmp_ne (tgt := 134) hx hb dX5_next_121 (by decide) (by omega) (fun c_121 => ?_) (fun c_121 => ?_)
    · skip
      refine lv_iload hx hb dX5_next_134 (lv_at hl 1 rfl) ?_
      refine lv_bipush (v := zI 6) hx hb dX5_next_136 (by decide) ?_
      refine z_icmp_le (tgt := 146) hx hb dX5_next_138 (by decide) (by omega) (fun c_138 => ?_) (fun c_138 => ?_)
      · skip
        refine lv_iload_n hx hb dX5_next_146 rfl (lv_at hl 4 rfl) ?_
        refine lv_istore_n (lv' := [(3, .int (zI x)), (2, .int (zI (((27 * c) + (btA f1 td i)) - 96))), (4, .int (zI (i - t))), (0, .ref o0), (1, .int (zI (btA f1 td t)))]) hx hb dX5_next_147 rfl hl (by decide) rfl (fun ls hl => ?_)
        refine lv_aload_n hx hb dX5_next_148 rfl (lv_at hl 3 rfl) ?_
        refine lv_dup hx hb dX5_next_149 rfl ?_
        refine va_get (D := D) (ci := 5) (C := RX5) (T := TX5) (N := 19) hx hb hts inc_X5_next_5 hown hK hP 0 rfl rfl 7 (by decide) (hts (.fieldLink RX5 56 "BedHouseModel" "at" "I") (by decide +kernel)) (fun _ h9 => h9) rfl dX5_next_150 ?_
        refine lv_iconst (v := zI 1) hx hb dX5_next_153 rfl ?_
        refine z_iadd hx hb dX5_next_154 ?_
        refine va_put (D := D) (ci := 5) (v := .int (zI (i + 1))) (ty := .int) (C := RX5) (T := TX5) (N := 19) hx hb hts inc_X5_next_5 tyX5 tyX5_ok nmX5 hown hK hP hD hS 0 rfl rfl 7 (by decide) (hts (.fieldLink RX5 56 "BedHouseModel" "at" "I") (by decide +kernel)) (fun _ h9 => h9) rfl (by decide +kernel) rfl rfl (Nat.le_of_ble_eq_true rfl) dX5_next_155 (fun H locs hP hD hS => ?_)
        have hP : va_P D vwCl [(o0, .inr (5, [.long tr, .ref o1, .int (zI td), .ref o2, .ref o3, .ref o4, .ref o5, .int (zI (i + 1)), .int (zI t), .int (zI g3), .int (zI 0), .int (zI g5), .int (zI g6), .ref o6, .ref o7, .ref o8, .ref o9, .int (zI g7), .ref oz])), (o1, .inl (cB, 200, .inl (zia (sgF f1))))] H := hP
        have hD : va_D A [(o0, .inr (5, [.long tr, .ref o1, .int (zI td), .ref o2, .ref o3, .ref o4, .ref o5, .int (zI (i + 1)), .int (zI t), .int (zI g3), .int (zI 0), .int (zI g5), .int (zI g6), .ref o6, .ref o7, .ref o8, .ref o9, .int (zI g7), .ref oz])), (o1, .inl (cB, 200, .inl (zia (sgF f1))))] := hD
        refine lv_goto (tgt := 68) hx hb dX5_next_158 (by decide) ?_
        exact ih n (i + 1) (((27 * c) + (btA f1 td i)) - 96) x t (by omega) (by assumption) (by omega) (by omega) (by omega) (by omega) (by assumption) (by rw [← hv, wcM, if_pos c_79, if_pos (show i - t < 6 by omega), if_neg (show ¬ i - t = 6 by omega), if_neg (show ¬ 6 < i - t by omega)]) _ _ hP hD hS _ (lv_sub hl [3, 4, 1, 0] rfl)
      exfalso; omega
    exfalso; omega
set_option maxHeartbeats 4000000 in
set_option maxRecDepth 100000 in
theorem lp_X5_next_208 (l : Launch) (D : va_G) (cB cI cZ cM : ClassId) (o0 : Nat) (o1 : Nat) (o2 : Nat) (o3 : Nat) (o4 : Nat) (o5 : Nat) (o6 : Nat) (o7 : Nat) (o8 : Nat) (o9 : Nat) (oz : Nat) (tr : Int64) (td : Int) (g1 : Int) (g2 : Int) (g3 : Int) (g4 : Int) (g5 : Int) (g6 : Int) (g7 : Int) (f1 : Int → Int) (htd : 0 ≤ td ∧ td ≤ 200) (hf1 : ∀ i : Int, 0 ≤ i → i < 200 → 0 ≤ f1 i ∧ f1 i ≤ 255) (hg1 : 0 ≤ g1 ∧ g1 ≤ td) {pg : Program} {ev : Env} {sx : State} {mm : MethodId} {args : Array Value} {below : List Frame} {meth : Method} {cd : Code} (M : MX pg sx mm args meth cd cX5_next 5 none RX5 wsX5_next) (hK : va_K D vwCl (TYS cB cI cZ cM) sx) {A : Nat → Prop} (hA : ∀ q : Nat, sx.heap.size ≤ q → A q) : ∀ (N : Nat) (n : Nat) (i : Int) (v : Int) (t : Int), (n < N) → (t = skF (btA f1 td) 201 g1) → ((0 ≤ t ∧ t ≤ i) ∧ i ≤ td) → (td < i + n) → (0 ≤ v ∧ v ≤ 999) → (48 ≤ btA f1 td t ∧ btA f1 td t ≤ 57) → (ncM (btA f1 td) n i v = ncM (btA f1 td) 201 t 0) → ∀ (H : Heap) (locs : List Loc), va_P D vwCl [(o0, .inr (5, [.long tr, .ref o1, .int (zI td), .ref o2, .ref o3, .ref o4, .ref o5, .int (zI i), .int (zI t), .int (zI g3), .int (zI v), .int (zI g5), .int (zI g6), .ref o6, .ref o7, .ref o8, .ref o9, .int (zI g7), .ref oz])), (o1, .inl (cB, 200, .inl (zia (sgF f1))))] H → va_D A [(o0, .inr (5, [.long tr, .ref o1, .int (zI td), .ref o2, .ref o3, .ref o4, .ref o5, .int (zI i), .int (zI t), .int (zI g3), .int (zI v), .int (zI g5), .int (zI g6), .ref o6, .ref o7, .ref o8, .ref o9, .int (zI g7), .ref oz])), (o1, .inl (cB, 200, .inl (zia (sgF f1))))] → va_S A sx.heap H locs → ∀ ls : Array Slot, lv_has ls 5 [(0, .ref o0), (1, .int (zI (btA f1 td t)))] → W pg l ev (rmW 1 0 0 22) sx mm args below meth cd H locs 0 0 (QWv below args sx A D (fun (u : TKS) => u = nxM (btA f1 td) g1) (fun (u : TKS) => [(o0, .inr (5, [.long tr, .ref o1, .int (zI td), .ref o2, .ref o3, .ref o4, .ref o5, .int (zI u.1), .int (zI u.2.1), .int (zI u.2.2.1), .int (zI u.2.2.2), .int (zI g5), .int (zI g6), .ref o6, .ref o7, .ref o8, .ref o9, .int (zI g7), .ref oz])), (o1, .inl (cB, 200, .inl (zia (sgF f1))))]) 0 0) (F0 mm 208 ls []) := by
  intro N
  induction N with
  | zero => intro n i v t hN; exact absurd hN (Nat.not_lt_zero _)
  | succ N ih =>
    intro n i v t hN ht hi hn hvr hb0 hv H locs hP hD hS ls hl
    obtain ⟨hx, hb, hr, hml, hown, hts, hlk, hN0⟩ := id M
    obtain ⟨n, rfl⟩ : ∃ x : Nat, n = x + 1 := ⟨n - 1, by omega⟩
    have hbr := btA_rng hf1 td i
    have hbt := btA_rng hf1 td t
    refine lv_aload_n hx hb dX5_next_208 rfl (lv_at hl 0 rfl) ?_
    refine pc_V (As := []) (rest := []) M (c_X5_here l D cB cI cZ cM _ o0 o1 o2 o3 o4 o5 o6 o7 o8 o9 oz tr td i t g3 v g5 g6 g7 f1 (by first | assumption | omega) (by first | assumption | omega) (by first | assumption | omega)) gX5_next_X5_here rfl ⟨rfl, hd_X5_here⟩ ⟨Nat.le_of_ble_eq_true rfl, Nat.le_of_ble_eq_true rfl⟩ hK hP [0, 1] rfl 0 5 rfl rfl rfl hl.1 rfl rfl (Nat.le_of_ble_eq_true rfl) dX5_next_209 ⟨Nat.le_of_ble_eq_true rfl, Nat.le_of_ble_eq_true rfl⟩ (fun r_209 h_209 => ?_)
    subst h_209
    refine lv_bipush (v := zI 48) hx hb dX5_next_212 (by decide) ?_
    refine lv_bipush (v := zI 57) hx hb dX5_next_214 (by decide) ?_
    refine pc_J (As := [.int (zI (btA f1 td i)), .int (zI 48), .int (zI 57)]) (rest := []) M (c_X5_in l D cB cI cZ cM _ (btA f1 td i) 48 57 (by first | assumption | omega) (by first | assumption | omega) (by first | assumption | omega)) gX5_next_X5_in rfl hd_X5_in ⟨Nat.le_of_ble_eq_true rfl, Nat.le_of_ble_eq_true rfl⟩ hK hP [] rfl hl.1 rfl rfl (Nat.le_of_ble_eq_true rfl) dX5_next_216 ⟨Nat.le_of_ble_eq_true rfl, Nat.le_of_ble_eq_true rfl⟩ (fun r_216 h_216 => ?_)
    subst h_216
    refine z_if_eq (tgt := 270) hx hb dX5_next_219 (by decide) (zb_bd _) (fun c_219 => ?_) (fun c_219 => ?_)
    · skip
      have c_219 := zb_f c_219
      have hw9 : ncM (btA f1 td) 201 t 0 = (i, v) := by rw [← hv, ncM, if_neg c_219]
      refine lv_aload_n hx hb dX5_next_270 rfl (lv_at hl 0 rfl) ?_
      refine lv_aload_n hx hb dX5_next_271 rfl (lv_at hl 0 rfl) ?_
      refine va_get (D := D) (ci := 5) (C := RX5) (T := TX5) (N := 19) hx hb hts inc_X5_next_5 hown hK hP 0 rfl rfl 10 (by decide) (hts (.fieldLink RX5 66 "BedHouseModel" "value" "I") (by decide +kernel)) (fun _ h9 => h9) rfl dX5_next_272 ?_
      refine lv_bipush (v := zI 99) hx hb dX5_next_275 (by decide) ?_
      refine z_icmp_gt (tgt := 299) hx hb dX5_next_277 (by decide) (by omega) (fun c_277 => ?_) (fun c_277 => ?_)
      · skip
        refine lv_bipush (v := zI 14) hx hb dX5_next_299 (by decide) ?_
        refine lv_goto (tgt := 306) hx hb dX5_next_301 (by decide) ?_
        refine va_put (D := D) (ci := 5) (v := .int (zI 14)) (ty := .int) (C := RX5) (T := TX5) (N := 19) hx hb hts inc_X5_next_5 tyX5 tyX5_ok nmX5 hown hK hP hD hS 0 rfl rfl 9 (by decide) (hts (.fieldLink RX5 69 "BedHouseModel" "sort" "I") (by decide +kernel)) (fun _ h9 => h9) rfl (by decide +kernel) rfl rfl (Nat.le_of_ble_eq_true rfl) dX5_next_306 (fun H locs hP hD hS => ?_)
        have hP : va_P D vwCl [(o0, .inr (5, [.long tr, .ref o1, .int (zI td), .ref o2, .ref o3, .ref o4, .ref o5, .int (zI i), .int (zI t), .int (zI 14), .int (zI v), .int (zI g5), .int (zI g6), .ref o6, .ref o7, .ref o8, .ref o9, .int (zI g7), .ref oz])), (o1, .inl (cB, 200, .inl (zia (sgF f1))))] H := hP
        have hD : va_D A [(o0, .inr (5, [.long tr, .ref o1, .int (zI td), .ref o2, .ref o3, .ref o4, .ref o5, .int (zI i), .int (zI t), .int (zI 14), .int (zI v), .int (zI g5), .int (zI g6), .ref o6, .ref o7, .ref o8, .ref o9, .int (zI g7), .ref oz])), (o1, .inl (cB, 200, .inl (zia (sgF f1))))] := hD
        refine lv_goto (tgt := 339) hx hb dX5_next_309 (by decide) ?_
        have hnx : nxM (btA f1 td) g1 = (i, t, 14, v) := by unfold nxM; rw [← ht]; unfold tkM; rw [if_neg (by omega), if_neg (by omega), if_pos hb0, hw9]; dsimp only; rw [if_pos (by omega)]
        exact wr_retv M dX5_next_339 (u := (i, t, 14, v)) (hnx.symm) hP hD hS
      refine lv_iload_n hx hb dX5_next_280 rfl (lv_at hl 1 rfl) ?_
      refine lv_bipush (v := zI 48) hx hb dX5_next_281 (by decide) ?_
      refine z_icmp_ne (tgt := 304) hx hb dX5_next_283 (by decide) (by omega) (fun c_283 => ?_) (fun c_283 => ?_)
      · skip
        refine lv_bipush (v := zI 12) hx hb dX5_next_304 (by decide) ?_
        refine va_put (D := D) (ci := 5) (v := .int (zI 12)) (ty := .int) (C := RX5) (T := TX5) (N := 19) hx hb hts inc_X5_next_5 tyX5 tyX5_ok nmX5 hown hK hP hD hS 0 rfl rfl 9 (by decide) (hts (.fieldLink RX5 69 "BedHouseModel" "sort" "I") (by decide +kernel)) (fun _ h9 => h9) rfl (by decide +kernel) rfl rfl (Nat.le_of_ble_eq_true rfl) dX5_next_306 (fun H locs hP hD hS => ?_)
        have hP : va_P D vwCl [(o0, .inr (5, [.long tr, .ref o1, .int (zI td), .ref o2, .ref o3, .ref o4, .ref o5, .int (zI i), .int (zI t), .int (zI 12), .int (zI v), .int (zI g5), .int (zI g6), .ref o6, .ref o7, .ref o8, .ref o9, .int (zI g7), .ref oz])), (o1, .inl (cB, 200, .inl (zia (sgF f1))))] H := hP
        have hD : va_D A [(o0, .inr (5, [.long tr, .ref o1, .int (zI td), .ref o2, .ref o3, .ref o4, .ref o5, .int (zI i), .int (zI t), .int (zI 12), .int (zI v), .int (zI g5), .int (zI g6), .ref o6, .ref o7, .ref o8, .ref o9, .int (zI g7), .ref oz])), (o1, .inl (cB, 200, .inl (zia (sgF f1))))] := hD
        refine lv_goto (tgt := 339) hx hb dX5_next_309 (by decide) ?_
        have hnx : nxM (btA f1 td) g1 = (i, t, 12, v) := by unfold nxM; rw [← ht]; unfold tkM; rw [if_neg (by omega), if_neg (by omega), if_pos hb0, hw9]; dsimp only; rw [if_neg (by omega)]
        exact wr_retv M dX5_next_339 (u := (i, t, 12, v)) (hnx.symm) hP hD hS
      refine lv_aload_n hx hb dX5_next_286 rfl (lv_at hl 0 rfl) ?_
      refine va_get (D := D) (ci := 5) (C := RX5) (T := TX5) (N := 19) hx hb hts inc_X5_next_5 hown hK hP 0 rfl rfl 7 (by decide) (hts (.fieldLink RX5 56 "BedHouseModel" "at" "I") (by decide +kernel)) (fun _ h9 => h9) rfl dX5_next_287 ?_
      refine lv_aload_n hx hb dX5_next_290 rfl (lv_at hl 0 rfl) ?_
      refine va_get (D := D) (ci := 5) (C := RX5) (T := TX5) (N := 19) hx hb hts inc_X5_next_5 hown hK hP 0 rfl rfl 8 (by decide) (hts (.fieldLink RX5 63 "BedHouseModel" "start" "I") (by decide +kernel)) (fun _ h9 => h9) rfl dX5_next_291 ?_
      refine z_isub hx hb dX5_next_294 ?_
      refine lv_iconst (v := zI 1) hx hb dX5_next_295 rfl ?_
      refine z_icmp_le (tgt := 304) hx hb dX5_next_296 (by decide) (by omega) (fun c_296 => ?_) (fun c_296 => ?_)
      · skip
        refine lv_bipush (v := zI 12) hx hb dX5_next_304 (by decide) ?_
        refine va_put (D := D) (ci := 5) (v := .int (zI 12)) (ty := .int) (C := RX5) (T := TX5) (N := 19) hx hb hts inc_X5_next_5 tyX5 tyX5_ok nmX5 hown hK hP hD hS 0 rfl rfl 9 (by decide) (hts (.fieldLink RX5 69 "BedHouseModel" "sort" "I") (by decide +kernel)) (fun _ h9 => h9) rfl (by decide +kernel) rfl rfl (Nat.le_of_ble_eq_true rfl) dX5_next_306 (fun H locs hP hD hS => ?_)
        have hP : va_P D vwCl [(o0, .inr (5, [.long tr, .ref o1, .int (zI td), .ref o2, .ref o3, .ref o4, .ref o5, .int (zI i), .int (zI t), .int (zI 12), .int (zI v), .int (zI g5), .int (zI g6), .ref o6, .ref o7, .ref o8, .ref o9, .int (zI g7), .ref oz])), (o1, .inl (cB, 200, .inl (zia (sgF f1))))] H := hP
        have hD : va_D A [(o0, .inr (5, [.long tr, .ref o1, .int (zI td), .ref o2, .ref o3, .ref o4, .ref o5, .int (zI i), .int (zI t), .int (zI 12), .int (zI v), .int (zI g5), .int (zI g6), .ref o6, .ref o7, .ref o8, .ref o9, .int (zI g7), .ref oz])), (o1, .inl (cB, 200, .inl (zia (sgF f1))))] := hD
        refine lv_goto (tgt := 339) hx hb dX5_next_309 (by decide) ?_
        have hnx : nxM (btA f1 td) g1 = (i, t, 12, v) := by unfold nxM; rw [← ht]; unfold tkM; rw [if_neg (by omega), if_neg (by omega), if_pos hb0, hw9]; dsimp only; rw [if_neg (by omega)]
        exact wr_retv M dX5_next_339 (u := (i, t, 12, v)) (hnx.symm) hP hD hS
      refine lv_bipush (v := zI 14) hx hb dX5_next_299 (by decide) ?_
      refine lv_goto (tgt := 306) hx hb dX5_next_301 (by decide) ?_
      refine va_put (D := D) (ci := 5) (v := .int (zI 14)) (ty := .int) (C := RX5) (T := TX5) (N := 19) hx hb hts inc_X5_next_5 tyX5 tyX5_ok nmX5 hown hK hP hD hS 0 rfl rfl 9 (by decide) (hts (.fieldLink RX5 69 "BedHouseModel" "sort" "I") (by decide +kernel)) (fun _ h9 => h9) rfl (by decide +kernel) rfl rfl (Nat.le_of_ble_eq_true rfl) dX5_next_306 (fun H locs hP hD hS => ?_)
      have hP : va_P D vwCl [(o0, .inr (5, [.long tr, .ref o1, .int (zI td), .ref o2, .ref o3, .ref o4, .ref o5, .int (zI i), .int (zI t), .int (zI 14), .int (zI v), .int (zI g5), .int (zI g6), .ref o6, .ref o7, .ref o8, .ref o9, .int (zI g7), .ref oz])), (o1, .inl (cB, 200, .inl (zia (sgF f1))))] H := hP
      have hD : va_D A [(o0, .inr (5, [.long tr, .ref o1, .int (zI td), .ref o2, .ref o3, .ref o4, .ref o5, .int (zI i), .int (zI t), .int (zI 14), .int (zI v), .int (zI g5), .int (zI g6), .ref o6, .ref o7, .ref o8, .ref o9, .int (zI g7), .ref oz])), (o1, .inl (cB, 200, .inl (zia (sgF f1))))] := hD
      refine lv_goto (tgt := 339) hx hb dX5_next_309 (by decide) ?_
      have hnx : nxM (btA f1 td) g1 = (i, t, 14, v) := by unfold nxM; rw [← ht]; unfold tkM; rw [if_neg (by omega), if_neg (by omega), if_pos hb0, hw9]; dsimp only; rw [if_pos (by omega)]
      exact wr_retv M dX5_next_339 (u := (i, t, 14, v)) (hnx.symm) hP hD hS
    have c_219 := zb_t c_219
    have hbn := btA_nn (tx := f1) (ln := td) (i := i) (by omega)
    refine lv_aload_n hx hb dX5_next_222 rfl (lv_at hl 0 rfl) ?_
    refine lv_aload_n hx hb dX5_next_223 rfl (lv_at hl 0 rfl) ?_
    refine va_get (D := D) (ci := 5) (C := RX5) (T := TX5) (N := 19) hx hb hts inc_X5_next_5 hown hK hP 0 rfl rfl 10 (by decide) (hts (.fieldLink RX5 66 "BedHouseModel" "value" "I") (by decide +kernel)) (fun _ h9 => h9) rfl dX5_next_224 ?_
    refine lv_bipush (v := zI 99) hx hb dX5_next_227 (by decide) ?_
    refine z_icmp_le (tgt := 239) hx hb dX5_next_229 (by decide) (by omega) (fun c_229 => ?_) (fun c_229 => ?_)
    · skip
      refine lv_bipush (v := zI 10) hx hb dX5_next_239 (by decide) ?_
      refine lv_aload_n hx hb dX5_next_241 rfl (lv_at hl 0 rfl) ?_
      refine va_get (D := D) (ci := 5) (C := RX5) (T := TX5) (N := 19) hx hb hts inc_X5_next_5 hown hK hP 0 rfl rfl 10 (by decide) (hts (.fieldLink RX5 66 "BedHouseModel" "value" "I") (by decide +kernel)) (fun _ h9 => h9) rfl dX5_next_242 ?_
      refine z_imul hx hb dX5_next_245 ?_
      refine lv_aload_n hx hb dX5_next_246 rfl (lv_at hl 0 rfl) ?_
      refine pc_V (As := []) (rest := [.int (zI (10 * v)), .ref o0]) M (c_X5_here l D cB cI cZ cM _ o0 o1 o2 o3 o4 o5 o6 o7 o8 o9 oz tr td i t g3 v g5 g6 g7 f1 (by first | assumption | omega) (by first | assumption | omega) (by first | assumption | omega)) gX5_next_X5_here rfl ⟨rfl, hd_X5_here⟩ ⟨Nat.le_of_ble_eq_true rfl, Nat.le_of_ble_eq_true rfl⟩ hK hP [0, 1] rfl 0 5 rfl rfl rfl hl.1 rfl rfl (Nat.le_of_ble_eq_true rfl) dX5_next_247 ⟨Nat.le_of_ble_eq_true rfl, Nat.le_of_ble_eq_true rfl⟩ (fun r_247 h_247 => ?_)
      subst h_247
      refine z_iadd hx hb dX5_next_250 ?_
      refine lv_bipush (v := zI 48) hx hb dX5_next_251 (by decide) ?_
      refine z_isub hx hb dX5_next_253 ?_
      refine va_put (D := D) (ci := 5) (v := .int (zI (((10 * v) + (btA f1 td i)) - 48))) (ty := .int) (C := RX5) (T := TX5) (N := 19) hx hb hts inc_X5_next_5 tyX5 tyX5_ok nmX5 hown hK hP hD hS 0 rfl rfl 10 (by decide) (hts (.fieldLink RX5 66 "BedHouseModel" "value" "I") (by decide +kernel)) (fun _ h9 => h9) rfl (by decide +kernel) rfl rfl (Nat.le_of_ble_eq_true rfl) dX5_next_254 (fun H locs hP hD hS => ?_)
      have hP : va_P D vwCl [(o0, .inr (5, [.long tr, .ref o1, .int (zI td), .ref o2, .ref o3, .ref o4, .ref o5, .int (zI i), .int (zI t), .int (zI g3), .int (zI (((10 * v) + (btA f1 td i)) - 48)), .int (zI g5), .int (zI g6), .ref o6, .ref o7, .ref o8, .ref o9, .int (zI g7), .ref oz])), (o1, .inl (cB, 200, .inl (zia (sgF f1))))] H := hP
      have hD : va_D A [(o0, .inr (5, [.long tr, .ref o1, .int (zI td), .ref o2, .ref o3, .ref o4, .ref o5, .int (zI i), .int (zI t), .int (zI g3), .int (zI (((10 * v) + (btA f1 td i)) - 48)), .int (zI g5), .int (zI g6), .ref o6, .ref o7, .ref o8, .ref o9, .int (zI g7), .ref oz])), (o1, .inl (cB, 200, .inl (zia (sgF f1))))] := hD
      refine lv_aload_n hx hb dX5_next_257 rfl (lv_at hl 0 rfl) ?_
      refine lv_dup hx hb dX5_next_258 rfl ?_
      refine va_get (D := D) (ci := 5) (C := RX5) (T := TX5) (N := 19) hx hb hts inc_X5_next_5 hown hK hP 0 rfl rfl 7 (by decide) (hts (.fieldLink RX5 56 "BedHouseModel" "at" "I") (by decide +kernel)) (fun _ h9 => h9) rfl dX5_next_259 ?_
      refine lv_iconst (v := zI 1) hx hb dX5_next_262 rfl ?_
      refine z_iadd hx hb dX5_next_263 ?_
      refine va_put (D := D) (ci := 5) (v := .int (zI (i + 1))) (ty := .int) (C := RX5) (T := TX5) (N := 19) hx hb hts inc_X5_next_5 tyX5 tyX5_ok nmX5 hown hK hP hD hS 0 rfl rfl 7 (by decide) (hts (.fieldLink RX5 56 "BedHouseModel" "at" "I") (by decide +kernel)) (fun _ h9 => h9) rfl (by decide +kernel) rfl rfl (Nat.le_of_ble_eq_true rfl) dX5_next_264 (fun H locs hP hD hS => ?_)
      have hP : va_P D vwCl [(o0, .inr (5, [.long tr, .ref o1, .int (zI td), .ref o2, .ref o3, .ref o4, .ref o5, .int (zI (i + 1)), .int (zI t), .int (zI g3), .int (zI (((10 * v) + (btA f1 td i)) - 48)), .int (zI g5), .int (zI g6), .ref o6, .ref o7, .ref o8, .ref o9, .int (zI g7), .ref oz])), (o1, .inl (cB, 200, .inl (zia (sgF f1))))] H := hP
      have hD : va_D A [(o0, .inr (5, [.long tr, .ref o1, .int (zI td), .ref o2, .ref o3, .ref o4, .ref o5, .int (zI (i + 1)), .int (zI t), .int (zI g3), .int (zI (((10 * v) + (btA f1 td i)) - 48)), .int (zI g5), .int (zI g6), .ref o6, .ref o7, .ref o8, .ref o9, .int (zI g7), .ref oz])), (o1, .inl (cB, 200, .inl (zia (sgF f1))))] := hD
      refine lv_goto (tgt := 208) hx hb dX5_next_267 (by decide) ?_
      exact ih n (i + 1) (10 * v + btA f1 td i - 48) t (by omega) (by assumption) (by omega) (by omega) (by omega) (by assumption) (by rw [← hv, ncM, if_pos c_219, if_neg (show ¬ 99 < v by omega)]) _ _ hP hD hS _ (lv_sub hl [0, 1] rfl)
    refine lv_aload_n hx hb dX5_next_232 rfl (lv_at hl 0 rfl) ?_
    refine va_get (D := D) (ci := 5) (C := RX5) (T := TX5) (N := 19) hx hb hts inc_X5_next_5 hown hK hP 0 rfl rfl 10 (by decide) (hts (.fieldLink RX5 66 "BedHouseModel" "value" "I") (by decide +kernel)) (fun _ h9 => h9) rfl dX5_next_233 ?_
    refine lv_goto (tgt := 254) hx hb dX5_next_236 (by decide) ?_
    refine va_put (D := D) (ci := 5) (v := .int (zI v)) (ty := .int) (C := RX5) (T := TX5) (N := 19) hx hb hts inc_X5_next_5 tyX5 tyX5_ok nmX5 hown hK hP hD hS 0 rfl rfl 10 (by decide) (hts (.fieldLink RX5 66 "BedHouseModel" "value" "I") (by decide +kernel)) (fun _ h9 => h9) rfl (by decide +kernel) rfl rfl (Nat.le_of_ble_eq_true rfl) dX5_next_254 (fun H locs hP hD hS => ?_)
    have hP : va_P D vwCl [(o0, .inr (5, [.long tr, .ref o1, .int (zI td), .ref o2, .ref o3, .ref o4, .ref o5, .int (zI i), .int (zI t), .int (zI g3), .int (zI v), .int (zI g5), .int (zI g6), .ref o6, .ref o7, .ref o8, .ref o9, .int (zI g7), .ref oz])), (o1, .inl (cB, 200, .inl (zia (sgF f1))))] H := hP
    have hD : va_D A [(o0, .inr (5, [.long tr, .ref o1, .int (zI td), .ref o2, .ref o3, .ref o4, .ref o5, .int (zI i), .int (zI t), .int (zI g3), .int (zI v), .int (zI g5), .int (zI g6), .ref o6, .ref o7, .ref o8, .ref o9, .int (zI g7), .ref oz])), (o1, .inl (cB, 200, .inl (zia (sgF f1))))] := hD
    refine lv_aload_n hx hb dX5_next_257 rfl (lv_at hl 0 rfl) ?_
    refine lv_dup hx hb dX5_next_258 rfl ?_
    refine va_get (D := D) (ci := 5) (C := RX5) (T := TX5) (N := 19) hx hb hts inc_X5_next_5 hown hK hP 0 rfl rfl 7 (by decide) (hts (.fieldLink RX5 56 "BedHouseModel" "at" "I") (by decide +kernel)) (fun _ h9 => h9) rfl dX5_next_259 ?_
    refine lv_iconst (v := zI 1) hx hb dX5_next_262 rfl ?_
    refine z_iadd hx hb dX5_next_263 ?_
    refine va_put (D := D) (ci := 5) (v := .int (zI (i + 1))) (ty := .int) (C := RX5) (T := TX5) (N := 19) hx hb hts inc_X5_next_5 tyX5 tyX5_ok nmX5 hown hK hP hD hS 0 rfl rfl 7 (by decide) (hts (.fieldLink RX5 56 "BedHouseModel" "at" "I") (by decide +kernel)) (fun _ h9 => h9) rfl (by decide +kernel) rfl rfl (Nat.le_of_ble_eq_true rfl) dX5_next_264 (fun H locs hP hD hS => ?_)
    have hP : va_P D vwCl [(o0, .inr (5, [.long tr, .ref o1, .int (zI td), .ref o2, .ref o3, .ref o4, .ref o5, .int (zI (i + 1)), .int (zI t), .int (zI g3), .int (zI v), .int (zI g5), .int (zI g6), .ref o6, .ref o7, .ref o8, .ref o9, .int (zI g7), .ref oz])), (o1, .inl (cB, 200, .inl (zia (sgF f1))))] H := hP
    have hD : va_D A [(o0, .inr (5, [.long tr, .ref o1, .int (zI td), .ref o2, .ref o3, .ref o4, .ref o5, .int (zI (i + 1)), .int (zI t), .int (zI g3), .int (zI v), .int (zI g5), .int (zI g6), .ref o6, .ref o7, .ref o8, .ref o9, .int (zI g7), .ref oz])), (o1, .inl (cB, 200, .inl (zia (sgF f1))))] := hD
    refine lv_goto (tgt := 208) hx hb dX5_next_267 (by decide) ?_
    exact ih n (i + 1) v t (by omega) (by assumption) (by omega) (by omega) (by omega) (by assumption) (by rw [← hv, ncM, if_pos c_219, if_pos (show 99 < v by omega)]) _ _ hP hD hS _ (lv_sub hl [0, 1] rfl)
set_option maxHeartbeats 4000000 in
set_option maxRecDepth 100000 in
theorem lp_X5_next_0 (l : Launch) (D : va_G) (cB cI cZ cM : ClassId) (o0 : Nat) (o1 : Nat) (o2 : Nat) (o3 : Nat) (o4 : Nat) (o5 : Nat) (o6 : Nat) (o7 : Nat) (o8 : Nat) (o9 : Nat) (oz : Nat) (tr : Int64) (td : Int) (g1 : Int) (g2 : Int) (g3 : Int) (g4 : Int) (g5 : Int) (g6 : Int) (g7 : Int) (f1 : Int → Int) (htd : 0 ≤ td ∧ td ≤ 200) (hf1 : ∀ i : Int, 0 ≤ i → i < 200 → 0 ≤ f1 i ∧ f1 i ≤ 255) (hg1 : 0 ≤ g1 ∧ g1 ≤ td) {pg : Program} {ev : Env} {sx : State} {mm : MethodId} {args : Array Value} {below : List Frame} {meth : Method} {cd : Code} (M : MX pg sx mm args meth cd cX5_next 5 none RX5 wsX5_next) (hK : va_K D vwCl (TYS cB cI cZ cM) sx) {A : Nat → Prop} (hA : ∀ q : Nat, sx.heap.size ≤ q → A q) : ∀ (N : Nat) (n : Nat) (i : Int), (n < N) → (g1 ≤ i ∧ i ≤ td) → (td < i + n) → (skF (btA f1 td) n i = skF (btA f1 td) 201 g1) → ∀ (H : Heap) (locs : List Loc), va_P D vwCl [(o0, .inr (5, [.long tr, .ref o1, .int (zI td), .ref o2, .ref o3, .ref o4, .ref o5, .int (zI i), .int (zI g2), .int (zI g3), .int (zI g4), .int (zI g5), .int (zI g6), .ref o6, .ref o7, .ref o8, .ref o9, .int (zI g7), .ref oz])), (o1, .inl (cB, 200, .inl (zia (sgF f1))))] H → va_D A [(o0, .inr (5, [.long tr, .ref o1, .int (zI td), .ref o2, .ref o3, .ref o4, .ref o5, .int (zI i), .int (zI g2), .int (zI g3), .int (zI g4), .int (zI g5), .int (zI g6), .ref o6, .ref o7, .ref o8, .ref o9, .int (zI g7), .ref oz])), (o1, .inl (cB, 200, .inl (zia (sgF f1))))] → va_S A sx.heap H locs → ∀ ls : Array Slot, lv_has ls 5 [(0, .ref o0)] → W pg l ev (rmW 1 0 0 22) sx mm args below meth cd H locs 0 0 (QWv below args sx A D (fun (u : TKS) => u = nxM (btA f1 td) g1) (fun (u : TKS) => [(o0, .inr (5, [.long tr, .ref o1, .int (zI td), .ref o2, .ref o3, .ref o4, .ref o5, .int (zI u.1), .int (zI u.2.1), .int (zI u.2.2.1), .int (zI u.2.2.2), .int (zI g5), .int (zI g6), .ref o6, .ref o7, .ref o8, .ref o9, .int (zI g7), .ref oz])), (o1, .inl (cB, 200, .inl (zia (sgF f1))))]) 0 0) (F0 mm 0 ls []) := by
  intro N
  induction N with
  | zero => intro n i hN; exact absurd hN (Nat.not_lt_zero _)
  | succ N ih =>
    intro n i hN hi hn hv H locs hP hD hS ls hl
    obtain ⟨hx, hb, hr, hml, hown, hts, hlk, hN0⟩ := id M
    obtain ⟨n, rfl⟩ : ∃ x : Nat, n = x + 1 := ⟨n - 1, by omega⟩
    have hbr := btA_rng hf1 td i
    refine lv_aload_n hx hb dX5_next_0 rfl (lv_at hl 0 rfl) ?_
    refine pc_V (As := []) (rest := []) M (c_X5_here l D cB cI cZ cM _ o0 o1 o2 o3 o4 o5 o6 o7 o8 o9 oz tr td i g2 g3 g4 g5 g6 g7 f1 (by first | assumption | omega) (by first | assumption | omega) (by first | assumption | omega)) gX5_next_X5_here rfl ⟨rfl, hd_X5_here⟩ ⟨Nat.le_of_ble_eq_true rfl, Nat.le_of_ble_eq_true rfl⟩ hK hP [0, 1] rfl 0 5 rfl rfl rfl hl.1 rfl rfl (Nat.le_of_ble_eq_true rfl) dX5_next_1 ⟨Nat.le_of_ble_eq_true rfl, Nat.le_of_ble_eq_true rfl⟩ (fun r_1 h_1 => ?_)
    subst h_1
    refine lv_bipush (v := zI 32) hx hb dX5_next_4 (by decide) ?_
    refine z_icmp_ne (tgt := 22) hx hb dX5_next_6 (by decide) (by omega) (fun c_6 => ?_) (fun c_6 => ?_)
    · skip
      have hend : skF (btA f1 td) 201 g1 = i := by rw [← hv, skF, if_neg c_6]
      refine lv_aload_n hx hb dX5_next_22 rfl (lv_at hl 0 rfl) ?_
      refine lv_aload_n hx hb dX5_next_23 rfl (lv_at hl 0 rfl) ?_
      refine va_get (D := D) (ci := 5) (C := RX5) (T := TX5) (N := 19) hx hb hts inc_X5_next_5 hown hK hP 0 rfl rfl 7 (by decide) (hts (.fieldLink RX5 56 "BedHouseModel" "at" "I") (by decide +kernel)) (fun _ h9 => h9) rfl dX5_next_24 ?_
      refine va_put (D := D) (ci := 5) (v := .int (zI i)) (ty := .int) (C := RX5) (T := TX5) (N := 19) hx hb hts inc_X5_next_5 tyX5 tyX5_ok nmX5 hown hK hP hD hS 0 rfl rfl 8 (by decide) (hts (.fieldLink RX5 63 "BedHouseModel" "start" "I") (by decide +kernel)) (fun _ h9 => h9) rfl (by decide +kernel) rfl rfl (Nat.le_of_ble_eq_true rfl) dX5_next_27 (fun H locs hP hD hS => ?_)
      have hP : va_P D vwCl [(o0, .inr (5, [.long tr, .ref o1, .int (zI td), .ref o2, .ref o3, .ref o4, .ref o5, .int (zI i), .int (zI i), .int (zI g3), .int (zI g4), .int (zI g5), .int (zI g6), .ref o6, .ref o7, .ref o8, .ref o9, .int (zI g7), .ref oz])), (o1, .inl (cB, 200, .inl (zia (sgF f1))))] H := hP
      have hD : va_D A [(o0, .inr (5, [.long tr, .ref o1, .int (zI td), .ref o2, .ref o3, .ref o4, .ref o5, .int (zI i), .int (zI i), .int (zI g3), .int (zI g4), .int (zI g5), .int (zI g6), .ref o6, .ref o7, .ref o8, .ref o9, .int (zI g7), .ref oz])), (o1, .inl (cB, 200, .inl (zia (sgF f1))))] := hD
      refine lv_aload_n hx hb dX5_next_30 rfl (lv_at hl 0 rfl) ?_
      refine lv_iconst (v := zI 0) hx hb dX5_next_31 rfl ?_
      refine va_put (D := D) (ci := 5) (v := .int (zI 0)) (ty := .int) (C := RX5) (T := TX5) (N := 19) hx hb hts inc_X5_next_5 tyX5 tyX5_ok nmX5 hown hK hP hD hS 0 rfl rfl 10 (by decide) (hts (.fieldLink RX5 66 "BedHouseModel" "value" "I") (by decide +kernel)) (fun _ h9 => h9) rfl (by decide +kernel) rfl rfl (Nat.le_of_ble_eq_true rfl) dX5_next_32 (fun H locs hP hD hS => ?_)
      have hP : va_P D vwCl [(o0, .inr (5, [.long tr, .ref o1, .int (zI td), .ref o2, .ref o3, .ref o4, .ref o5, .int (zI i), .int (zI i), .int (zI g3), .int (zI 0), .int (zI g5), .int (zI g6), .ref o6, .ref o7, .ref o8, .ref o9, .int (zI g7), .ref oz])), (o1, .inl (cB, 200, .inl (zia (sgF f1))))] H := hP
      have hD : va_D A [(o0, .inr (5, [.long tr, .ref o1, .int (zI td), .ref o2, .ref o3, .ref o4, .ref o5, .int (zI i), .int (zI i), .int (zI g3), .int (zI 0), .int (zI g5), .int (zI g6), .ref o6, .ref o7, .ref o8, .ref o9, .int (zI g7), .ref oz])), (o1, .inl (cB, 200, .inl (zia (sgF f1))))] := hD
      refine lv_aload_n hx hb dX5_next_35 rfl (lv_at hl 0 rfl) ?_
      refine pc_V (As := []) (rest := []) M (c_X5_here l D cB cI cZ cM _ o0 o1 o2 o3 o4 o5 o6 o7 o8 o9 oz tr td i i g3 0 g5 g6 g7 f1 (by first | assumption | omega) (by first | assumption | omega) (by first | assumption | omega)) gX5_next_X5_here rfl ⟨rfl, hd_X5_here⟩ ⟨Nat.le_of_ble_eq_true rfl, Nat.le_of_ble_eq_true rfl⟩ hK hP [0, 1] rfl 0 5 rfl rfl rfl hl.1 rfl rfl (Nat.le_of_ble_eq_true rfl) dX5_next_36 ⟨Nat.le_of_ble_eq_true rfl, Nat.le_of_ble_eq_true rfl⟩ (fun r_36 h_36 => ?_)
      subst h_36
      refine lv_istore_n (lv' := [(1, .int (zI (btA f1 td i))), (0, .ref o0)]) hx hb dX5_next_39 rfl hl (by decide) rfl (fun ls hl => ?_)
      refine lv_iload_n hx hb dX5_next_40 rfl (lv_at hl 0 rfl) ?_
      refine z_if_ge (tgt := 53) hx hb dX5_next_41 (by decide) (by omega) (fun c_41 => ?_) (fun c_41 => ?_)
      · skip
        have hbn := btA_nn (tx := f1) (ln := td) (i := i) (by omega)
        refine lv_iload_n hx hb dX5_next_53 rfl (lv_at hl 0 rfl) ?_
        refine lv_bipush (v := zI 97) hx hb dX5_next_54 (by decide) ?_
        refine lv_bipush (v := zI 122) hx hb dX5_next_56 (by decide) ?_
        refine pc_J (As := [.int (zI (btA f1 td i)), .int (zI 97), .int (zI 122)]) (rest := []) M (c_X5_in l D cB cI cZ cM _ (btA f1 td i) 97 122 (by first | assumption | omega) (by first | assumption | omega) (by first | assumption | omega)) gX5_next_X5_in rfl hd_X5_in ⟨Nat.le_of_ble_eq_true rfl, Nat.le_of_ble_eq_true rfl⟩ hK hP [] rfl hl.1 rfl rfl (Nat.le_of_ble_eq_true rfl) dX5_next_58 ⟨Nat.le_of_ble_eq_true rfl, Nat.le_of_ble_eq_true rfl⟩ (fun r_58 h_58 => ?_)
        subst h_58
        refine z_if_eq (tgt := 197) hx hb dX5_next_61 (by decide) (zb_bd _) (fun c_61 => ?_) (fun c_61 => ?_)
        · skip
          have c_61 := zb_f c_61
          refine lv_iload_n hx hb dX5_next_197 rfl (lv_at hl 0 rfl) ?_
          refine lv_bipush (v := zI 48) hx hb dX5_next_198 (by decide) ?_
          refine lv_bipush (v := zI 57) hx hb dX5_next_200 (by decide) ?_
          refine pc_J (As := [.int (zI (btA f1 td i)), .int (zI 48), .int (zI 57)]) (rest := []) M (c_X5_in l D cB cI cZ cM _ (btA f1 td i) 48 57 (by first | assumption | omega) (by first | assumption | omega) (by first | assumption | omega)) gX5_next_X5_in rfl hd_X5_in ⟨Nat.le_of_ble_eq_true rfl, Nat.le_of_ble_eq_true rfl⟩ hK hP [] rfl hl.1 rfl rfl (Nat.le_of_ble_eq_true rfl) dX5_next_202 ⟨Nat.le_of_ble_eq_true rfl, Nat.le_of_ble_eq_true rfl⟩ (fun r_202 h_202 => ?_)
          subst h_202
          refine z_if_eq (tgt := 312) hx hb dX5_next_205 (by decide) (zb_bd _) (fun c_205 => ?_) (fun c_205 => ?_)
          · skip
            have c_205 := zb_f c_205
            refine lv_aload_n hx hb dX5_next_312 rfl (lv_at hl 1 rfl) ?_
            refine lv_dup hx hb dX5_next_313 rfl ?_
            refine va_get (D := D) (ci := 5) (C := RX5) (T := TX5) (N := 19) hx hb hts inc_X5_next_5 hown hK hP 0 rfl rfl 7 (by decide) (hts (.fieldLink RX5 56 "BedHouseModel" "at" "I") (by decide +kernel)) (fun _ h9 => h9) rfl dX5_next_314 ?_
            refine lv_iconst (v := zI 1) hx hb dX5_next_317 rfl ?_
            refine z_iadd hx hb dX5_next_318 ?_
            refine va_put (D := D) (ci := 5) (v := .int (zI (i + 1))) (ty := .int) (C := RX5) (T := TX5) (N := 19) hx hb hts inc_X5_next_5 tyX5 tyX5_ok nmX5 hown hK hP hD hS 0 rfl rfl 7 (by decide) (hts (.fieldLink RX5 56 "BedHouseModel" "at" "I") (by decide +kernel)) (fun _ h9 => h9) rfl (by decide +kernel) rfl rfl (Nat.le_of_ble_eq_true rfl) dX5_next_319 (fun H locs hP hD hS => ?_)
            have hP : va_P D vwCl [(o0, .inr (5, [.long tr, .ref o1, .int (zI td), .ref o2, .ref o3, .ref o4, .ref o5, .int (zI (i + 1)), .int (zI i), .int (zI g3), .int (zI 0), .int (zI g5), .int (zI g6), .ref o6, .ref o7, .ref o8, .ref o9, .int (zI g7), .ref oz])), (o1, .inl (cB, 200, .inl (zia (sgF f1))))] H := hP
            have hD : va_D A [(o0, .inr (5, [.long tr, .ref o1, .int (zI td), .ref o2, .ref o3, .ref o4, .ref o5, .int (zI (i + 1)), .int (zI i), .int (zI g3), .int (zI 0), .int (zI g5), .int (zI g6), .ref o6, .ref o7, .ref o8, .ref o9, .int (zI g7), .ref oz])), (o1, .inl (cB, 200, .inl (zia (sgF f1))))] := hD
            refine lv_aload_n hx hb dX5_next_322 rfl (lv_at hl 1 rfl) ?_
            refine lv_iload_n hx hb dX5_next_323 rfl (lv_at hl 0 rfl) ?_
            refine lv_bipush (v := zI 59) hx hb dX5_next_324 (by decide) ?_
            refine z_icmp_ne (tgt := 334) hx hb dX5_next_326 (by decide) (by omega) (fun c_326 => ?_) (fun c_326 => ?_)
            · skip
              refine lv_bipush (v := zI 14) hx hb dX5_next_334 (by decide) ?_
              refine va_put (D := D) (ci := 5) (v := .int (zI 14)) (ty := .int) (C := RX5) (T := TX5) (N := 19) hx hb hts inc_X5_next_5 tyX5 tyX5_ok nmX5 hown hK hP hD hS 0 rfl rfl 9 (by decide) (hts (.fieldLink RX5 69 "BedHouseModel" "sort" "I") (by decide +kernel)) (fun _ h9 => h9) rfl (by decide +kernel) rfl rfl (Nat.le_of_ble_eq_true rfl) dX5_next_336 (fun H locs hP hD hS => ?_)
              have hP : va_P D vwCl [(o0, .inr (5, [.long tr, .ref o1, .int (zI td), .ref o2, .ref o3, .ref o4, .ref o5, .int (zI (i + 1)), .int (zI i), .int (zI 14), .int (zI 0), .int (zI g5), .int (zI g6), .ref o6, .ref o7, .ref o8, .ref o9, .int (zI g7), .ref oz])), (o1, .inl (cB, 200, .inl (zia (sgF f1))))] H := hP
              have hD : va_D A [(o0, .inr (5, [.long tr, .ref o1, .int (zI td), .ref o2, .ref o3, .ref o4, .ref o5, .int (zI (i + 1)), .int (zI i), .int (zI 14), .int (zI 0), .int (zI g5), .int (zI g6), .ref o6, .ref o7, .ref o8, .ref o9, .int (zI g7), .ref oz])), (o1, .inl (cB, 200, .inl (zia (sgF f1))))] := hD
              have hnx : nxM (btA f1 td) g1 = (i + 1, i, 14, 0) := by unfold nxM; rw [hend]; unfold tkM; rw [if_neg (by omega), if_neg c_61, if_neg c_205, if_neg c_326]
              exact wr_retv M dX5_next_339 (u := (i + 1, i, 14, 0)) (hnx.symm) hP hD hS
            refine lv_bipush (v := zI 13) hx hb dX5_next_329 (by decide) ?_
            refine lv_goto (tgt := 336) hx hb dX5_next_331 (by decide) ?_
            refine va_put (D := D) (ci := 5) (v := .int (zI 13)) (ty := .int) (C := RX5) (T := TX5) (N := 19) hx hb hts inc_X5_next_5 tyX5 tyX5_ok nmX5 hown hK hP hD hS 0 rfl rfl 9 (by decide) (hts (.fieldLink RX5 69 "BedHouseModel" "sort" "I") (by decide +kernel)) (fun _ h9 => h9) rfl (by decide +kernel) rfl rfl (Nat.le_of_ble_eq_true rfl) dX5_next_336 (fun H locs hP hD hS => ?_)
            have hP : va_P D vwCl [(o0, .inr (5, [.long tr, .ref o1, .int (zI td), .ref o2, .ref o3, .ref o4, .ref o5, .int (zI (i + 1)), .int (zI i), .int (zI 13), .int (zI 0), .int (zI g5), .int (zI g6), .ref o6, .ref o7, .ref o8, .ref o9, .int (zI g7), .ref oz])), (o1, .inl (cB, 200, .inl (zia (sgF f1))))] H := hP
            have hD : va_D A [(o0, .inr (5, [.long tr, .ref o1, .int (zI td), .ref o2, .ref o3, .ref o4, .ref o5, .int (zI (i + 1)), .int (zI i), .int (zI 13), .int (zI 0), .int (zI g5), .int (zI g6), .ref o6, .ref o7, .ref o8, .ref o9, .int (zI g7), .ref oz])), (o1, .inl (cB, 200, .inl (zia (sgF f1))))] := hD
            have hnx : nxM (btA f1 td) g1 = (i + 1, i, 13, 0) := by unfold nxM; rw [hend]; unfold tkM; rw [if_neg (by omega), if_neg c_61, if_neg c_205, if_pos c_326]
            exact wr_retv M dX5_next_339 (u := (i + 1, i, 13, 0)) (hnx.symm) hP hD hS
          have c_205 := zb_t c_205
          exact lp_X5_next_208 l D cB cI cZ cM o0 o1 o2 o3 o4 o5 o6 o7 o8 o9 oz tr td g1 g2 g3 g4 g5 g6 g7 f1 htd hf1 hg1 M hK hA (201 + 1) 201 i 0 i (Nat.lt_succ_self _) (by exact hend.symm) (by omega) (by omega) (by omega) (by exact c_205) (by rfl) _ _ hP hD hS _ (lv_sub hl [1, 0] rfl)
        have c_61 := zb_t c_61
        refine lv_iconst (v := zI 0) hx hb dX5_next_64 rfl ?_
        refine lv_istore_n (lv' := [(2, .int (zI 0)), (1, .int (zI (btA f1 td i))), (0, .ref o0)]) hx hb dX5_next_65 rfl hl (by decide) rfl (fun ls hl => ?_)
        refine lv_iconst (v := zI 0) hx hb dX5_next_66 rfl ?_
        refine lv_istore_n (lv' := [(3, .int (zI 0)), (2, .int (zI 0)), (1, .int (zI (btA f1 td i))), (0, .ref o0)]) hx hb dX5_next_67 rfl hl (by decide) rfl (fun ls hl => ?_)
        exact lp_X5_next_68 l D cB cI cZ cM o0 o1 o2 o3 o4 o5 o6 o7 o8 o9 oz tr td g1 g2 g3 g4 g5 g6 g7 f1 htd hf1 hg1 M hK hA (201 + 1) 201 i 0 0 i (Nat.lt_succ_self _) (by exact hend.symm) (by omega) (by omega) (by omega) (by omega) (by exact c_61) (by rfl) _ _ hP hD hS _ (lv_sub hl [3, 2, 1, 0] rfl)
      refine lv_aload_n hx hb dX5_next_44 rfl (lv_at hl 1 rfl) ?_
      refine lv_bipush (v := zI 11) hx hb dX5_next_45 (by decide) ?_
      refine va_put (D := D) (ci := 5) (v := .int (zI 11)) (ty := .int) (C := RX5) (T := TX5) (N := 19) hx hb hts inc_X5_next_5 tyX5 tyX5_ok nmX5 hown hK hP hD hS 0 rfl rfl 9 (by decide) (hts (.fieldLink RX5 69 "BedHouseModel" "sort" "I") (by decide +kernel)) (fun _ h9 => h9) rfl (by decide +kernel) rfl rfl (Nat.le_of_ble_eq_true rfl) dX5_next_47 (fun H locs hP hD hS => ?_)
      have hP : va_P D vwCl [(o0, .inr (5, [.long tr, .ref o1, .int (zI td), .ref o2, .ref o3, .ref o4, .ref o5, .int (zI i), .int (zI i), .int (zI 11), .int (zI 0), .int (zI g5), .int (zI g6), .ref o6, .ref o7, .ref o8, .ref o9, .int (zI g7), .ref oz])), (o1, .inl (cB, 200, .inl (zia (sgF f1))))] H := hP
      have hD : va_D A [(o0, .inr (5, [.long tr, .ref o1, .int (zI td), .ref o2, .ref o3, .ref o4, .ref o5, .int (zI i), .int (zI i), .int (zI 11), .int (zI 0), .int (zI g5), .int (zI g6), .ref o6, .ref o7, .ref o8, .ref o9, .int (zI g7), .ref oz])), (o1, .inl (cB, 200, .inl (zia (sgF f1))))] := hD
      refine lv_goto (tgt := 339) hx hb dX5_next_50 (by decide) ?_
      have hnx : nxM (btA f1 td) g1 = (i, i, 11, 0) := by unfold nxM; rw [hend]; unfold tkM; rw [if_pos (by omega)]
      exact wr_retv M dX5_next_339 (u := (i, i, 11, 0)) (hnx.symm) hP hD hS
    have hbn := btA_nn (tx := f1) (ln := td) (i := i) (by omega)
    refine lv_aload_n hx hb dX5_next_9 rfl (lv_at hl 0 rfl) ?_
    refine lv_dup hx hb dX5_next_10 rfl ?_
    refine va_get (D := D) (ci := 5) (C := RX5) (T := TX5) (N := 19) hx hb hts inc_X5_next_5 hown hK hP 0 rfl rfl 7 (by decide) (hts (.fieldLink RX5 56 "BedHouseModel" "at" "I") (by decide +kernel)) (fun _ h9 => h9) rfl dX5_next_11 ?_
    refine lv_iconst (v := zI 1) hx hb dX5_next_14 rfl ?_
    refine z_iadd hx hb dX5_next_15 ?_
    refine va_put (D := D) (ci := 5) (v := .int (zI (i + 1))) (ty := .int) (C := RX5) (T := TX5) (N := 19) hx hb hts inc_X5_next_5 tyX5 tyX5_ok nmX5 hown hK hP hD hS 0 rfl rfl 7 (by decide) (hts (.fieldLink RX5 56 "BedHouseModel" "at" "I") (by decide +kernel)) (fun _ h9 => h9) rfl (by decide +kernel) rfl rfl (Nat.le_of_ble_eq_true rfl) dX5_next_16 (fun H locs hP hD hS => ?_)
    have hP : va_P D vwCl [(o0, .inr (5, [.long tr, .ref o1, .int (zI td), .ref o2, .ref o3, .ref o4, .ref o5, .int (zI (i + 1)), .int (zI g2), .int (zI g3), .int (zI g4), .int (zI g5), .int (zI g6), .ref o6, .ref o7, .ref o8, .ref o9, .int (zI g7), .ref oz])), (o1, .inl (cB, 200, .inl (zia (sgF f1))))] H := hP
    have hD : va_D A [(o0, .inr (5, [.long tr, .ref o1, .int (zI td), .ref o2, .ref o3, .ref o4, .ref o5, .int (zI (i + 1)), .int (zI g2), .int (zI g3), .int (zI g4), .int (zI g5), .int (zI g6), .ref o6, .ref o7, .ref o8, .ref o9, .int (zI g7), .ref oz])), (o1, .inl (cB, 200, .inl (zia (sgF f1))))] := hD
    refine lv_goto (tgt := 0) hx hb dX5_next_19 (by decide) ?_
    exact ih n (i + 1) (by omega) (by omega) (by omega) (by rw [← hv, skF, if_pos c_6]) _ _ hP hD hS _ (lv_sub hl [0] rfl)
set_option maxHeartbeats 4000000 in
set_option maxRecDepth 100000 in
theorem c_X5_next (l : Launch) (D : va_G) (cB cI cZ cM : ClassId) (Hp : Heap) (o0 : Nat) (o1 : Nat) (o2 : Nat) (o3 : Nat) (o4 : Nat) (o5 : Nat) (o6 : Nat) (o7 : Nat) (o8 : Nat) (o9 : Nat) (oz : Nat) (tr : Int64) (td : Int) (g1 : Int) (g2 : Int) (g3 : Int) (g4 : Int) (g5 : Int) (g6 : Int) (g7 : Int) (f1 : Int → Int) (htd : 0 ≤ td ∧ td ≤ 200) (hf1 : ∀ i : Int, 0 ≤ i → i < 200 → 0 ≤ f1 i ∧ f1 i ≤ 255) (hg1 : 0 ≤ g1 ∧ g1 ≤ td) : cWv l yX5_next wsX5_next (rmW 1 0 0 22) D (TYS cB cI cZ cM) [.ref o0] [(o0, .inr (5, [.long tr, .ref o1, .int (zI td), .ref o2, .ref o3, .ref o4, .ref o5, .int (zI g1), .int (zI g2), .int (zI g3), .int (zI g4), .int (zI g5), .int (zI g6), .ref o6, .ref o7, .ref o8, .ref o9, .int (zI g7), .ref oz])), (o1, .inl (cB, 200, .inl (zia (sgF f1))))] Hp (fun (u : TKS) => u = nxM (btA f1 td) g1) (fun (u : TKS) => [(o0, .inr (5, [.long tr, .ref o1, .int (zI td), .ref o2, .ref o3, .ref o4, .ref o5, .int (zI u.1), .int (zI u.2.1), .int (zI u.2.2.1), .int (zI u.2.2.2), .int (zI g5), .int (zI g6), .ref o6, .ref o7, .ref o8, .ref o9, .int (zI g7), .ref oz])), (o1, .inl (cB, 200, .inl (zia (sgF f1))))]) 0 0 := by
  refine wr_startv (by decide) rfl (Nat.le_of_ble_eq_true rfl) ?_
  intro pg ev sx mm args below meth cd ls A M hP hD hS hA hK hl
  obtain ⟨hx, hb, hr, hml, hown, hts, hlk, hN0⟩ := id M
  have hl : lv_has ls 5 [(0, .ref o0)] := hl
  refine W.widen (k := 0) (n := 0) (Nat.zero_le _) (Nat.zero_le _) ?_
  exact lp_X5_next_0 l D cB cI cZ cM o0 o1 o2 o3 o4 o5 o6 o7 o8 o9 oz tr td g1 g2 g3 g4 g5 g6 g7 f1 htd hf1 hg1 M hK hA (201 + 1) 201 g1 (Nat.lt_succ_self _) (by omega) (by omega) (by rfl) _ _ hP hD hS _ (lv_sub hl [0] rfl)
