/-! ===== both sides: lawfulness, leaks, light, worth of a house ===== -/
/-- the told plan on both sides -/
def plE (f2 f3 f5 so bm : Int → Int) : Prop := (∀ j : Int, 0 ≤ j → j < f2 0 → so j = f3 j) ∧ (∀ j : Int, 0 ≤ j → j < f2 1 → bm j = f5 j)
theorem slI_r {P r : Int} (hr : 0 ≤ r) : ∀ j : Int, 0 ≤ slI P r j ∧ slI P r j ≤ 8 := fun j => slI_rng P j hr
theorem msk_e {f2 f3 f5 so bm : Int → Int} {r : Int} (hk : okR f2 f3 f5) (he : plE f2 f3 f5 so bm) (hr : 0 ≤ r ∧ r < pw9 (f2 0)) (set : Int) : msk (pl (r * unS (f2 0))) so set (f2 0) = mskF (slI (f2 0) r) f3 set (f2 0).toNat 0 0 :=
  mskF_c _ _ _ (fun j h1 h2 => pl_hc hk.1 hr ⟨h1, by omega⟩) (fun j h1 h2 => he.1 j h1 (by omega))
theorem ly_e {f2 f3 f5 : Int → Int} {r : Int} (hk : okR f2 f3 f5) (hr : 0 ≤ r ∧ r < pw9 (f2 0)) : lyC (pl (r * unS (f2 0))) (f2 0).toNat 0 = lyC (slI (f2 0) r) (f2 0).toNat 0 :=
  lyC_c _ _ (fun j h1 h2 => pl_hc hk.1 hr ⟨h1, by omega⟩)
theorem pat_e {f2 f3 f5 : Int → Int} {r : Int} (hk : okR f2 f3 f5) (hr : 0 ≤ r ∧ r < pw9 (f2 0)) (k : Int) : patF (pl (r * unS (f2 0))) k (f2 0).toNat 0 = patF (slI (f2 0) r) k (f2 0).toNat 0 :=
  patF_c _ _ (fun j h1 h2 => pl_hc hk.1 hr ⟨h1, by omega⟩)
theorem al_e {f2 f3 f5 so bm : Int → Int} {r : Int} (hk : okR f2 f3 f5) (he : plE f2 f3 f5 so bm) (hr : 0 ≤ r ∧ r < pw9 (f2 0)) : alw (pl (r * unS (f2 0))) so bm (f2 0) (f2 1) (f2 6) = lwM f2 f3 f5 r := by
  obtain ⟨hPm, hB1, hra, hsu, hvw, hno, hdn6, hha7, hso, hbm⟩ := id hk
  exact alw_eq hPm hB1 (slI_r hr.1) (fun j h1 h2 => pl_hc hPm hr ⟨h1, h2⟩) he.1 hso he.2 hbm
theorem lw_ds {f2 f3 f5 : Int → Int} {r : Int} (h : lwM f2 f3 f5 r = true) : dsF (slI (f2 0) r) (f2 0).toNat 0 0 = true := by
  unfold lwM mlw at h
  rw [Bool.and_eq_true, Bool.and_eq_true] at h
  exact h.1.2
theorem lk_e {f2 f3 f5 so bm : Int → Int} {r : Int} (hk : okR f2 f3 f5) (he : plE f2 f3 f5 so bm) (hr : 0 ≤ r ∧ r < pw9 (f2 0)) (hd : dsF (slI (f2 0) r) (f2 0).toNat 0 0 = true) : lkA (pl (r * unS (f2 0))) so (f2 0) (f2 2) = lkM (slI (f2 0) r) f3 (f2 0) (f2 2) 8 0 := by
  obtain ⟨hPm, hB1, hra, hsu, hvw, hno, hdn6, hha7, hso, hbm⟩ := id hk
  unfold lkA
  rw [msk_e hk he hr, popc_f, lk_eq hPm (slI_r hr.1) hso hd 8 0 (by omega) (by omega)]
theorem li_e {f2 f3 f5 so bm : Int → Int} {r k : Int} (hk : okR f2 f3 f5) (he : plE f2 f3 f5 so bm) (hr : 0 ≤ r ∧ r < pw9 (f2 0)) (hd : dsF (slI (f2 0) r) (f2 0).toNat 0 0 = true) (hk8 : 0 ≤ k ∧ k < 8) : liM (slI (f2 0) r) f3 (f2 0) (f2 3) k ↔ ztb (ltA (pl (r * unS (f2 0))) so (f2 0) (f2 3)) k = true := by
  obtain ⟨hPm, hB1, hra, hsu, hvw, hno, hdn6, hha7, hso, hbm⟩ := id hk
  unfold ltA
  rw [msk_e hk he hr]
  exact li_eq hPm (slI_r hr.1) hso hd hk8
theorem wo_e {f2 f3 f5 so bm : Int → Int} {r : Int} (hk : okR f2 f3 f5) (he : plE f2 f3 f5 so bm) (hr : 0 ≤ r ∧ r < pw9 (f2 0)) (hd : dsF (slI (f2 0) r) (f2 0).toNat 0 0 = true) : woA (pl (r * unS (f2 0))) so (f2 0) (f2 2) (f2 3) (f2 4) (f2 5) = woM (slI (f2 0) r) f3 (f2 0) (f2 2) (f2 3) (f2 4) (f2 5) := by
  obtain ⟨hPm, hB1, hra, hsu, hvw, hno, hdn6, hha7, hso, hbm⟩ := id hk
  have hq := slI_r (P := f2 0) hr.1
  unfold woA woM quA
  rw [lk_e hk he hr hd, show popc (ltA (pl (r * unS (f2 0))) so (f2 0) (f2 3)) = pcF (zbandn (f2 3) (mskF (slI (f2 0) r) f3 13 (f2 0).toNat 0 0)) 8 0 by unfold ltA; rw [msk_e hk he hr, popc_f], msk_e hk he hr, msk_e hk he hr, msk_e hk he hr]
  have hw := wl_eq (su := f2 3) hPm hq hso hd 8 0 (by omega) (by omega)
  have e1 : (f2 4 ≠ -9 ∧ zbit (mskF (slI (f2 0) r) f3 13 (f2 0).toNat 0 0) (f2 4) = 0) ↔ (f2 4 ≠ -9 ∧ opA (slI (f2 0) r) f3 (f2 0) (f2 4)) := by
    constructor
    · rintro ⟨w1, w2⟩
      have hv8 : 0 ≤ f2 4 ∧ f2 4 < 8 := by omega
      rw [zbit_0, msk_st hPm hq hso hd hv8] at w2
      refine ⟨w1, ?_⟩
      rcases stA_0 (q := slI (f2 0) r) (k := f2 4) hPm hso with e | e
      · exact Or.inl e
      · rw [if_neg (by omega), ztb_13v e] at w2
        exact Or.inr (by simpa using w2)
    · rintro ⟨w1, w2⟩
      have hv8 : 0 ≤ f2 4 ∧ f2 4 < 8 := by omega
      refine ⟨w1, ?_⟩
      rw [zbit_0, msk_st hPm hq hso hd hv8]
      rcases w2 with e | e
      · rw [if_pos e]
      · rw [if_neg (by omega), e]; decide
  have e2 : (if f2 5 ≠ -9 then (if zbit (mskF (slI (f2 0) r) f3 1 (f2 0).toNat 0 0) (f2 5) = 1 then (4 : Int) else if zbit (mskF (slI (f2 0) r) f3 15 (f2 0).toNat 0 0) (f2 5) = 1 then 2 else 0) else 0) = (if f2 5 = -9 ∨ stA (slI (f2 0) r) f3 (f2 0) (f2 5) = -9 then 0 else if stA (slI (f2 0) r) f3 (f2 0) (f2 5) = 0 then 4 else 2) := by
    by_cases n9 : f2 5 = -9
    · rw [if_neg (fun w => w n9), if_pos (Or.inl n9)]
    · have hn8 : 0 ≤ f2 5 ∧ f2 5 < 8 := by omega
      rw [if_pos n9]
      have m1 := msk_st (set := 1) hPm hq hso hd hn8
      have m15 := msk_st (set := 15) hPm hq hso hd hn8
      rcases stA_0 (q := slI (f2 0) r) (k := f2 5) hPm hso with e | e
      · rw [if_pos e] at m1 m15
        rw [if_pos (Or.inr e), if_neg (fun w => by rw [zbit_1, m1] at w; exact absurd w (by decide)), if_neg (fun w => by rw [zbit_1, m15] at w; exact absurd w (by decide))]
      · rw [if_neg (by omega), ztb_1v e] at m1
        rw [if_neg (by omega), ztb_15v e] at m15
        rw [if_neg (show ¬ (f2 5 = -9 ∨ stA (slI (f2 0) r) f3 (f2 0) (f2 5) = -9) by omega)]
        by_cases z : stA (slI (f2 0) r) f3 (f2 0) (f2 5) = 0
        · rw [decide_eq_true z] at m1
          rw [if_pos ((zbit_1 _ _).mpr m1), if_pos z]
        · rw [decide_eq_false z] at m1
          rw [if_neg (fun w => by rw [zbit_1, m1] at w; exact absurd w (by decide)), if_pos ((zbit_1 _ _).mpr m15), if_neg z]
  rw [e2]
  by_cases c : f2 4 ≠ -9 ∧ opA (slI (f2 0) r) f3 (f2 0) (f2 4)
  · rw [if_pos c, if_pos (e1.mpr c)]; omega
  · rw [if_neg c, if_neg (fun w => c (e1.mp w))]; omega
theorem bo_e {f2 f3 f5 so bm : Int → Int} {r k : Int} (hk : okR f2 f3 f5) (he : plE f2 f3 f5 so bm) (hr : 0 ≤ r ∧ r < pw9 (f2 0)) (hk2 : 0 ≤ k ∧ k < f2 1) : zb (zband (msk (pl (r * unS (f2 0))) so 1 (f2 0)) (bm k) ≠ 0) = zb (boF (slI (f2 0) r) f3 (f5 k) (f2 0).toNat 0 = true) := by
  obtain ⟨hPm, hB1, hra, hsu, hvw, hno, hdn6, hha7, hso, hbm⟩ := id hk
  rw [msk_e hk he hr, he.2 k hk2.1 hk2.2]
  apply zb_c
  rw [← bo_eq (slI_r hr.1) (hbm k hk2.1 (by omega)) (fun j h1 h2 => hso j h1 (by omega)), decide_eq_true_iff]
theorem lwS_e {f2 f3 f5 so bm : Int → Int} {r : Int} (hk : okR f2 f3 f5) (he : plE f2 f3 f5 so bm) (hr : 0 ≤ r ∧ r < pw9 (f2 0)) : lwS so bm (f2 0) (f2 1) (f2 6) (r * unS (f2 0)) = if lwM f2 f3 f5 r = true then 1 else 0 := by
  unfold lwS
  rw [al_e hk he hr]
  by_cases c : lwM f2 f3 f5 r = true
  · rw [if_pos c, if_pos ⟨hc_mod _ _, c⟩]
  · rw [if_neg c, if_neg (fun w => c w.2)]
theorem lwS_1 {f2 f3 f5 so bm : Int → Int} {r : Int} (hk : okR f2 f3 f5) (he : plE f2 f3 f5 so bm) (hr : 0 ≤ r ∧ r < pw9 (f2 0)) : lwS so bm (f2 0) (f2 1) (f2 6) (r * unS (f2 0)) = 1 ↔ lwM f2 f3 f5 r = true := by
  rw [lwS_e hk he hr]
  by_cases c : lwM f2 f3 f5 r = true
  · rw [if_pos c]; exact ⟨fun _ => c, fun _ => rfl⟩
  · rw [if_neg c]; exact ⟨fun w => absurd w (by decide), fun w => absurd w c⟩
/-! the acts -/
theorem slI_wt {P r p k j : Int} (hP : 0 ≤ P ∧ P ≤ 4) (hr : 0 ≤ r ∧ r < pw9 P) (hp : 0 ≤ p ∧ p < P) (hk : 0 ≤ k ∧ k ≤ 8) (hj : 0 ≤ j ∧ j < P) : slI P (wtI P r p k) j = if j = p then k else slI P r j := by
  obtain ⟨b0, b1, b2, b3, b4⟩ := pw9_v
  unfold wtI slI
  rcases P5 hP with rfl | rfl | rfl | rfl | rfl
  · omega
  · obtain rfl : p = 0 := by omega
    obtain rfl : j = 0 := by omega
    rw [show pw9 (1 - 1 - 0) = 1 from rfl, if_pos rfl]; rw [b1] at hr; omega
  · rw [b2] at hr
    rcases (show p = 0 ∨ p = 1 by omega) with rfl | rfl <;> rcases (show j = 0 ∨ j = 1 by omega) with rfl | rfl <;> simp only [show pw9 (2 - 1 - 0) = 9 from rfl, show pw9 (2 - 1 - 1) = 1 from rfl] <;> first | (rw [if_pos trivial]; omega) | (rw [if_pos rfl]; omega) | (rw [if_neg (by decide)]; omega)
  · rw [b3] at hr
    rcases (show p = 0 ∨ p = 1 ∨ p = 2 by omega) with rfl | rfl | rfl <;> rcases (show j = 0 ∨ j = 1 ∨ j = 2 by omega) with rfl | rfl | rfl <;> simp only [show pw9 (3 - 1 - 0) = 81 from rfl, show pw9 (3 - 1 - 1) = 9 from rfl, show pw9 (3 - 1 - 2) = 1 from rfl] <;> first | (rw [if_pos trivial]; omega) | (rw [if_pos rfl]; omega) | (rw [if_neg (by decide)]; omega)
  · rw [b4] at hr
    rcases (show p = 0 ∨ p = 1 ∨ p = 2 ∨ p = 3 by omega) with rfl | rfl | rfl | rfl <;> rcases (show j = 0 ∨ j = 1 ∨ j = 2 ∨ j = 3 by omega) with rfl | rfl | rfl | rfl <;> simp only [show pw9 (4 - 1 - 0) = 729 from rfl, show pw9 (4 - 1 - 1) = 81 from rfl, show pw9 (4 - 1 - 2) = 9 from rfl, show pw9 (4 - 1 - 3) = 1 from rfl] <;> first | (rw [if_pos trivial]; omega) | (rw [if_pos rfl]; omega) | (rw [if_neg (by decide)]; omega)
theorem ds_pair {q : Int → Int} (hq : ∀ j : Int, 0 ≤ q j ∧ q j ≤ 8) : ∀ (n : Nat) (i t : Int), dsF q n i t = true → (∀ a : Int, i ≤ a → a < i + n → ztb t (q a) = true → q a = 8) ∧ (∀ a b : Int, i ≤ a → a < b → b < i + n → q a = q b → q a = 8)
  | 0, i, t, _ => ⟨fun a h1 h2 => absurd h2 (by omega), fun a b h1 h2 h3 => absurd h3 (by omega)⟩
  | n + 1, i, t, h => by
    unfold dsF at h
    rw [Bool.and_eq_true, decide_eq_true_iff] at h
    obtain ⟨i1, i2⟩ := ds_pair hq n (i + 1) _ h.2
    have hqi := hq i
    have k1 : ∀ a : Int, i + 1 ≤ a → a < i + 1 + n → q i ≠ 8 → q a = q i → q a = 8 := fun a h1 h2 h3 h4 => i1 a h1 h2 (by
      rw [if_neg h3, h4, ztb_bor, ztb_pw hqi.1 hqi.1, decide_eq_true rfl, Bool.or_true])
    refine ⟨fun a h1 h2 h3 => ?_, fun a b h1 h2 h3 h4 => ?_⟩
    · by_cases e : a = i
      · subst e
        exact h.1.elim (fun w => w) (fun w => by rw [w] at h3; exact absurd h3 (by decide))
      · exact i1 a (by omega) (by omega) (by rw [ztb_bor, h3, Bool.true_or])
    · by_cases e : a = i
      · subst e
        by_cases c : q a = 8
        · exact c
        · have := k1 b (by omega) (by omega) c h4.symm
          omega
      · exact i2 a b (by omega) h2 (by omega) h4
theorem pair_ds {q : Int → Int} (hq : ∀ j : Int, 0 ≤ q j ∧ q j ≤ 8) : ∀ (n : Nat) (i t : Int), (∀ a : Int, i ≤ a → a < i + n → ztb t (q a) = true → q a = 8) → (∀ a b : Int, i ≤ a → a < b → b < i + n → q a = q b → q a = 8) → dsF q n i t = true
  | 0, _, _, _, _ => rfl
  | n + 1, i, t, h1, h2 => by
    unfold dsF
    have hqi := hq i
    rw [Bool.and_eq_true, decide_eq_true_iff]
    refine ⟨?_, pair_ds hq n (i + 1) _ (fun a a1 a2 a3 => ?_) (fun a b a1 a2 a3 a4 => h2 a b (by omega) a2 (by omega) a4)⟩
    · by_cases c : ztb t (q i) = true
      · exact Or.inl (h1 i (Int.le_refl i) (by omega) c)
      · exact Or.inr (by simpa using c)
    · by_cases c : q i = 8
      · rw [if_pos c, ztb_bor, ztb_0, Bool.or_false] at a3
        exact h1 a (by omega) (by omega) a3
      · have hqa := hq a
        rw [if_neg c, ztb_bor, ztb_pw hqi.1 hqa.1, Bool.or_eq_true, decide_eq_true_iff] at a3
        rcases a3 with a3 | a3
        · exact h1 a (by omega) (by omega) a3
        · have := h2 i a (Int.le_refl i) (by omega) (by omega) a3
          omega
theorem pat_neg {f : Int → Int} {k : Int} : ∀ (n : Nat) (i : Int), 0 ≤ i → (patF f k n i = -9 ↔ ∀ j : Int, i ≤ j → j < i + n → f j ≠ k)
  | 0, i, _ => ⟨fun _ j h1 h2 => absurd h2 (by omega), fun _ => rfl⟩
  | n + 1, i, hi => by
    unfold patF
    by_cases e : f i = k
    · rw [if_pos e]
      exact ⟨fun w => by omega, fun w => absurd e (w i (Int.le_refl i) (by omega))⟩
    · rw [if_neg e, pat_neg n (i + 1) (by omega)]
      constructor
      · intro w j h1 h2
        by_cases c : j = i
        · subst c; exact e
        · exact w j (by omega) (by omega)
      · exact fun w j h1 h2 => w j (by omega) (by omega)
/-- a lawful house behind an act: the slot was free -/
theorem free_of {f2 f3 f5 : Int → Int} {r p k : Int} (hP : 0 ≤ f2 0 ∧ f2 0 ≤ 4) (hr : 0 ≤ r ∧ r < pw9 (f2 0)) (hp : 0 ≤ p ∧ p < f2 0) (hk : 0 ≤ k ∧ k < 8) (h8 : slI (f2 0) r p = 8) (hl : lwM f2 f3 f5 (wtI (f2 0) r p k) = true) : patF (slI (f2 0) r) k (f2 0).toNat 0 = -9 := by
  rw [pat_neg _ _ (Int.le_refl 0)]
  intro j h1 h2 e
  have hw := wtI_rng (k := k) hP.2 hr hp ⟨hk.1, by omega⟩
  have hpr := (ds_pair (slI_r (P := f2 0) hw.1) (f2 0).toNat 0 0 (lw_ds hl)).2
  have ej := slI_wt (k := k) hP hr hp ⟨hk.1, by omega⟩ (j := j) ⟨h1, by omega⟩
  have ep := slI_wt (k := k) hP hr hp ⟨hk.1, by omega⟩ (j := p) hp
  rw [if_pos rfl] at ep
  have hne : j ≠ p := fun w => by rw [w, h8] at e; omega
  rw [if_neg hne, e] at ej
  rcases (show j < p ∨ p < j by omega) with c | c
  · have := hpr j p h1 c (by omega) (by rw [ej, ep])
    omega
  · have := hpr p j hp.1 c (by omega) (by rw [ej, ep])
    omega
