/-! ===== both sides: a house's number, its figures ===== -/
theorem P5 {P : Int} (h : 0 ≤ P ∧ P ≤ 4) : P = 0 ∨ P = 1 ∨ P = 2 ∨ P = 3 ∨ P = 4 := by omega
theorem unS_v : unS 0 = 6561 ∧ unS 1 = 729 ∧ unS 2 = 81 ∧ unS 3 = 9 ∧ unS 4 = 1 := by decide
theorem pw9_v : pw9 0 = 1 ∧ pw9 1 = 9 ∧ pw9 2 = 81 ∧ pw9 3 = 729 ∧ pw9 4 = 6561 := by decide
theorem unS_pos {P : Int} (hP : 0 ≤ P ∧ P ≤ 4) : 1 ≤ unS P ∧ unS P ≤ 6561 := by
  obtain ⟨a0, a1, a2, a3, a4⟩ := unS_v
  rcases P5 hP with rfl | rfl | rfl | rfl | rfl <;> omega
theorem un_pw {P : Int} (hP : 0 ≤ P ∧ P ≤ 4) : pw9 P * unS P = 6561 := by
  rcases P5 hP with rfl | rfl | rfl | rfl | rfl <;> decide
theorem hc_rng {P r : Int} (hP : 0 ≤ P ∧ P ≤ 4) (hr : 0 ≤ r ∧ r < pw9 P) : 0 ≤ r * unS P ∧ r * unS P < 6561 := by
  obtain ⟨a0, a1, a2, a3, a4⟩ := unS_v
  obtain ⟨b0, b1, b2, b3, b4⟩ := pw9_v
  rcases P5 hP with rfl | rfl | rfl | rfl | rfl
  · rw [a0]; rw [b0] at hr; omega
  · rw [a1]; rw [b1] at hr; omega
  · rw [a2]; rw [b2] at hr; omega
  · rw [a3]; rw [b3] at hr; omega
  · rw [a4]; rw [b4] at hr; omega
theorem hc_inj {P r s : Int} (hP : 0 ≤ P ∧ P ≤ 4) : r * unS P = s * unS P ↔ r = s := by
  obtain ⟨a0, a1, a2, a3, a4⟩ := unS_v
  rcases P5 hP with rfl | rfl | rfl | rfl | rfl
  · rw [a0]; omega
  · rw [a1]; omega
  · rw [a2]; omega
  · rw [a3]; omega
  · rw [a4]; omega
theorem pl_hc {P r p : Int} (hP : 0 ≤ P ∧ P ≤ 4) (hr : 0 ≤ r ∧ r < pw9 P) (hp : 0 ≤ p ∧ p < P) : pl (r * unS P) p = slI P r p := by
  obtain ⟨a0, a1, a2, a3, a4⟩ := unS_v
  obtain ⟨b0, b1, b2, b3, b4⟩ := pw9_v
  unfold slI pl
  rcases P5 hP with rfl | rfl | rfl | rfl | rfl
  · omega
  · obtain rfl : p = 0 := by omega
    rw [a1, show pw9 (1 - 1 - 0) = 1 from rfl, if_pos rfl]; rw [b1] at hr; omega
  · rcases (show p = 0 ∨ p = 1 by omega) with rfl | rfl
    · rw [a2, show pw9 (2 - 1 - 0) = 9 from rfl, if_pos rfl]; rw [b2] at hr; omega
    · rw [a2, show pw9 (2 - 1 - 1) = 1 from rfl, if_neg (by decide), if_pos rfl]; rw [b2] at hr; omega
  · rcases (show p = 0 ∨ p = 1 ∨ p = 2 by omega) with rfl | rfl | rfl
    · rw [a3, show pw9 (3 - 1 - 0) = 81 from rfl, if_pos rfl]; rw [b3] at hr; omega
    · rw [a3, show pw9 (3 - 1 - 1) = 9 from rfl, if_neg (by decide), if_pos rfl]; rw [b3] at hr; omega
    · rw [a3, show pw9 (3 - 1 - 2) = 1 from rfl, if_neg (by decide), if_neg (by decide), if_pos rfl]; rw [b3] at hr; omega
  · rcases (show p = 0 ∨ p = 1 ∨ p = 2 ∨ p = 3 by omega) with rfl | rfl | rfl | rfl
    · rw [a4, show pw9 (4 - 1 - 0) = 729 from rfl, if_pos rfl]; rw [b4] at hr; omega
    · rw [a4, show pw9 (4 - 1 - 1) = 81 from rfl, if_neg (by decide), if_pos rfl]; rw [b4] at hr; omega
    · rw [a4, show pw9 (4 - 1 - 2) = 9 from rfl, if_neg (by decide), if_neg (by decide), if_pos rfl]; rw [b4] at hr; omega
    · rw [a4, show pw9 (4 - 1 - 3) = 1 from rfl, if_neg (by decide), if_neg (by decide), if_neg (by decide)]; rw [b4] at hr; omega
theorem un_hc {P p : Int} (hP : 0 ≤ P ∧ P ≤ 4) (hp : 0 ≤ p ∧ p < P) : un p = pw9 (P - 1 - p) * unS P := by
  rcases P5 hP with rfl | rfl | rfl | rfl | rfl
  · omega
  · obtain rfl : p = 0 := by omega
    decide
  · rcases (show p = 0 ∨ p = 1 by omega) with rfl | rfl <;> decide
  · rcases (show p = 0 ∨ p = 1 ∨ p = 2 by omega) with rfl | rfl | rfl <;> decide
  · rcases (show p = 0 ∨ p = 1 ∨ p = 2 ∨ p = 3 by omega) with rfl | rfl | rfl | rfl <;> decide
theorem mv_hc {P r p k : Int} (hP : 0 ≤ P ∧ P ≤ 4) (hr : 0 ≤ r ∧ r < pw9 P) (hp : 0 ≤ p ∧ p < P) : mv (r * unS P) p k = wtI P r p k * unS P := by
  unfold mv wtI
  rw [pl_hc hP hr hp, un_hc hP hp, Int.add_mul, Int.mul_assoc]
theorem hc_mod (P r : Int) : r * unS P % unS P = 0 := Int.mul_emod_left _ _
theorem hc_of {P c : Int} (hP : 0 ≤ P ∧ P ≤ 4) (hc : 0 ≤ c ∧ c < 6561) (hm : c % unS P = 0) : ∃ r : Int, (0 ≤ r ∧ r < pw9 P) ∧ c = r * unS P := by
  obtain ⟨a0, a1, a2, a3, a4⟩ := unS_v
  obtain ⟨b0, b1, b2, b3, b4⟩ := pw9_v
  refine ⟨c / unS P, ?_⟩
  rcases P5 hP with rfl | rfl | rfl | rfl | rfl
  · rw [a0] at hm ⊢; rw [b0]; omega
  · rw [a1] at hm ⊢; rw [b1]; omega
  · rw [a2] at hm ⊢; rw [b2]; omega
  · rw [a3] at hm ⊢; rw [b3]; omega
  · rw [a4] at hm ⊢; rw [b4]; omega
/-! what stands alike -/
theorem patF_c {f g : Int → Int} {k : Int} : ∀ (n : Nat) (i : Int), (∀ j : Int, i ≤ j → j < i + n → f j = g j) → patF f k n i = patF g k n i
  | 0, _, _ => rfl
  | n + 1, i, h => by
    unfold patF
    rw [h i (Int.le_refl i) (by omega), patF_c n (i + 1) (fun j h1 h2 => h j (by omega) (by omega))]
theorem lyC_c {f g : Int → Int} : ∀ (n : Nat) (i : Int), (∀ j : Int, i ≤ j → j < i + n → f j = g j) → lyC f n i = lyC g n i
  | 0, _, _ => rfl
  | n + 1, i, h => by
    unfold lyC
    rw [h i (Int.le_refl i) (by omega), lyC_c n (i + 1) (fun j h1 h2 => h j (by omega) (by omega))]
theorem mskF_c {f g so s2 : Int → Int} {set : Int} : ∀ (n : Nat) (i acc : Int), (∀ j : Int, i ≤ j → j < i + n → f j = g j) → (∀ j : Int, i ≤ j → j < i + n → so j = s2 j) → mskF f so set n i acc = mskF g s2 set n i acc
  | 0, _, _, _, _ => rfl
  | n + 1, i, acc, h, h2 => by
    unfold mskF
    rw [h i (Int.le_refl i) (by omega), h2 i (Int.le_refl i) (by omega), mskF_c n (i + 1) _ (fun j h1 h3 => h j (by omega) (by omega)) (fun j h1 h3 => h2 j (by omega) (by omega))]
theorem dsF_c {f g : Int → Int} : ∀ (n : Nat) (i t : Int), (∀ j : Int, i ≤ j → j < i + n → f j = g j) → dsF f n i t = dsF g n i t
  | 0, _, _, _ => rfl
  | n + 1, i, t, h => by
    unfold dsF
    rw [h i (Int.le_refl i) (by omega), dsF_c n (i + 1) _ (fun j h1 h2 => h j (by omega) (by omega))]
/-! bits -/
theorem zband_ne {a b : Int} (hb : 0 ≤ b ∧ b < 256) : zband a b ≠ 0 ↔ ∃ k : Int, (0 ≤ k ∧ k < 8) ∧ ztb a k = true ∧ ztb b k = true := by
  constructor
  · intro h
    by_cases q : ∃ k : Int, (0 ≤ k ∧ k < 8) ∧ ztb a k = true ∧ ztb b k = true
    · exact q
    · refine absurd ?_ h
      unfold zband
      have e : a.toNat &&& b.toNat = 0 := by
        apply Nat.eq_of_testBit_eq
        intro i
        rw [Nat.testBit_and, Nat.zero_testBit]
        by_cases hi : i < 8
        · cases h1 : a.toNat.testBit i with
          | false => rfl
          | true =>
            cases h2 : b.toNat.testBit i with
            | false => rfl
            | true => exact absurd ⟨(i : Int), ⟨by omega, by omega⟩, by unfold ztb; simpa using h1, by unfold ztb; simpa using h2⟩ q
        · have : b.toNat.testBit i = false := Nat.testBit_lt_two_pow (Nat.lt_of_lt_of_le (show b.toNat < 2 ^ 8 by omega) (Nat.pow_le_pow_right (by decide) (by omega)))
          rw [this, Bool.and_false]
      rw [e]
      rfl
  · rintro ⟨k, hk, h1, h2⟩ h
    have e : a.toNat &&& b.toNat = 0 := by unfold zband at h; omega
    have e2 : (a.toNat &&& b.toNat).testBit k.toNat = true := by
      rw [Nat.testBit_and]
      unfold ztb at h1 h2
      rw [h1, h2]
      rfl
    rw [e, Nat.zero_testBit] at e2
    exact absurd e2 (by decide)
def anF (f so : Int → Int) (set k : Int) : Nat → Int → Bool
  | 0, _ => false
  | n + 1, i => decide (f i = k ∧ ztb set (so i) = true) || anF f so set k n (i + 1)
theorem anF_iff {f so : Int → Int} {set k : Int} : ∀ (n : Nat) (i : Int), anF f so set k n i = true ↔ ∃ j : Int, i ≤ j ∧ j < i + n ∧ f j = k ∧ ztb set (so j) = true
  | 0, i => ⟨fun h => absurd h (by simp [anF]), fun ⟨j, h1, h2, _⟩ => absurd h2 (by omega)⟩
  | n + 1, i => by
    unfold anF
    rw [Bool.or_eq_true, decide_eq_true_iff, anF_iff n (i + 1)]
    constructor
    · rintro (h | ⟨j, h1, h2, h3⟩)
      · exact ⟨i, Int.le_refl i, by omega, h⟩
      · exact ⟨j, by omega, by omega, h3⟩
    · rintro ⟨j, h1, h2, h3⟩
      by_cases e : j = i
      · subst e; exact Or.inl h3
      · exact Or.inr ⟨j, by omega, by omega, h3⟩
theorem boF_iff {q so : Int → Int} {b : Int} : ∀ (n : Nat) (i : Int), boF q so b n i = true ↔ ∃ j : Int, i ≤ j ∧ j < i + n ∧ so j = 0 ∧ q j < 8 ∧ ztb b (q j) = true
  | 0, i => ⟨fun h => absurd h (by simp [boF]), fun ⟨j, h1, h2, _⟩ => absurd h2 (by omega)⟩
  | n + 1, i => by
    unfold boF
    rw [Bool.or_eq_true, decide_eq_true_iff, boF_iff n (i + 1)]
    constructor
    · rintro (h | ⟨j, h1, h2, h3⟩)
      · exact ⟨i, Int.le_refl i, by omega, h⟩
      · exact ⟨j, by omega, by omega, h3⟩
    · rintro ⟨j, h1, h2, h3⟩
      by_cases e : j = i
      · subst e; exact Or.inl h3
      · exact Or.inr ⟨j, by omega, by omega, h3⟩
theorem msk_b {f so : Int → Int} {set k : Int} (hf : ∀ j : Int, 0 ≤ f j ∧ f j ≤ 8) (hk : 0 ≤ k ∧ k < 8) : ∀ (n : Nat) (i acc : Int), ztb (mskF f so set n i acc) k = (ztb acc k || anF f so set k n i)
  | 0, i, acc => by unfold mskF anF; rw [Bool.or_false]
  | n + 1, i, acc => by
    have hfi := hf i
    unfold mskF anF
    rw [msk_b hf hk n (i + 1)]
    by_cases c : f i ≠ 8 ∧ ztb set (so i) = true
    · rw [if_pos c, ztb_bor, ztb_pw hfi.1 hk.1, Bool.or_assoc, c.2]
      simp
    · rw [if_neg c, decide_eq_false (show ¬ (f i = k ∧ ztb set (so i) = true) from fun q => c ⟨by omega, q.2⟩), Bool.false_or]
theorem ztb_1v {s : Int} (h : 0 ≤ s ∧ s ≤ 3) : ztb 1 s = decide (s = 0) := by rcases (show s = 0 ∨ s = 1 ∨ s = 2 ∨ s = 3 by omega) with rfl | rfl | rfl | rfl <;> decide
theorem ztb_3v {s : Int} (h : 0 ≤ s ∧ s ≤ 3) : ztb 3 s = decide (s ≤ 1) := by rcases (show s = 0 ∨ s = 1 ∨ s = 2 ∨ s = 3 by omega) with rfl | rfl | rfl | rfl <;> decide
theorem ztb_13v {s : Int} (h : 0 ≤ s ∧ s ≤ 3) : ztb 13 s = decide (s ≠ 1) := by rcases (show s = 0 ∨ s = 1 ∨ s = 2 ∨ s = 3 by omega) with rfl | rfl | rfl | rfl <;> decide
theorem ztb_15v {s : Int} (h : 0 ≤ s ∧ s ≤ 3) : ztb 15 s = true := by rcases (show s = 0 ∨ s = 1 ∨ s = 2 ∨ s = 3 by omega) with rfl | rfl | rfl | rfl <;> decide
theorem zbor_z {a : Int} (h : 0 ≤ a) : zbor a 0 = a := by unfold zbor; rw [Int.toNat_zero, Nat.or_zero, Int.toNat_of_nonneg h]
theorem zbit_pw {a k j : Int} (hk : 0 ≤ k) (hj : 0 ≤ j) : zbit (zbor a (zpw k)) j = if k = j then 1 else zbit a j := by
  unfold zbit
  rw [ztb_bor, ztb_pw hk hj]
  by_cases e : k = j
  · rw [decide_eq_true e, Bool.or_true, if_pos e]; rfl
  · rw [decide_eq_false e, Bool.or_false, if_neg e]
theorem popc_bor {a k : Int} (hk : 0 ≤ k ∧ k < 8) : popc (zbor a (zpw k)) = popc a + (if ztb a k = true then 0 else 1) := by
  have hz : zbit a k = if ztb a k = true then 1 else 0 := rfl
  unfold popc
  rw [zbit_pw hk.1 (by decide), zbit_pw hk.1 (by decide), zbit_pw hk.1 (by decide), zbit_pw hk.1 (by decide), zbit_pw hk.1 (by decide), zbit_pw hk.1 (by decide), zbit_pw hk.1 (by decide), zbit_pw hk.1 (by decide)]
  by_cases t : ztb a k = true
  · rw [if_pos t] at hz ⊢
    rcases (show k = 0 ∨ k = 1 ∨ k = 2 ∨ k = 3 ∨ k = 4 ∨ k = 5 ∨ k = 6 ∨ k = 7 by omega) with rfl | rfl | rfl | rfl | rfl | rfl | rfl | rfl <;> simp <;> omega
  · rw [if_neg t] at hz ⊢
    rcases (show k = 0 ∨ k = 1 ∨ k = 2 ∨ k = 3 ∨ k = 4 ∨ k = 5 ∨ k = 6 ∨ k = 7 by omega) with rfl | rfl | rfl | rfl | rfl | rfl | rfl | rfl <;> simp <;> omega
theorem pd_eq {q so : Int → Int} (hq : ∀ j : Int, 0 ≤ q j ∧ q j ≤ 8) : ∀ (n : Nat) (i acc : Int), 0 ≤ acc → (∀ j : Int, i ≤ j → j < i + n → 0 ≤ so j ∧ so j ≤ 3) → popc (mskF q so 15 n i acc) + lyC q n i ≤ popc acc + n ∧ (popc (mskF q so 15 n i acc) + lyC q n i = popc acc + n ↔ dsF q n i acc = true)
  | 0, i, acc, _, _ => by unfold mskF lyC dsF; simp
  | n + 1, i, acc, ha, hs => by
    have hqi := hq i
    unfold mskF lyC dsF
    by_cases c : q i = 8
    · rw [if_neg (fun w => w.1 c), if_pos c, if_pos c, decide_eq_true (Or.inl c), zbor_z ha, Bool.true_and]
      have ih := pd_eq hq n (i + 1) acc ha (fun j h1 h2 => hs j (by omega) (by omega))
      constructor
      · omega
      · rw [← ih.2]; omega
    · rw [if_pos ⟨c, ztb_15v (hs i (Int.le_refl i) (by omega))⟩, if_neg c, if_neg c]
      have ih := pd_eq hq n (i + 1) (zbor acc (zpw (q i))) (zbor_nn _ _) (fun j h1 h2 => hs j (by omega) (by omega))
      have hp := popc_bor (a := acc) (k := q i) ⟨hqi.1, by omega⟩
      by_cases t : ztb acc (q i) = true
      · rw [if_pos t] at hp
        rw [decide_eq_false (show ¬ (q i = 8 ∨ ztb acc (q i) = false) from fun w => w.elim c (fun w => by rw [w] at t; exact absurd t (by decide))), Bool.false_and]
        refine ⟨by omega, ⟨fun w => by omega, fun w => absurd w (by decide)⟩⟩
      · rw [if_neg t] at hp
        rw [decide_eq_true (show (q i = 8 ∨ ztb acc (q i) = false) from Or.inr (by simpa using t)), Bool.true_and]
        constructor
        · omega
        · rw [← ih.2]; omega
theorem bo_eq {q so : Int → Int} {b : Int} {n : Nat} (hq : ∀ j : Int, 0 ≤ q j ∧ q j ≤ 8) (hb : 0 ≤ b ∧ b < 256) (hs : ∀ j : Int, 0 ≤ j → j < n → 0 ≤ so j ∧ so j ≤ 3) : decide (zband (mskF q so 1 n 0 0) b ≠ 0) = boF q so b n 0 := by
  rw [Bool.eq_iff_iff, decide_eq_true_iff, zband_ne hb, boF_iff]
  constructor
  · rintro ⟨k, hk, h1, h2⟩
    rw [msk_b hq hk n 0 0, ztb_0, Bool.false_or] at h1
    obtain ⟨j, j1, j2, j3, j4⟩ := (anF_iff n 0).mp h1
    rw [ztb_1v (hs j j1 (by omega)), decide_eq_true_iff] at j4
    exact ⟨j, j1, j2, j4, by omega, by rw [j3]; exact h2⟩
  · rintro ⟨j, j1, j2, j3, j4, j5⟩
    have hqj := hq j
    refine ⟨q j, ⟨hqj.1, j4⟩, ?_, j5⟩
    rw [msk_b hq ⟨hqj.1, j4⟩ n 0 0, ztb_0, Bool.false_or]
    exact (anF_iff n 0).mpr ⟨j, j1, j2, rfl, by rw [j3]; decide⟩
theorem bb_eq {q so bm f5 : Int → Int} {N : Nat} (hq : ∀ j : Int, 0 ≤ q j ∧ q j ≤ 8) (hs : ∀ j : Int, 0 ≤ j → j < N → 0 ≤ so j ∧ so j ≤ 3) : ∀ (n : Nat) (i : Int), (∀ j : Int, i ≤ j → j < i + n → bm j = f5 j ∧ 0 ≤ f5 j ∧ f5 j < 256) → brB (mskF q so 1 N 0 0) bm n i = bbF q so f5 N n i
  | 0, _, _ => rfl
  | n + 1, i, h => by
    unfold brB bbF
    have hi := h i (Int.le_refl i) (by omega)
    rw [hi.1, bo_eq hq hi.2 hs, bb_eq hq hs n (i + 1) (fun j h1 h2 => h j (by omega) (by omega))]
theorem popc_z : popc 0 = 0 := by decide
theorem alw_eq {f q so f3 bm f5 : Int → Int} {P B dn : Int} (hP : 0 ≤ P ∧ P ≤ 4) (hB : 0 ≤ B ∧ B ≤ 2) (hq : ∀ j : Int, 0 ≤ q j ∧ q j ≤ 8) (hf : ∀ j : Int, 0 ≤ j → j < P → f j = q j) (hso : ∀ j : Int, 0 ≤ j → j < P → so j = f3 j) (h3 : ∀ i : Int, 0 ≤ i → i < 4 → 0 ≤ f3 i ∧ f3 i ≤ 3) (hbm : ∀ j : Int, 0 ≤ j → j < B → bm j = f5 j) (h5 : ∀ i : Int, 0 ≤ i → i < 2 → 0 ≤ f5 i ∧ f5 i < 256) : alw f so bm P B dn = mlw q f3 f5 P B dn := by
  have e1 : lyC f P.toNat 0 = lyC q P.toNat 0 := lyC_c _ _ (fun j h1 h2 => hf j h1 (by omega))
  have e2 : ∀ set : Int, msk f so set P = mskF q f3 set P.toNat 0 0 := fun set => mskF_c _ _ _ (fun j h1 h2 => hf j h1 (by omega)) (fun j h1 h2 => hso j h1 (by omega))
  unfold alw mlw
  rw [e1, e2, e2]
  have e3 := (pd_eq (so := f3) hq P.toNat 0 0 (Int.le_refl 0) (fun j h1 h2 => h3 j h1 (by omega))).2
  have e4 : decide (popc (mskF q f3 15 P.toNat 0 0) + lyC q P.toNat 0 = P) = dsF q P.toNat 0 0 := by
    rw [Bool.eq_iff_iff, decide_eq_true_iff, ← e3, popc_z]
    omega
  rw [e4, bb_eq hq (fun j h1 h2 => h3 j h1 (by omega)) B.toNat 0 (fun j h1 h2 => ⟨hbm j h1 (by omega), h5 j h1 (by omega)⟩)]
/-! of a house whose panels stand apart -/
theorem an_no {q so : Int → Int} {set k : Int} (hq : ∀ j : Int, 0 ≤ q j ∧ q j ≤ 8) (hk : 0 ≤ k ∧ k < 8) : ∀ (n : Nat) (i t : Int), dsF q n i t = true → ztb t k = true → anF q so set k n i = false
  | 0, _, _, _, _ => rfl
  | n + 1, i, t, h, ht => by
    unfold dsF at h
    rw [Bool.and_eq_true, decide_eq_true_iff] at h
    unfold anF
    rw [decide_eq_false (show ¬ (q i = k ∧ ztb set (so i) = true) from fun w => h.1.elim (fun e => by omega) (fun e => by rw [w.1, ht] at e; exact absurd e (by decide))), Bool.false_or]
    exact an_no hq hk n (i + 1) _ h.2 (by rw [ztb_bor, ht, Bool.true_or])
theorem an_pat {q so : Int → Int} {set k : Int} (hq : ∀ j : Int, 0 ≤ q j ∧ q j ≤ 8) (hk : 0 ≤ k ∧ k < 8) : ∀ (n : Nat) (i t : Int), 0 ≤ i → dsF q n i t = true → anF q so set k n i = if patF q k n i = -9 then false else ztb set (so (patF q k n i))
  | 0, _, _, _, _ => by unfold anF patF; rw [if_pos rfl]
  | n + 1, i, t, hi, h => by
    unfold dsF at h
    rw [Bool.and_eq_true] at h
    unfold anF patF
    by_cases e : q i = k
    · rw [if_pos e, if_neg (show ¬ i = -9 by omega)]
      have hqi := hq i
      rw [an_no hq hk n (i + 1) _ h.2 (by rw [if_neg (show ¬ q i = 8 by omega), ztb_bor, ztb_pw hqi.1 hk.1, decide_eq_true e, Bool.or_true]), Bool.or_false]
      cases hz : ztb set (so i) <;> simp [e]
    · rw [if_neg e, decide_eq_false (show ¬ (q i = k ∧ ztb set (so i) = true) from fun w => e w.1), Bool.false_or]
      exact an_pat hq hk n (i + 1) _ (by omega) h.2
theorem msk_st {q so : Int → Int} {P set k : Int} (hP : 0 ≤ P ∧ P ≤ 4) (hq : ∀ j : Int, 0 ≤ q j ∧ q j ≤ 8) (h3 : ∀ i : Int, 0 ≤ i → i < 4 → 0 ≤ so i ∧ so i ≤ 3) (hd : dsF q P.toNat 0 0 = true) (hk : 0 ≤ k ∧ k < 8) : ztb (mskF q so set P.toNat 0 0) k = if stA q so P k = -9 then false else ztb set (stA q so P k) := by
  rw [msk_b hq hk, ztb_0, Bool.false_or, an_pat hq hk P.toNat 0 0 (Int.le_refl 0) hd]
  unfold stA
  have hr := patF_rng q k P.toNat 0 (Int.le_refl 0)
  by_cases e : patF q k P.toNat 0 = -9
  · rw [if_pos e, if_pos e, if_pos rfl]
  · rw [if_neg e, if_neg e]
    have h4 := h3 (patF q k P.toNat 0) (by omega) (by omega)
    rw [if_neg (by omega)]
def pcF (x : Int) : Nat → Int → Int
  | 0, _ => 0
  | n + 1, k => zbit x k + pcF x n (k + 1)
theorem popc_f (x : Int) : popc x = pcF x 8 0 := by
  unfold popc
  simp only [pcF, Int.reduceAdd]
  omega
theorem lk_eq {q so : Int → Int} {P ra : Int} (hP : 0 ≤ P ∧ P ≤ 4) (hq : ∀ j : Int, 0 ≤ q j ∧ q j ≤ 8) (h3 : ∀ i : Int, 0 ≤ i → i < 4 → 0 ≤ so i ∧ so i ≤ 3) (hd : dsF q P.toNat 0 0 = true) : ∀ (n : Nat) (k : Int), 0 ≤ k → k + n ≤ 8 → lkM q so P ra n k = pcF (zbandn ra (mskF q so 3 P.toNat 0 0)) n k
  | 0, _, _, _ => rfl
  | n + 1, k, h1, h2 => by
    unfold lkM pcF
    rw [lk_eq hP hq h3 hd n (k + 1) (by omega) (by omega)]
    congr 1
    unfold zbit
    rw [ztb_bandn, msk_st hP hq h3 hd ⟨h1, by omega⟩]
    have hs := stA_rng (q := q) (k := k) h3 hP
    by_cases e : stA q so P k = -9
    · rw [if_pos e, Bool.not_false, Bool.and_true]
      by_cases t : ztb ra k = true
      · rw [if_pos ⟨t, by omega⟩, if_pos t]
      · rw [if_neg (fun w => t w.1), if_neg t]
    · have hs2 : 0 ≤ stA q so P k := by
        unfold stA at e ⊢
        have hr := patF_rng q k P.toNat 0 (Int.le_refl 0)
        by_cases e2 : patF q k P.toNat 0 = -9
        · rw [if_pos e2] at e; exact absurd rfl e
        · rw [if_neg e2]; exact (h3 _ (by omega) (by omega)).1
      rw [if_neg e, ztb_3v ⟨hs2, hs.2⟩]
      by_cases t : ztb ra k = true
      · rw [t, Bool.true_and]
        by_cases u : stA q so P k ≤ 1
        · rw [if_neg (by omega), decide_eq_true u]; rfl
        · rw [if_pos ⟨rfl, by omega⟩, decide_eq_false u]; rfl
      · rw [if_neg (fun w => t w.1), show ztb ra k = false by simpa using t, Bool.false_and]; rfl
theorem stA_0 {q so : Int → Int} {P k : Int} (hP : 0 ≤ P ∧ P ≤ 4) (h3 : ∀ i : Int, 0 ≤ i → i < 4 → 0 ≤ so i ∧ so i ≤ 3) : stA q so P k = -9 ∨ (0 ≤ stA q so P k ∧ stA q so P k ≤ 3) := by
  unfold stA
  have hr := patF_rng q k P.toNat 0 (Int.le_refl 0)
  by_cases e2 : patF q k P.toNat 0 = -9
  · rw [if_pos e2]; exact Or.inl rfl
  · rw [if_neg e2]; exact Or.inr (h3 _ (by omega) (by omega))
theorem li_eq {q so : Int → Int} {P su k : Int} (hP : 0 ≤ P ∧ P ≤ 4) (hq : ∀ j : Int, 0 ≤ q j ∧ q j ≤ 8) (h3 : ∀ i : Int, 0 ≤ i → i < 4 → 0 ≤ so i ∧ so i ≤ 3) (hd : dsF q P.toNat 0 0 = true) (hk : 0 ≤ k ∧ k < 8) : liM q so P su k ↔ ztb (zbandn su (mskF q so 13 P.toNat 0 0)) k = true := by
  rw [ztb_bandn, msk_st hP hq h3 hd hk, Bool.and_eq_true]
  unfold liM opA
  rcases stA_0 (q := q) (k := k) hP h3 with e | e
  · rw [if_pos e]
    exact ⟨fun w => ⟨w.1, rfl⟩, fun w => ⟨w.1, Or.inl e⟩⟩
  · rw [if_neg (by omega), ztb_13v e]
    constructor
    · rintro ⟨w1, w2⟩
      exact ⟨w1, by rw [decide_eq_false (by omega)]; rfl⟩
    · rintro ⟨w1, w2⟩
      refine ⟨w1, Or.inr ?_⟩
      by_cases u : stA q so P k = 1
      · exact u
      · rw [decide_eq_true u] at w2; exact absurd w2 (by decide)
theorem wl_eq {q so : Int → Int} {P su : Int} (hP : 0 ≤ P ∧ P ≤ 4) (hq : ∀ j : Int, 0 ≤ q j ∧ q j ≤ 8) (h3 : ∀ i : Int, 0 ≤ i → i < 4 → 0 ≤ so i ∧ so i ≤ 3) (hd : dsF q P.toNat 0 0 = true) : ∀ (n : Nat) (k : Int), 0 ≤ k → k + n ≤ 8 → wlM q so P su n k = 3 * pcF (zbandn su (mskF q so 13 P.toNat 0 0)) n k
  | 0, _, _, _ => rfl
  | n + 1, k, h1, h2 => by
    unfold wlM pcF
    rw [wl_eq hP hq h3 hd n (k + 1) (by omega) (by omega)]
    have hl := li_eq (su := su) hP hq h3 hd ⟨h1, by omega⟩ (k := k)
    unfold zbit
    by_cases t : liM q so P su k
    · rw [if_pos t, if_pos (hl.mp t)]; omega
    · rw [if_neg t, if_neg (fun w => t (hl.mpr w))]; omega
