/-! ===== both sides: tokens ===== -/
theorem wcM_en {b : Int → Int} {ts : Int} : ∀ (n : Nat) (i c s : Int), (wcM b ts n i c s).1 = enF b n i
  | 0, _, _, _ => rfl
  | n + 1, i, c, s => by
    unfold wcM enF
    by_cases e : 97 ≤ b i ∧ b i ≤ 122
    · rw [if_pos e, if_pos e, wcM_en n]
    · rw [if_neg e, if_neg e]
theorem enF_ge {b : Int → Int} : ∀ (n : Nat) (i : Int), i ≤ enF b n i
  | 0, _ => Int.le_refl _
  | n + 1, i => by
    unfold enF
    by_cases e : 97 ≤ b i ∧ b i ≤ 122
    · rw [if_pos e]; have := enF_ge (b := b) n (i + 1); omega
    · rw [if_neg e]; exact Int.le_refl _
theorem enF_let {b : Int → Int} : ∀ (n : Nat) (i k : Int), i ≤ k → k < enF b n i → 97 ≤ b k ∧ b k ≤ 122
  | 0, i, k, h1, h2 => by unfold enF at h2; omega
  | n + 1, i, k, h1, h2 => by
    unfold enF at h2
    by_cases e : 97 ≤ b i ∧ b i ≤ 122
    · rw [if_pos e] at h2
      by_cases g : k = i
      · rw [g]; exact e
      · exact enF_let n (i + 1) k (by omega) h2
    · rw [if_neg e] at h2; omega
/-- the number of a word's first letters; what stands for its seventh -/
def codF (b : Int → Int) (ts : Int) : Nat → Int
  | 0 => 0
  | k + 1 => 27 * codF b ts k + b (ts + k) - 96
def svF (b : Int → Int) (ts : Int) (k : Nat) : Int := if k ≤ 6 then 0 else if k = 7 then b (ts + 6) - 96 else 99
theorem wcM_v {b : Int → Int} {ts : Int} : ∀ (n k : Nat), ∃ K : Nat, enF b n (ts + k) = ts + K ∧ wcM b ts n (ts + k) (codF b ts (min k 6)) (svF b ts k) = (ts + K, codF b ts (min K 6), svF b ts K)
  | 0, k => ⟨k, rfl, rfl⟩
  | n + 1, k => by
    unfold wcM enF
    by_cases e : 97 ≤ b (ts + k) ∧ b (ts + k) ≤ 122
    · rw [if_pos e, if_pos e]
      obtain ⟨K, h1, h2⟩ := wcM_v (b := b) (ts := ts) n (k + 1)
      refine ⟨K, ?_, ?_⟩
      · rw [← h1]; congr 1; omega
      · rw [← h2, show ts + (k : Int) + 1 = ts + ((k + 1 : Nat) : Int) by omega, show ts + (k : Int) - ts = (k : Int) by omega]
        congr 1
        · by_cases g : k < 6
          · rw [if_pos (by omega), show min (k + 1) 6 = k + 1 by omega, show min k 6 = k by omega, codF]
          · rw [if_neg (by omega), show min (k + 1) 6 = 6 by omega, show min k 6 = 6 by omega]
        · unfold svF
          by_cases g : k = 6
          · subst g; rfl
          · by_cases g2 : 6 < k
            · rw [if_neg (by omega), if_pos (by omega), if_neg (show ¬ k + 1 ≤ 6 by omega), if_neg (show ¬ k + 1 = 7 by omega)]
            · rw [if_neg (by omega), if_neg (by omega), if_pos (show k ≤ 6 by omega), if_pos (show k + 1 ≤ 6 by omega)]
    · rw [if_neg e, if_neg e]; exact ⟨k, rfl, rfl⟩
theorem wd_none {b : Int → Int} {ax ts : Int} : ∀ (n : Nat) (w : Int) (s : Int × Int), (∀ j : Int, w ≤ j → j < w + n → ¬ spA b ax ts (spI j) = true) → wdF b ax ts n w s = s
  | 0, _, _, _ => rfl
  | n + 1, w, s, h => by
    rw [wdF, if_neg (h w (Int.le_refl w) (by omega))]
    exact wd_none n (w + 1) s (fun j h1 h2 => h j (by omega) (by omega))
theorem wd_one {b : Int → Int} {ax ts v : Int} (hv : spA b ax ts (spI v) = true) : ∀ (n : Nat) (w : Int) (s : Int × Int), w ≤ v → v < w + n → (∀ j : Int, w ≤ j → j < w + n → spA b ax ts (spI j) = true → j = v) → wdF b ax ts n w s = (1, v)
  | 0, w, s, h1, h2, _ => absurd h2 (by omega)
  | n + 1, w, s, h1, h2, h => by
    rw [wdF]
    by_cases e : w = v
    · subst e
      rw [if_pos hv]
      exact wd_none n (w + 1) _ (fun j j1 j2 z => by have := h j (by omega) (by omega) z; omega)
    · rw [if_neg (fun z => e (h w (Int.le_refl w) (by omega) z))]
      exact wd_one hv n (w + 1) s (by omega) (by omega) (fun j j1 j2 z => h j (by omega) (by omega) z)
theorem spA_0 {b : Int → Int} {ax ts : Int} : spA b ax ts 0 = true ↔ (ax - ts = 4 ∧ b ts = 119 ∧ b (ts + 1) = 97 ∧ b (ts + 2) = 108 ∧ b (ts + 3) = 108) := by
  unfold spA
  rw [Bool.and_eq_true, decide_eq_true_iff, show strLen.getD 0 0 = 4 from rfl, show chF b ts 0 4 0 = (decide (strC 0 0 = b (ts + 0)) && (decide (strC 0 1 = b (ts + 1)) && (decide (strC 0 2 = b (ts + 2)) && (decide (strC 0 3 = b (ts + 3)) && true)))) from rfl]
  simp only [Int.add_zero, show strC 0 0 = 119 from by decide, show strC 0 1 = 97 from by decide, show strC 0 2 = 108 from by decide, show strC 0 3 = 108 from by decide, Bool.and_eq_true, decide_eq_true_iff, Bool.and_true]
  constructor <;> (intro h; omega)
theorem spA_1 {b : Int → Int} {ax ts : Int} : spA b ax ts 1 = true ↔ (ax - ts = 5 ∧ b ts = 103 ∧ b (ts + 1) = 108 ∧ b (ts + 2) = 97 ∧ b (ts + 3) = 115 ∧ b (ts + 4) = 115) := by
  unfold spA
  rw [Bool.and_eq_true, decide_eq_true_iff, show strLen.getD 1 0 = 5 from rfl, show chF b ts 1 5 0 = (decide (strC 1 0 = b (ts + 0)) && (decide (strC 1 1 = b (ts + 1)) && (decide (strC 1 2 = b (ts + 2)) && (decide (strC 1 3 = b (ts + 3)) && (decide (strC 1 4 = b (ts + 4)) && true))))) from rfl]
  simp only [Int.add_zero, show strC 1 0 = 103 from by decide, show strC 1 1 = 108 from by decide, show strC 1 2 = 97 from by decide, show strC 1 3 = 115 from by decide, show strC 1 4 = 115 from by decide, Bool.and_eq_true, decide_eq_true_iff, Bool.and_true]
  constructor <;> (intro h; omega)
theorem spA_2 {b : Int → Int} {ax ts : Int} : spA b ax ts 2 = true ↔ (ax - ts = 7 ∧ b ts = 99 ∧ b (ts + 1) = 117 ∧ b (ts + 2) = 114 ∧ b (ts + 3) = 116 ∧ b (ts + 4) = 97 ∧ b (ts + 5) = 105 ∧ b (ts + 6) = 110) := by
  unfold spA
  rw [Bool.and_eq_true, decide_eq_true_iff, show strLen.getD 2 0 = 7 from rfl, show chF b ts 2 7 0 = (decide (strC 2 0 = b (ts + 0)) && (decide (strC 2 1 = b (ts + 1)) && (decide (strC 2 2 = b (ts + 2)) && (decide (strC 2 3 = b (ts + 3)) && (decide (strC 2 4 = b (ts + 4)) && (decide (strC 2 5 = b (ts + 5)) && (decide (strC 2 6 = b (ts + 6)) && true))))))) from rfl]
  simp only [Int.add_zero, show strC 2 0 = 99 from by decide, show strC 2 1 = 117 from by decide, show strC 2 2 = 114 from by decide, show strC 2 3 = 116 from by decide, show strC 2 4 = 97 from by decide, show strC 2 5 = 105 from by decide, show strC 2 6 = 110 from by decide, Bool.and_eq_true, decide_eq_true_iff, Bool.and_true]
  constructor <;> (intro h; omega)
theorem spA_3 {b : Int → Int} {ax ts : Int} : spA b ax ts 3 = true ↔ (ax - ts = 6 ∧ b ts = 114 ∧ b (ts + 1) = 111 ∧ b (ts + 2) = 116 ∧ b (ts + 3) = 116 ∧ b (ts + 4) = 101 ∧ b (ts + 5) = 110) := by
  unfold spA
  rw [Bool.and_eq_true, decide_eq_true_iff, show strLen.getD 3 0 = 6 from rfl, show chF b ts 3 6 0 = (decide (strC 3 0 = b (ts + 0)) && (decide (strC 3 1 = b (ts + 1)) && (decide (strC 3 2 = b (ts + 2)) && (decide (strC 3 3 = b (ts + 3)) && (decide (strC 3 4 = b (ts + 4)) && (decide (strC 3 5 = b (ts + 5)) && true)))))) from rfl]
  simp only [Int.add_zero, show strC 3 0 = 114 from by decide, show strC 3 1 = 111 from by decide, show strC 3 2 = 116 from by decide, show strC 3 3 = 116 from by decide, show strC 3 4 = 101 from by decide, show strC 3 5 = 110 from by decide, Bool.and_eq_true, decide_eq_true_iff, Bool.and_true]
  constructor <;> (intro h; omega)
theorem spA_4 {b : Int → Int} {ax ts : Int} : spA b ax ts 4 = true ↔ (ax - ts = 4 ∧ b ts = 98 ∧ b (ts + 1) = 101 ∧ b (ts + 2) = 97 ∧ b (ts + 3) = 109) := by
  unfold spA
  rw [Bool.and_eq_true, decide_eq_true_iff, show strLen.getD 4 0 = 4 from rfl, show chF b ts 4 4 0 = (decide (strC 4 0 = b (ts + 0)) && (decide (strC 4 1 = b (ts + 1)) && (decide (strC 4 2 = b (ts + 2)) && (decide (strC 4 3 = b (ts + 3)) && true)))) from rfl]
  simp only [Int.add_zero, show strC 4 0 = 98 from by decide, show strC 4 1 = 101 from by decide, show strC 4 2 = 97 from by decide, show strC 4 3 = 109 from by decide, Bool.and_eq_true, decide_eq_true_iff, Bool.and_true]
  constructor <;> (intro h; omega)
theorem spA_5 {b : Int → Int} {ax ts : Int} : spA b ax ts 5 = true ↔ (ax - ts = 4 ∧ b ts = 114 ∧ b (ts + 1) = 97 ∧ b (ts + 2) = 105 ∧ b (ts + 3) = 110) := by
  unfold spA
  rw [Bool.and_eq_true, decide_eq_true_iff, show strLen.getD 5 0 = 4 from rfl, show chF b ts 5 4 0 = (decide (strC 5 0 = b (ts + 0)) && (decide (strC 5 1 = b (ts + 1)) && (decide (strC 5 2 = b (ts + 2)) && (decide (strC 5 3 = b (ts + 3)) && true)))) from rfl]
  simp only [Int.add_zero, show strC 5 0 = 114 from by decide, show strC 5 1 = 97 from by decide, show strC 5 2 = 105 from by decide, show strC 5 3 = 110 from by decide, Bool.and_eq_true, decide_eq_true_iff, Bool.and_true]
  constructor <;> (intro h; omega)
theorem spA_6 {b : Int → Int} {ax ts : Int} : spA b ax ts 6 = true ↔ (ax - ts = 3 ∧ b ts = 115 ∧ b (ts + 1) = 117 ∧ b (ts + 2) = 110) := by
  unfold spA
  rw [Bool.and_eq_true, decide_eq_true_iff, show strLen.getD 6 0 = 3 from rfl, show chF b ts 6 3 0 = (decide (strC 6 0 = b (ts + 0)) && (decide (strC 6 1 = b (ts + 1)) && (decide (strC 6 2 = b (ts + 2)) && true))) from rfl]
  simp only [Int.add_zero, show strC 6 0 = 115 from by decide, show strC 6 1 = 117 from by decide, show strC 6 2 = 110 from by decide, Bool.and_eq_true, decide_eq_true_iff, Bool.and_true]
  constructor <;> (intro h; omega)
theorem spA_7 {b : Int → Int} {ax ts : Int} : spA b ax ts 7 = true ↔ (ax - ts = 4 ∧ b ts = 118 ∧ b (ts + 1) = 105 ∧ b (ts + 2) = 101 ∧ b (ts + 3) = 119) := by
  unfold spA
  rw [Bool.and_eq_true, decide_eq_true_iff, show strLen.getD 7 0 = 4 from rfl, show chF b ts 7 4 0 = (decide (strC 7 0 = b (ts + 0)) && (decide (strC 7 1 = b (ts + 1)) && (decide (strC 7 2 = b (ts + 2)) && (decide (strC 7 3 = b (ts + 3)) && true)))) from rfl]
  simp only [Int.add_zero, show strC 7 0 = 118 from by decide, show strC 7 1 = 105 from by decide, show strC 7 2 = 101 from by decide, show strC 7 3 = 119 from by decide, Bool.and_eq_true, decide_eq_true_iff, Bool.and_true]
  constructor <;> (intro h; omega)
theorem spA_8 {b : Int → Int} {ax ts : Int} : spA b ax ts 8 = true ↔ (ax - ts = 5 ∧ b ts = 110 ∧ b (ts + 1) = 111 ∧ b (ts + 2) = 105 ∧ b (ts + 3) = 115 ∧ b (ts + 4) = 101) := by
  unfold spA
  rw [Bool.and_eq_true, decide_eq_true_iff, show strLen.getD 8 0 = 5 from rfl, show chF b ts 8 5 0 = (decide (strC 8 0 = b (ts + 0)) && (decide (strC 8 1 = b (ts + 1)) && (decide (strC 8 2 = b (ts + 2)) && (decide (strC 8 3 = b (ts + 3)) && (decide (strC 8 4 = b (ts + 4)) && true))))) from rfl]
  simp only [Int.add_zero, show strC 8 0 = 110 from by decide, show strC 8 1 = 111 from by decide, show strC 8 2 = 105 from by decide, show strC 8 3 = 115 from by decide, show strC 8 4 = 101 from by decide, Bool.and_eq_true, decide_eq_true_iff, Bool.and_true]
  constructor <;> (intro h; omega)
theorem spA_9 {b : Int → Int} {ax ts : Int} : spA b ax ts 9 = true ↔ (ax - ts = 4 ∧ b ts = 100 ∧ b (ts + 1) = 111 ∧ b (ts + 2) = 119 ∧ b (ts + 3) = 110) := by
  unfold spA
  rw [Bool.and_eq_true, decide_eq_true_iff, show strLen.getD 9 0 = 4 from rfl, show chF b ts 9 4 0 = (decide (strC 9 0 = b (ts + 0)) && (decide (strC 9 1 = b (ts + 1)) && (decide (strC 9 2 = b (ts + 2)) && (decide (strC 9 3 = b (ts + 3)) && true)))) from rfl]
  simp only [Int.add_zero, show strC 9 0 = 100 from by decide, show strC 9 1 = 111 from by decide, show strC 9 2 = 119 from by decide, show strC 9 3 = 110 from by decide, Bool.and_eq_true, decide_eq_true_iff, Bool.and_true]
  constructor <;> (intro h; omega)
theorem spA_10 {b : Int → Int} {ax ts : Int} : spA b ax ts 10 = true ↔ (ax - ts = 5 ∧ b ts = 104 ∧ b (ts + 1) = 97 ∧ b (ts + 2) = 110 ∧ b (ts + 3) = 100 ∧ b (ts + 4) = 115) := by
  unfold spA
  rw [Bool.and_eq_true, decide_eq_true_iff, show strLen.getD 10 0 = 5 from rfl, show chF b ts 10 5 0 = (decide (strC 10 0 = b (ts + 0)) && (decide (strC 10 1 = b (ts + 1)) && (decide (strC 10 2 = b (ts + 2)) && (decide (strC 10 3 = b (ts + 3)) && (decide (strC 10 4 = b (ts + 4)) && true))))) from rfl]
  simp only [Int.add_zero, show strC 10 0 = 104 from by decide, show strC 10 1 = 97 from by decide, show strC 10 2 = 110 from by decide, show strC 10 3 = 100 from by decide, show strC 10 4 = 115 from by decide, Bool.and_eq_true, decide_eq_true_iff, Bool.and_true]
  constructor <;> (intro h; omega)
theorem cod_v (b : Int → Int) (ts : Int) : codF b ts 0 = 0 ∧ codF b ts 1 = b ts - 96 ∧ codF b ts 2 = 27 * codF b ts 1 + b (ts + 1) - 96 ∧ codF b ts 3 = 27 * codF b ts 2 + b (ts + 2) - 96 ∧ codF b ts 4 = 27 * codF b ts 3 + b (ts + 3) - 96 ∧ codF b ts 5 = 27 * codF b ts 4 + b (ts + 4) - 96 ∧ codF b ts 6 = 27 * codF b ts 5 + b (ts + 5) - 96 := by
  refine ⟨rfl, ?_, rfl, rfl, rfl, rfl, rfl⟩
  show 27 * 0 + b (ts + ((0 : Nat) : Int)) - 96 = b ts - 96
  rw [show ts + ((0 : Nat) : Int) = ts by omega]
  omega
/-- what a word of K letters means -/
def wsM (b : Int → Int) (ts : Int) (K : Nat) : Int := if svF b ts K = 0 then meM (codF b ts (min K 6)) else if codF b ts (min K 6) = 54575892 ∧ svF b ts K = 14 then 2 else 14
theorem ws_0 {b : Int → Int} {ts : Int} {K : Nat} (h : spA b (ts + K) ts 0 = true) : wsM b ts K = 0 := by
  have h := spA_0.mp h
  obtain ⟨c0, c1, c2, c3, c4, c5, c6⟩ := cod_v b ts
  unfold wsM svF
  rw [if_pos (show K ≤ 6 by omega), if_pos rfl, show min K 6 = 4 by omega, show codF b ts 4 = 453774 by omega]
  decide
theorem ws_1 {b : Int → Int} {ts : Int} {K : Nat} (h : spA b (ts + K) ts 1 = true) : wsM b ts K = 1 := by
  have h := spA_1.mp h
  obtain ⟨c0, c1, c2, c3, c4, c5, c6⟩ := cod_v b ts
  unfold wsM svF
  rw [if_pos (show K ≤ 6 by omega), if_pos rfl, show min K 6 = 5 by omega, show codF b ts 5 = 3957544 by omega]
  decide
theorem ws_2 {b : Int → Int} {ts : Int} {K : Nat} (h : spA b (ts + K) ts 2 = true) : wsM b ts K = 2 := by
  have h := spA_2.mp h
  obtain ⟨c0, c1, c2, c3, c4, c5, c6⟩ := cod_v b ts
  unfold wsM svF
  rw [if_neg (show ¬ K ≤ 6 by omega), if_pos (show K = 7 by omega), if_neg (show ¬ b (ts + 6) - 96 = 0 by omega), show min K 6 = 6 by omega, if_pos ⟨show codF b ts 6 = 54575892 by omega, show b (ts + 6) - 96 = 14 by omega⟩]
theorem ws_3 {b : Int → Int} {ts : Int} {K : Nat} (h : spA b (ts + K) ts 3 = true) : wsM b ts K = 3 := by
  have h := spA_3.mp h
  obtain ⟨c0, c1, c2, c3, c4, c5, c6⟩ := cod_v b ts
  unfold wsM svF
  rw [if_pos (show K ≤ 6 by omega), if_pos rfl, show min K 6 = 6 by omega, show codF b ts 6 = 266660330 by omega]
  decide
theorem ws_4 {b : Int → Int} {ts : Int} {K : Nat} (h : spA b (ts + K) ts 4 = true) : wsM b ts K = 4 := by
  have h := spA_4.mp h
  obtain ⟨c0, c1, c2, c3, c4, c5, c6⟩ := cod_v b ts
  unfold wsM svF
  rw [if_pos (show K ≤ 6 by omega), if_pos rfl, show min K 6 = 4 by omega, show codF b ts 4 = 43051 by omega]
  decide
theorem ws_5 {b : Int → Int} {ts : Int} {K : Nat} (h : spA b (ts + K) ts 5 = true) : wsM b ts K = 5 := by
  have h := spA_5.mp h
  obtain ⟨c0, c1, c2, c3, c4, c5, c6⟩ := cod_v b ts
  unfold wsM svF
  rw [if_pos (show K ≤ 6 by omega), if_pos rfl, show min K 6 = 4 by omega, show codF b ts 4 = 355280 by omega]
  decide
theorem ws_6 {b : Int → Int} {ts : Int} {K : Nat} (h : spA b (ts + K) ts 6 = true) : wsM b ts K = 6 := by
  have h := spA_6.mp h
  obtain ⟨c0, c1, c2, c3, c4, c5, c6⟩ := cod_v b ts
  unfold wsM svF
  rw [if_pos (show K ≤ 6 by omega), if_pos rfl, show min K 6 = 3 by omega, show codF b ts 3 = 14432 by omega]
  decide
theorem ws_7 {b : Int → Int} {ts : Int} {K : Nat} (h : spA b (ts + K) ts 7 = true) : wsM b ts K = 7 := by
  have h := spA_7.mp h
  obtain ⟨c0, c1, c2, c3, c4, c5, c6⟩ := cod_v b ts
  unfold wsM svF
  rw [if_pos (show K ≤ 6 by omega), if_pos rfl, show min K 6 = 4 by omega, show codF b ts 4 = 439745 by omega]
  decide
theorem ws_8 {b : Int → Int} {ts : Int} {K : Nat} (h : spA b (ts + K) ts 8 = true) : wsM b ts K = 8 := by
  have h := spA_8.mp h
  obtain ⟨c0, c1, c2, c3, c4, c5, c6⟩ := cod_v b ts
  unfold wsM svF
  rw [if_pos (show K ≤ 6 by omega), if_pos rfl, show min K 6 = 5 by omega, show codF b ts 5 = 7742498 by omega]
  decide
theorem ws_9 {b : Int → Int} {ts : Int} {K : Nat} (h : spA b (ts + K) ts 9 = true) : wsM b ts K = 9 := by
  have h := spA_9.mp h
  obtain ⟨c0, c1, c2, c3, c4, c5, c6⟩ := cod_v b ts
  unfold wsM svF
  rw [if_pos (show K ≤ 6 by omega), if_pos rfl, show min K 6 = 4 by omega, show codF b ts 4 = 90302 by omega]
  decide
theorem ws_10 {b : Int → Int} {ts : Int} {K : Nat} (h : spA b (ts + K) ts 10 = true) : wsM b ts K = 10 := by
  have h := spA_10.mp h
  obtain ⟨c0, c1, c2, c3, c4, c5, c6⟩ := cod_v b ts
  unfold wsM svF
  rw [if_pos (show K ≤ 6 by omega), if_pos rfl, show min K 6 = 5 by omega, show codF b ts 5 = 4281544 by omega]
  decide
theorem sv_n {b : Int → Int} {ts : Int} {K : Nat} (hl : ∀ k : Int, ts ≤ k → k < ts + K → 97 ≤ b k ∧ b k ≤ 122) (h : svF b ts K = 0) : K ≤ 6 := by
  refine Classical.byContradiction fun q => ?_
  unfold svF at h
  rw [if_neg q] at h
  by_cases e : K = 7
  · rw [if_pos e] at h
    have := hl (ts + 6) (by omega) (by omega)
    omega
  · rw [if_neg e] at h; omega
theorem sv_7 {b : Int → Int} {ts : Int} {K : Nat} (h : svF b ts K = 14) : K = 7 ∧ b (ts + 6) = 110 := by
  unfold svF at h
  by_cases q : K ≤ 6
  · rw [if_pos q] at h; omega
  · rw [if_neg q] at h
    by_cases e : K = 7
    · rw [if_pos e] at h; exact ⟨e, by omega⟩
    · rw [if_neg e] at h; omega
theorem let_k {b : Int → Int} {ts : Int} {K : Nat} (hl : ∀ k : Int, ts ≤ k → k < ts + K → 97 ≤ b k ∧ b k ≤ 122) (h1 : 1 ≤ K) : (97 ≤ b ts ∧ b ts ≤ 122) ∧ (2 ≤ K → 97 ≤ b (ts + 1) ∧ b (ts + 1) ≤ 122) ∧ (3 ≤ K → 97 ≤ b (ts + 2) ∧ b (ts + 2) ≤ 122) ∧ (4 ≤ K → 97 ≤ b (ts + 3) ∧ b (ts + 3) ≤ 122) ∧ (5 ≤ K → 97 ≤ b (ts + 4) ∧ b (ts + 4) ≤ 122) ∧ (6 ≤ K → 97 ≤ b (ts + 5) ∧ b (ts + 5) ≤ 122) :=
  ⟨hl ts (by omega) (by omega), fun _ => hl _ (by omega) (by omega), fun _ => hl _ (by omega) (by omega), fun _ => hl _ (by omega) (by omega), fun _ => hl _ (by omega) (by omega), fun _ => hl _ (by omega) (by omega)⟩
theorem wr_0 {b : Int → Int} {ts : Int} {K : Nat} (h1 : 1 ≤ K) (h6 : K ≤ 6) (hl : ∀ k : Int, ts ≤ k → k < ts + K → 97 ≤ b k ∧ b k ≤ 122) (h : codF b ts (min K 6) = 453774) : spA b (ts + K) ts 0 = true := by
  rw [spA_0]
  obtain ⟨c0, c1, c2, c3, c4, c5, c6⟩ := cod_v b ts
  obtain ⟨l0, l1, l2, l3, l4, l5⟩ := let_k hl h1
  rcases (show K = 1 ∨ K = 2 ∨ K = 3 ∨ K = 4 ∨ K = 5 ∨ K = 6 by omega) with rfl | rfl | rfl | rfl | rfl | rfl
  · rw [show min 1 6 = 1 from rfl] at h; omega
  · rw [show min 2 6 = 2 from rfl] at h; have := l1 (by omega); omega
  · rw [show min 3 6 = 3 from rfl] at h; have := l1 (by omega); have := l2 (by omega); omega
  · rw [show min 4 6 = 4 from rfl] at h; have := l1 (by omega); have := l2 (by omega); have := l3 (by omega); omega
  · rw [show min 5 6 = 5 from rfl] at h; have := l1 (by omega); have := l2 (by omega); have := l3 (by omega); have := l4 (by omega); omega
  · rw [show min 6 6 = 6 from rfl] at h; have := l1 (by omega); have := l2 (by omega); have := l3 (by omega); have := l4 (by omega); have := l5 (by omega); omega
theorem wr_1 {b : Int → Int} {ts : Int} {K : Nat} (h1 : 1 ≤ K) (h6 : K ≤ 6) (hl : ∀ k : Int, ts ≤ k → k < ts + K → 97 ≤ b k ∧ b k ≤ 122) (h : codF b ts (min K 6) = 3957544) : spA b (ts + K) ts 1 = true := by
  rw [spA_1]
  obtain ⟨c0, c1, c2, c3, c4, c5, c6⟩ := cod_v b ts
  obtain ⟨l0, l1, l2, l3, l4, l5⟩ := let_k hl h1
  rcases (show K = 1 ∨ K = 2 ∨ K = 3 ∨ K = 4 ∨ K = 5 ∨ K = 6 by omega) with rfl | rfl | rfl | rfl | rfl | rfl
  · rw [show min 1 6 = 1 from rfl] at h; omega
  · rw [show min 2 6 = 2 from rfl] at h; have := l1 (by omega); omega
  · rw [show min 3 6 = 3 from rfl] at h; have := l1 (by omega); have := l2 (by omega); omega
  · rw [show min 4 6 = 4 from rfl] at h; have := l1 (by omega); have := l2 (by omega); have := l3 (by omega); omega
  · rw [show min 5 6 = 5 from rfl] at h; have := l1 (by omega); have := l2 (by omega); have := l3 (by omega); have := l4 (by omega); omega
  · rw [show min 6 6 = 6 from rfl] at h; have := l1 (by omega); have := l2 (by omega); have := l3 (by omega); have := l4 (by omega); have := l5 (by omega); omega
theorem wr_3 {b : Int → Int} {ts : Int} {K : Nat} (h1 : 1 ≤ K) (h6 : K ≤ 6) (hl : ∀ k : Int, ts ≤ k → k < ts + K → 97 ≤ b k ∧ b k ≤ 122) (h : codF b ts (min K 6) = 266660330) : spA b (ts + K) ts 3 = true := by
  rw [spA_3]
  obtain ⟨c0, c1, c2, c3, c4, c5, c6⟩ := cod_v b ts
  obtain ⟨l0, l1, l2, l3, l4, l5⟩ := let_k hl h1
  rcases (show K = 1 ∨ K = 2 ∨ K = 3 ∨ K = 4 ∨ K = 5 ∨ K = 6 by omega) with rfl | rfl | rfl | rfl | rfl | rfl
  · rw [show min 1 6 = 1 from rfl] at h; omega
  · rw [show min 2 6 = 2 from rfl] at h; have := l1 (by omega); omega
  · rw [show min 3 6 = 3 from rfl] at h; have := l1 (by omega); have := l2 (by omega); omega
  · rw [show min 4 6 = 4 from rfl] at h; have := l1 (by omega); have := l2 (by omega); have := l3 (by omega); omega
  · rw [show min 5 6 = 5 from rfl] at h; have := l1 (by omega); have := l2 (by omega); have := l3 (by omega); have := l4 (by omega); omega
  · rw [show min 6 6 = 6 from rfl] at h; have := l1 (by omega); have := l2 (by omega); have := l3 (by omega); have := l4 (by omega); have := l5 (by omega); omega
theorem wr_4 {b : Int → Int} {ts : Int} {K : Nat} (h1 : 1 ≤ K) (h6 : K ≤ 6) (hl : ∀ k : Int, ts ≤ k → k < ts + K → 97 ≤ b k ∧ b k ≤ 122) (h : codF b ts (min K 6) = 43051) : spA b (ts + K) ts 4 = true := by
  rw [spA_4]
  obtain ⟨c0, c1, c2, c3, c4, c5, c6⟩ := cod_v b ts
  obtain ⟨l0, l1, l2, l3, l4, l5⟩ := let_k hl h1
  rcases (show K = 1 ∨ K = 2 ∨ K = 3 ∨ K = 4 ∨ K = 5 ∨ K = 6 by omega) with rfl | rfl | rfl | rfl | rfl | rfl
  · rw [show min 1 6 = 1 from rfl] at h; omega
  · rw [show min 2 6 = 2 from rfl] at h; have := l1 (by omega); omega
  · rw [show min 3 6 = 3 from rfl] at h; have := l1 (by omega); have := l2 (by omega); omega
  · rw [show min 4 6 = 4 from rfl] at h; have := l1 (by omega); have := l2 (by omega); have := l3 (by omega); omega
  · rw [show min 5 6 = 5 from rfl] at h; have := l1 (by omega); have := l2 (by omega); have := l3 (by omega); have := l4 (by omega); omega
  · rw [show min 6 6 = 6 from rfl] at h; have := l1 (by omega); have := l2 (by omega); have := l3 (by omega); have := l4 (by omega); have := l5 (by omega); omega
theorem wr_5 {b : Int → Int} {ts : Int} {K : Nat} (h1 : 1 ≤ K) (h6 : K ≤ 6) (hl : ∀ k : Int, ts ≤ k → k < ts + K → 97 ≤ b k ∧ b k ≤ 122) (h : codF b ts (min K 6) = 355280) : spA b (ts + K) ts 5 = true := by
  rw [spA_5]
  obtain ⟨c0, c1, c2, c3, c4, c5, c6⟩ := cod_v b ts
  obtain ⟨l0, l1, l2, l3, l4, l5⟩ := let_k hl h1
  rcases (show K = 1 ∨ K = 2 ∨ K = 3 ∨ K = 4 ∨ K = 5 ∨ K = 6 by omega) with rfl | rfl | rfl | rfl | rfl | rfl
  · rw [show min 1 6 = 1 from rfl] at h; omega
  · rw [show min 2 6 = 2 from rfl] at h; have := l1 (by omega); omega
  · rw [show min 3 6 = 3 from rfl] at h; have := l1 (by omega); have := l2 (by omega); omega
  · rw [show min 4 6 = 4 from rfl] at h; have := l1 (by omega); have := l2 (by omega); have := l3 (by omega); omega
  · rw [show min 5 6 = 5 from rfl] at h; have := l1 (by omega); have := l2 (by omega); have := l3 (by omega); have := l4 (by omega); omega
  · rw [show min 6 6 = 6 from rfl] at h; have := l1 (by omega); have := l2 (by omega); have := l3 (by omega); have := l4 (by omega); have := l5 (by omega); omega
theorem wr_6 {b : Int → Int} {ts : Int} {K : Nat} (h1 : 1 ≤ K) (h6 : K ≤ 6) (hl : ∀ k : Int, ts ≤ k → k < ts + K → 97 ≤ b k ∧ b k ≤ 122) (h : codF b ts (min K 6) = 14432) : spA b (ts + K) ts 6 = true := by
  rw [spA_6]
  obtain ⟨c0, c1, c2, c3, c4, c5, c6⟩ := cod_v b ts
  obtain ⟨l0, l1, l2, l3, l4, l5⟩ := let_k hl h1
  rcases (show K = 1 ∨ K = 2 ∨ K = 3 ∨ K = 4 ∨ K = 5 ∨ K = 6 by omega) with rfl | rfl | rfl | rfl | rfl | rfl
  · rw [show min 1 6 = 1 from rfl] at h; omega
  · rw [show min 2 6 = 2 from rfl] at h; have := l1 (by omega); omega
  · rw [show min 3 6 = 3 from rfl] at h; have := l1 (by omega); have := l2 (by omega); omega
  · rw [show min 4 6 = 4 from rfl] at h; have := l1 (by omega); have := l2 (by omega); have := l3 (by omega); omega
  · rw [show min 5 6 = 5 from rfl] at h; have := l1 (by omega); have := l2 (by omega); have := l3 (by omega); have := l4 (by omega); omega
  · rw [show min 6 6 = 6 from rfl] at h; have := l1 (by omega); have := l2 (by omega); have := l3 (by omega); have := l4 (by omega); have := l5 (by omega); omega
theorem wr_7 {b : Int → Int} {ts : Int} {K : Nat} (h1 : 1 ≤ K) (h6 : K ≤ 6) (hl : ∀ k : Int, ts ≤ k → k < ts + K → 97 ≤ b k ∧ b k ≤ 122) (h : codF b ts (min K 6) = 439745) : spA b (ts + K) ts 7 = true := by
  rw [spA_7]
  obtain ⟨c0, c1, c2, c3, c4, c5, c6⟩ := cod_v b ts
  obtain ⟨l0, l1, l2, l3, l4, l5⟩ := let_k hl h1
  rcases (show K = 1 ∨ K = 2 ∨ K = 3 ∨ K = 4 ∨ K = 5 ∨ K = 6 by omega) with rfl | rfl | rfl | rfl | rfl | rfl
  · rw [show min 1 6 = 1 from rfl] at h; omega
  · rw [show min 2 6 = 2 from rfl] at h; have := l1 (by omega); omega
  · rw [show min 3 6 = 3 from rfl] at h; have := l1 (by omega); have := l2 (by omega); omega
  · rw [show min 4 6 = 4 from rfl] at h; have := l1 (by omega); have := l2 (by omega); have := l3 (by omega); omega
  · rw [show min 5 6 = 5 from rfl] at h; have := l1 (by omega); have := l2 (by omega); have := l3 (by omega); have := l4 (by omega); omega
  · rw [show min 6 6 = 6 from rfl] at h; have := l1 (by omega); have := l2 (by omega); have := l3 (by omega); have := l4 (by omega); have := l5 (by omega); omega
theorem wr_8 {b : Int → Int} {ts : Int} {K : Nat} (h1 : 1 ≤ K) (h6 : K ≤ 6) (hl : ∀ k : Int, ts ≤ k → k < ts + K → 97 ≤ b k ∧ b k ≤ 122) (h : codF b ts (min K 6) = 7742498) : spA b (ts + K) ts 8 = true := by
  rw [spA_8]
  obtain ⟨c0, c1, c2, c3, c4, c5, c6⟩ := cod_v b ts
  obtain ⟨l0, l1, l2, l3, l4, l5⟩ := let_k hl h1
  rcases (show K = 1 ∨ K = 2 ∨ K = 3 ∨ K = 4 ∨ K = 5 ∨ K = 6 by omega) with rfl | rfl | rfl | rfl | rfl | rfl
  · rw [show min 1 6 = 1 from rfl] at h; omega
  · rw [show min 2 6 = 2 from rfl] at h; have := l1 (by omega); omega
  · rw [show min 3 6 = 3 from rfl] at h; have := l1 (by omega); have := l2 (by omega); omega
  · rw [show min 4 6 = 4 from rfl] at h; have := l1 (by omega); have := l2 (by omega); have := l3 (by omega); omega
  · rw [show min 5 6 = 5 from rfl] at h; have := l1 (by omega); have := l2 (by omega); have := l3 (by omega); have := l4 (by omega); omega
  · rw [show min 6 6 = 6 from rfl] at h; have := l1 (by omega); have := l2 (by omega); have := l3 (by omega); have := l4 (by omega); have := l5 (by omega); omega
theorem wr_9 {b : Int → Int} {ts : Int} {K : Nat} (h1 : 1 ≤ K) (h6 : K ≤ 6) (hl : ∀ k : Int, ts ≤ k → k < ts + K → 97 ≤ b k ∧ b k ≤ 122) (h : codF b ts (min K 6) = 90302) : spA b (ts + K) ts 9 = true := by
  rw [spA_9]
  obtain ⟨c0, c1, c2, c3, c4, c5, c6⟩ := cod_v b ts
  obtain ⟨l0, l1, l2, l3, l4, l5⟩ := let_k hl h1
  rcases (show K = 1 ∨ K = 2 ∨ K = 3 ∨ K = 4 ∨ K = 5 ∨ K = 6 by omega) with rfl | rfl | rfl | rfl | rfl | rfl
  · rw [show min 1 6 = 1 from rfl] at h; omega
  · rw [show min 2 6 = 2 from rfl] at h; have := l1 (by omega); omega
  · rw [show min 3 6 = 3 from rfl] at h; have := l1 (by omega); have := l2 (by omega); omega
  · rw [show min 4 6 = 4 from rfl] at h; have := l1 (by omega); have := l2 (by omega); have := l3 (by omega); omega
  · rw [show min 5 6 = 5 from rfl] at h; have := l1 (by omega); have := l2 (by omega); have := l3 (by omega); have := l4 (by omega); omega
  · rw [show min 6 6 = 6 from rfl] at h; have := l1 (by omega); have := l2 (by omega); have := l3 (by omega); have := l4 (by omega); have := l5 (by omega); omega
theorem wr_10 {b : Int → Int} {ts : Int} {K : Nat} (h1 : 1 ≤ K) (h6 : K ≤ 6) (hl : ∀ k : Int, ts ≤ k → k < ts + K → 97 ≤ b k ∧ b k ≤ 122) (h : codF b ts (min K 6) = 4281544) : spA b (ts + K) ts 10 = true := by
  rw [spA_10]
  obtain ⟨c0, c1, c2, c3, c4, c5, c6⟩ := cod_v b ts
  obtain ⟨l0, l1, l2, l3, l4, l5⟩ := let_k hl h1
  rcases (show K = 1 ∨ K = 2 ∨ K = 3 ∨ K = 4 ∨ K = 5 ∨ K = 6 by omega) with rfl | rfl | rfl | rfl | rfl | rfl
  · rw [show min 1 6 = 1 from rfl] at h; omega
  · rw [show min 2 6 = 2 from rfl] at h; have := l1 (by omega); omega
  · rw [show min 3 6 = 3 from rfl] at h; have := l1 (by omega); have := l2 (by omega); omega
  · rw [show min 4 6 = 4 from rfl] at h; have := l1 (by omega); have := l2 (by omega); have := l3 (by omega); omega
  · rw [show min 5 6 = 5 from rfl] at h; have := l1 (by omega); have := l2 (by omega); have := l3 (by omega); have := l4 (by omega); omega
  · rw [show min 6 6 = 6 from rfl] at h; have := l1 (by omega); have := l2 (by omega); have := l3 (by omega); have := l4 (by omega); have := l5 (by omega); omega
theorem meM_of {c v : Int} (h : meM c = v) (hv : v ≠ 14) : (v = 6 ∧ c = 14432) ∨ (v = 4 ∧ c = 43051) ∨ (v = 9 ∧ c = 90302) ∨ (v = 5 ∧ c = 355280) ∨ (v = 7 ∧ c = 439745) ∨ (v = 0 ∧ c = 453774) ∨ (v = 1 ∧ c = 3957544) ∨ (v = 10 ∧ c = 4281544) ∨ (v = 8 ∧ c = 7742498) ∨ (v = 3 ∧ c = 266660330) := by
  unfold meM at h
  by_cases c0 : c = 14432
  · rw [if_pos c0] at h; exact Or.inl ⟨h.symm, c0⟩
  rw [if_neg c0] at h
  by_cases c1 : c = 43051
  · rw [if_pos c1] at h; exact Or.inr (Or.inl ⟨h.symm, c1⟩)
  rw [if_neg c1] at h
  by_cases c2 : c = 90302
  · rw [if_pos c2] at h; exact Or.inr (Or.inr (Or.inl ⟨h.symm, c2⟩))
  rw [if_neg c2] at h
  by_cases c3 : c = 355280
  · rw [if_pos c3] at h; exact Or.inr (Or.inr (Or.inr (Or.inl ⟨h.symm, c3⟩)))
  rw [if_neg c3] at h
  by_cases c4 : c = 439745
  · rw [if_pos c4] at h; exact Or.inr (Or.inr (Or.inr (Or.inr (Or.inl ⟨h.symm, c4⟩))))
  rw [if_neg c4] at h
  by_cases c5 : c = 453774
  · rw [if_pos c5] at h; exact Or.inr (Or.inr (Or.inr (Or.inr (Or.inr (Or.inl ⟨h.symm, c5⟩)))))
  rw [if_neg c5] at h
  by_cases c6 : c = 3957544
  · rw [if_pos c6] at h; exact Or.inr (Or.inr (Or.inr (Or.inr (Or.inr (Or.inr (Or.inl ⟨h.symm, c6⟩))))))
  rw [if_neg c6] at h
  by_cases c7 : c = 4281544
  · rw [if_pos c7] at h; exact Or.inr (Or.inr (Or.inr (Or.inr (Or.inr (Or.inr (Or.inr (Or.inl ⟨h.symm, c7⟩)))))))
  rw [if_neg c7] at h
  by_cases c8 : c = 7742498
  · rw [if_pos c8] at h; exact Or.inr (Or.inr (Or.inr (Or.inr (Or.inr (Or.inr (Or.inr (Or.inr (Or.inl ⟨h.symm, c8⟩))))))))
  rw [if_neg c8] at h
  by_cases c9 : c = 266660330
  · rw [if_pos c9] at h; exact Or.inr (Or.inr (Or.inr (Or.inr (Or.inr (Or.inr (Or.inr (Or.inr (Or.inr (⟨h.symm, c9⟩)))))))))
  rw [if_neg c9] at h
  exact absurd h.symm hv
theorem spI_v : spI 0 = 0 ∧ spI 1 = 1 ∧ spI 2 = 2 ∧ spI 3 = 3 ∧ spI 4 = 4 ∧ spI 5 = 5 ∧ spI 6 = 6 ∧ spI 7 = 7 ∧ spI 8 = 8 ∧ spI 9 = 9 ∧ spI 10 = 10 := by decide
theorem ws_of {b : Int → Int} {ts j : Int} {K : Nat} (hj : 0 ≤ j ∧ j < 11) (h : spA b (ts + K) ts (spI j) = true) : wsM b ts K = j := by
  obtain ⟨s0, s1, s2, s3, s4, s5, s6, s7, s8, s9, s10⟩ := spI_v
  rcases (show j = 0 ∨ j = 1 ∨ j = 2 ∨ j = 3 ∨ j = 4 ∨ j = 5 ∨ j = 6 ∨ j = 7 ∨ j = 8 ∨ j = 9 ∨ j = 10 by omega) with rfl | rfl | rfl | rfl | rfl | rfl | rfl | rfl | rfl | rfl | rfl
  · rw [s0] at h; exact ws_0 h
  · rw [s1] at h; exact ws_1 h
  · rw [s2] at h; exact ws_2 h
  · rw [s3] at h; exact ws_3 h
  · rw [s4] at h; exact ws_4 h
  · rw [s5] at h; exact ws_5 h
  · rw [s6] at h; exact ws_6 h
  · rw [s7] at h; exact ws_7 h
  · rw [s8] at h; exact ws_8 h
  · rw [s9] at h; exact ws_9 h
  · rw [s10] at h; exact ws_10 h
theorem wr_of {b : Int → Int} {ts : Int} {K : Nat} (h1 : 1 ≤ K) (hl : ∀ k : Int, ts ≤ k → k < ts + K → 97 ≤ b k ∧ b k ≤ 122) (h : wsM b ts K ≠ 14) : (0 ≤ wsM b ts K ∧ wsM b ts K < 11) ∧ spA b (ts + K) ts (spI (wsM b ts K)) = true := by
  obtain ⟨s0, s1, s2, s3, s4, s5, s6, s7, s8, s9, s10⟩ := spI_v
  by_cases z : svF b ts K = 0
  · have h6 := sv_n hl z
    have e : wsM b ts K = meM (codF b ts (min K 6)) := if_pos z
    rcases meM_of e.symm h with ⟨a, c⟩ | ⟨a, c⟩ | ⟨a, c⟩ | ⟨a, c⟩ | ⟨a, c⟩ | ⟨a, c⟩ | ⟨a, c⟩ | ⟨a, c⟩ | ⟨a, c⟩ | ⟨a, c⟩
    · rw [a, s6]; exact ⟨by omega, wr_6 h1 h6 hl c⟩
    · rw [a, s4]; exact ⟨by omega, wr_4 h1 h6 hl c⟩
    · rw [a, s9]; exact ⟨by omega, wr_9 h1 h6 hl c⟩
    · rw [a, s5]; exact ⟨by omega, wr_5 h1 h6 hl c⟩
    · rw [a, s7]; exact ⟨by omega, wr_7 h1 h6 hl c⟩
    · rw [a, s0]; exact ⟨by omega, wr_0 h1 h6 hl c⟩
    · rw [a, s1]; exact ⟨by omega, wr_1 h1 h6 hl c⟩
    · rw [a, s10]; exact ⟨by omega, wr_10 h1 h6 hl c⟩
    · rw [a, s8]; exact ⟨by omega, wr_8 h1 h6 hl c⟩
    · rw [a, s3]; exact ⟨by omega, wr_3 h1 h6 hl c⟩
  · by_cases g : codF b ts (min K 6) = 54575892 ∧ svF b ts K = 14
    · have e : wsM b ts K = 2 := by unfold wsM; rw [if_neg z, if_pos g]
      obtain ⟨k7, x7⟩ := sv_7 g.2
      subst k7
      rw [e, s2]
      refine ⟨by omega, ?_⟩
      rw [spA_2]
      obtain ⟨c0, c1, c2, c3, c4, c5, c6⟩ := cod_v b ts
      obtain ⟨l0, l1, l2, l3, l4, l5⟩ := let_k hl h1
      have g1 := g.1
      rw [show min 7 6 = 6 from rfl] at g1
      have := l1 (by omega); have := l2 (by omega); have := l3 (by omega); have := l4 (by omega); have := l5 (by omega)
      omega
    · exact absurd (show wsM b ts K = 14 by unfold wsM; rw [if_neg z, if_neg g]) h
/-- a word on both sides -/
theorem wd_e {b : Int → Int} {ts vl : Int} {K : Nat} (h1 : 1 ≤ K) (hl : ∀ k : Int, ts ≤ k → k < ts + K → 97 ≤ b k ∧ b k ≤ 122) : (wsM b ts K = 14 ∧ wdF b (ts + K) ts 11 0 (4, vl) = (4, vl)) ∨ ((0 ≤ wsM b ts K ∧ wsM b ts K < 11) ∧ wdF b (ts + K) ts 11 0 (4, vl) = (1, wsM b ts K)) := by
  by_cases c : wsM b ts K = 14
  · exact Or.inl ⟨c, wd_none 11 0 _ (fun j j1 j2 z => by have := ws_of ⟨j1, by omega⟩ z; omega)⟩
  · obtain ⟨w1, w2⟩ := wr_of h1 hl c
    exact Or.inr ⟨w1, wd_one w2 11 0 _ w1.1 (by omega) (fun j j1 j2 z => (ws_of ⟨j1, by omega⟩ z).symm)⟩
theorem nu_e {b : Int → Int} : ∀ (n : Nat) (i v w : Int), 0 ≤ w → v = min 100 w → nuF b n v i = (min 100 (ncM b n i w).2, (ncM b n i w).1)
  | 0, i, v, w, _, h => by rw [nuF, ncM, h]
  | n + 1, i, v, w, hw, h => by
    rw [nuF, ncM]
    by_cases e : 48 ≤ b i ∧ b i ≤ 57
    · rw [if_pos e, if_pos e]
      refine nu_e n (i + 1) _ _ (by split <;> omega) ?_
      by_cases g : 99 < w
      · rw [if_pos g]; omega
      · rw [if_neg g]; omega
    · rw [if_neg e, if_neg e, h]
def tokR (t u : TKS) : Prop := t.1 = u.1 ∧ t.2.1 = u.2.1 ∧ ((t.2.2.1 = 0 ∧ u.2.2.1 = 11) ∨ (t.2.2.1 = 1 ∧ u.2.2.1 = t.2.2.2 ∧ 0 ≤ t.2.2.2 ∧ t.2.2.2 ≤ 10) ∨ (t.2.2.1 = 2 ∧ u.2.2.1 = 12 ∧ t.2.2.2 = u.2.2.2 ∧ 0 ≤ u.2.2.2 ∧ u.2.2.2 ≤ 99) ∨ (t.2.2.1 = 3 ∧ u.2.2.1 = 13) ∨ (t.2.2.1 = 4 ∧ u.2.2.1 = 14))
theorem nt_e {tx : Int → Int} {ln ax vl : Int} (h : 0 ≤ ax ∧ ax ≤ ln) : tokR (ntA (btA tx ln) ax vl) (nxM (btA tx ln) ax) := by
  have hsk := skF_rng (tx := tx) (ln := ln) 201 ax h
  unfold ntA nxM tkM
  generalize skF (btA tx ln) 201 ax = i at hsk ⊢
  by_cases e1 : btA tx ln i < 0
  · rw [if_pos e1, if_pos e1]
    exact ⟨rfl, rfl, Or.inl ⟨rfl, rfl⟩⟩
  · rw [if_neg e1, if_neg e1]
    by_cases e2 : 97 ≤ btA tx ln i ∧ btA tx ln i ≤ 122
    · rw [if_pos e2, if_pos e2]
      obtain ⟨K, k1, k2⟩ := wcM_v (b := btA tx ln) (ts := i) 201 0
      rw [show i + ((0 : Nat) : Int) = i by omega] at k1 k2
      have k2 : wcM (btA tx ln) i 201 i 0 0 = (i + K, codF (btA tx ln) i (min K 6), svF (btA tx ln) i K) := k2
      have hg := wcM_gt (tx := tx) (ln := ln) (ts := i) 200 0 0 hsk.1 e2
      have hg : i + 1 ≤ (wcM (btA tx ln) i 201 i 0 0).1 := hg
      rw [k2] at hg
      have hg : i + 1 ≤ i + (K : Int) := hg
      rw [k1, k2]
      have hw := wd_e (b := btA tx ln) (ts := i) (vl := vl) (K := K) (by omega) (fun k q1 q2 => enF_let 201 i k q1 (by rw [k1]; exact q2))
      rcases hw with ⟨w1, w2⟩ | ⟨w1, w2⟩
      · rw [w2]
        exact ⟨rfl, rfl, Or.inr (Or.inr (Or.inr (Or.inr ⟨rfl, w1⟩)))⟩
      · rw [w2]
        exact ⟨rfl, rfl, Or.inr (Or.inl ⟨rfl, rfl, w1.1, Int.le_of_lt_add_one w1.2⟩)⟩
    · rw [if_neg e2, if_neg e2]
      by_cases e3 : 48 ≤ btA tx ln i ∧ btA tx ln i ≤ 57
      · rw [if_pos e3, if_pos e3, nu_e (b := btA tx ln) 201 i 0 0 (Int.le_refl 0) rfl]
        have hr := (ncM_rng (tx := tx) (ln := ln) 201 i 0 ⟨hsk.1, hsk.2.2⟩ (by omega)).2
        generalize ncM (btA tx ln) 201 i 0 = z at hr ⊢
        dsimp only
        by_cases g : 99 < z.2 ∨ (btA tx ln i = 48 ∧ 1 < z.1 - i)
        · rw [if_pos g, if_pos (show (btA tx ln i = 48 ∧ 1 < z.1 - i) ∨ 99 < min 100 z.2 by omega)]
          exact ⟨rfl, rfl, Or.inr (Or.inr (Or.inr (Or.inr ⟨rfl, rfl⟩)))⟩
        · rw [if_neg g, if_neg (show ¬ ((btA tx ln i = 48 ∧ 1 < z.1 - i) ∨ 99 < min 100 z.2) by omega)]
          exact ⟨rfl, rfl, Or.inr (Or.inr (Or.inl ⟨rfl, rfl, show min 100 z.2 = z.2 by omega, show 0 ≤ z.2 by omega, show z.2 ≤ 99 by omega⟩))⟩
      · rw [if_neg e3, if_neg e3]
        by_cases g : btA tx ln i = 59
        · rw [if_pos g, if_pos g]
          exact ⟨rfl, rfl, Or.inr (Or.inr (Or.inr (Or.inl ⟨rfl, rfl⟩)))⟩
        · rw [if_neg g, if_neg g]
          exact ⟨rfl, rfl, Or.inr (Or.inr (Or.inr (Or.inr ⟨rfl, rfl⟩)))⟩
