/-! ===== the reference: its text ===== -/
def meM (c : Int) : Int := if c = 14432 then 6 else if c = 43051 then 4 else if c = 90302 then 9 else if c = 355280 then 5 else if c = 439745 then 7 else if c = 453774 then 0 else if c = 3957544 then 1 else if c = 4281544 then 10 else if c = 7742498 then 8 else if c = 266660330 then 3 else 14
theorem meM_rng (c : Int) : 0 ≤ meM c ∧ meM c ≤ 14 := by unfold meM; repeat' split
                                                         all_goals omega
/-- a word's letters: where it ends, the number of its first six, what stands seventh -/
def wcM (b : Int → Int) (ts : Int) : Nat → Int → Int → Int → Int × Int × Int
  | 0, i, c, s => (i, c, s)
  | n + 1, i, c, s => if 97 ≤ b i ∧ b i ≤ 122 then wcM b ts n (i + 1) (if i - ts < 6 then 27 * c + b i - 96 else c) (if i - ts = 6 then b i - 96 else if 6 < i - ts then 99 else s) else (i, c, s)
def ncM (b : Int → Int) : Nat → Int → Int → Int × Int
  | 0, i, v => (i, v)
  | n + 1, i, v => if 48 ≤ b i ∧ b i ≤ 57 then ncM b n (i + 1) (if 99 < v then v else 10 * v + b i - 48) else (i, v)
/-- the next token from i on: where it ends, where it begins, its sort, its value -/
def tkM (b : Int → Int) (i : Int) : TKS :=
  if b i < 0 then (i, i, 11, 0)
  else if 97 ≤ b i ∧ b i ≤ 122 then
    ((wcM b i 201 i 0 0).1, i, (if (wcM b i 201 i 0 0).2.2 = 0 then meM (wcM b i 201 i 0 0).2.1 else if (wcM b i 201 i 0 0).2.1 = 54575892 ∧ (wcM b i 201 i 0 0).2.2 = 14 then 2 else 14), 0)
  else if 48 ≤ b i ∧ b i ≤ 57 then
    ((ncM b 201 i 0).1, i, (if 99 < (ncM b 201 i 0).2 ∨ (b i = 48 ∧ 1 < (ncM b 201 i 0).1 - i) then 14 else 12), (ncM b 201 i 0).2)
  else (i + 1, i, (if b i = 59 then 13 else 14), 0)
def nxM (b : Int → Int) (ax : Int) : TKS := tkM b (skF b 201 ax)
theorem wcM_rng {tx : Int → Int} {ln ts : Int} : ∀ (n : Nat) (i c s : Int), 0 ≤ i ∧ i ≤ ln → i ≤ (wcM (btA tx ln) ts n i c s).1 ∧ (wcM (btA tx ln) ts n i c s).1 ≤ ln
  | 0, i, c, s, h => ⟨Int.le_refl _, h.2⟩
  | n + 1, i, c, s, h => by
    unfold wcM
    by_cases e : 97 ≤ btA tx ln i ∧ btA tx ln i ≤ 122
    · rw [if_pos e]
      have hb := btA_nn (tx := tx) (ln := ln) (i := i) (by omega)
      have ih := wcM_rng (tx := tx) (ln := ln) (ts := ts) n (i + 1) (if i - ts < 6 then 27 * c + btA tx ln i - 96 else c) (if i - ts = 6 then btA tx ln i - 96 else if 6 < i - ts then 99 else s) (by omega)
      exact ⟨Int.le_trans (by omega) ih.1, ih.2⟩
    · rw [if_neg e]; exact ⟨Int.le_refl _, h.2⟩
theorem wcM_gt {tx : Int → Int} {ln ts : Int} (n : Nat) {i : Int} (c s : Int) (hi : 0 ≤ i) (e : 97 ≤ btA tx ln i ∧ btA tx ln i ≤ 122) : i + 1 ≤ (wcM (btA tx ln) ts (n + 1) i c s).1 := by
  unfold wcM
  rw [if_pos e]
  have hb := btA_nn (tx := tx) (ln := ln) (i := i) (by omega)
  exact (wcM_rng n (i + 1) _ _ (by omega)).1
theorem ncM_rng {tx : Int → Int} {ln : Int} : ∀ (n : Nat) (i v : Int), 0 ≤ i ∧ i ≤ ln → 0 ≤ v ∧ v ≤ 999 → (i ≤ (ncM (btA tx ln) n i v).1 ∧ (ncM (btA tx ln) n i v).1 ≤ ln) ∧ (0 ≤ (ncM (btA tx ln) n i v).2 ∧ (ncM (btA tx ln) n i v).2 ≤ 999)
  | 0, i, v, h, hv => ⟨⟨Int.le_refl _, h.2⟩, hv⟩
  | n + 1, i, v, h, hv => by
    unfold ncM
    by_cases e : 48 ≤ btA tx ln i ∧ btA tx ln i ≤ 57
    · rw [if_pos e]
      have hb := btA_nn (tx := tx) (ln := ln) (i := i) (by omega)
      have ih := ncM_rng (tx := tx) (ln := ln) n (i + 1) (if 99 < v then v else 10 * v + btA tx ln i - 48) (by omega) (by split <;> omega)
      exact ⟨⟨Int.le_trans (by omega) ih.1.1, ih.1.2⟩, ih.2⟩
    · rw [if_neg e]; exact ⟨⟨Int.le_refl _, h.2⟩, hv⟩
theorem ncM_gt {tx : Int → Int} {ln : Int} (n : Nat) {i : Int} {v : Int} (hi : 0 ≤ i) (hv : 0 ≤ v ∧ v ≤ 999) (e : 48 ≤ btA tx ln i ∧ btA tx ln i ≤ 57) : i + 1 ≤ (ncM (btA tx ln) (n + 1) i v).1 := by
  unfold ncM
  rw [if_pos e]
  have hb := btA_nn (tx := tx) (ln := ln) (i := i) (by omega)
  exact (ncM_rng n (i + 1) _ (by omega) (by split <;> omega)).1.1
theorem tkM_rng {tx : Int → Int} {ln i : Int} (h : 0 ≤ i ∧ i ≤ ln) : (i ≤ (tkM (btA tx ln) i).1 ∧ (tkM (btA tx ln) i).1 ≤ ln) ∧ (tkM (btA tx ln) i).2.1 = i ∧ ((tkM (btA tx ln) i).2.2.1 ≠ 11 → i + 1 ≤ (tkM (btA tx ln) i).1) ∧ (0 ≤ (tkM (btA tx ln) i).2.2.1 ∧ (tkM (btA tx ln) i).2.2.1 ≤ 14) ∧ (0 ≤ (tkM (btA tx ln) i).2.2.2 ∧ (tkM (btA tx ln) i).2.2.2 ≤ 999) := by
  unfold tkM
  by_cases e1 : btA tx ln i < 0
  · rw [if_pos e1]
    exact ⟨⟨Int.le_refl _, h.2⟩, rfl, fun q => absurd rfl q, ⟨by show (0 : Int) ≤ 11; decide, by show (11 : Int) ≤ 14; decide⟩, ⟨by show (0 : Int) ≤ 0; decide, by show (0 : Int) ≤ 999; decide⟩⟩
  · rw [if_neg e1]
    have hb := btA_nn (tx := tx) (ln := ln) (i := i) (by omega)
    by_cases e2 : 97 ≤ btA tx ln i ∧ btA tx ln i ≤ 122
    · rw [if_pos e2]
      have h1 := wcM_rng (tx := tx) (ts := i) 201 i 0 0 h
      have h2 := wcM_gt (tx := tx) (ln := ln) (ts := i) 200 0 0 h.1 e2
      refine ⟨h1, rfl, fun _ => h2, ?_, ⟨by show (0 : Int) ≤ 0; decide, by show (0 : Int) ≤ 999; decide⟩⟩
      dsimp only
      have h3 := meM_rng (wcM (btA tx ln) i 201 i 0 0).2.1
      split
      · exact h3
      · split <;> omega
    · rw [if_neg e2]
      by_cases e3 : 48 ≤ btA tx ln i ∧ btA tx ln i ≤ 57
      · rw [if_pos e3]
        have h1 := ncM_rng (tx := tx) 201 i 0 h (by omega)
        have h2 := ncM_gt (tx := tx) (ln := ln) 200 (v := 0) h.1 (by omega) e3
        refine ⟨h1.1, rfl, fun _ => h2, ?_, h1.2⟩
        dsimp only
        split <;> omega
      · rw [if_neg e3]
        refine ⟨⟨by show i ≤ i + 1; omega, by show i + 1 ≤ ln; omega⟩, rfl, fun _ => Int.le_refl _, ?_, ⟨by show (0 : Int) ≤ 0; decide, by show (0 : Int) ≤ 999; decide⟩⟩
        dsimp only
        split <;> omega
theorem nxM_rng {tx : Int → Int} {ln ax : Int} (h : 0 ≤ ax ∧ ax ≤ ln) : (ax ≤ (nxM (btA tx ln) ax).1 ∧ (nxM (btA tx ln) ax).1 ≤ ln) ∧ (ax ≤ (nxM (btA tx ln) ax).2.1 ∧ (nxM (btA tx ln) ax).2.1 ≤ ln) ∧ ((nxM (btA tx ln) ax).2.2.1 ≠ 11 → ax + 1 ≤ (nxM (btA tx ln) ax).1) ∧ (0 ≤ (nxM (btA tx ln) ax).2.2.1 ∧ (nxM (btA tx ln) ax).2.2.1 ≤ 14) ∧ (0 ≤ (nxM (btA tx ln) ax).2.2.2 ∧ (nxM (btA tx ln) ax).2.2.2 ≤ 999) := by
  unfold nxM
  have h1 := skF_rng (tx := tx) (ln := ln) 201 ax h
  obtain ⟨h2, h3, h4, h5, h6⟩ := tkM_rng (tx := tx) (ln := ln) (i := skF (btA tx ln) 201 ax) ⟨h1.1, h1.2.2⟩
  exact ⟨⟨Int.le_trans h1.2.1 h2.1, h2.2⟩, ⟨by rw [h3]; exact h1.2.1, by rw [h3]; exact h1.2.2⟩, fun q => Int.le_trans (Int.add_le_add_right h1.2.1 1) (h4 q), h5, h6⟩
/-- at, start, sort, value, fault -/
abbrev DUS : Type := Int × Int × Int × Int × Int
def duM (b : Int → Int) (yes : Prop) [Decidable yes] (s : DUS) : DUS :=
  if s.2.2.2.2 = -9 then (if yes then ((nxM b s.1).1, (nxM b s.1).2.1, (nxM b s.1).2.2.1, (nxM b s.1).2.2.2, s.2.2.2.2) else (s.1, s.2.1, s.2.2.1, s.2.2.2.1, s.2.1)) else s
theorem duM_c {b : Int → Int} {p q : Prop} [Decidable p] [Decidable q] {s : DUS} (h : p ↔ q) : duM b p s = duM b q s := by
  unfold duM
  by_cases hp : p
  · rw [if_pos hp, if_pos (h.mp hp)]
  · rw [if_neg hp, if_neg (fun k => hp (h.mpr k))]
theorem duM_n {b : Int → Int} {p : Prop} [Decidable p] {s : DUS} (h : s.2.2.2.2 ≠ -9) : duM b p s = s := if_neg h
theorem duM_y {b : Int → Int} {p : Prop} [Decidable p] {s : DUS} (h : s.2.2.2.2 = -9) (hp : p) : duM b p s = ((nxM b s.1).1, (nxM b s.1).2.1, (nxM b s.1).2.2.1, (nxM b s.1).2.2.2, s.2.2.2.2) := by unfold duM; rw [if_pos h, if_pos hp]
theorem duM_f {b : Int → Int} {p : Prop} [Decidable p] {s : DUS} (h : s.2.2.2.2 = -9) (hp : ¬ p) : duM b p s = (s.1, s.2.1, s.2.2.1, s.2.2.2.1, s.2.1) := by unfold duM; rw [if_pos h, if_neg hp]
def okU (td : Int) (s : DUS) : Prop := (0 ≤ s.1 ∧ s.1 ≤ td) ∧ (0 ≤ s.2.1 ∧ s.2.1 ≤ td) ∧ (0 ≤ s.2.2.1 ∧ s.2.2.1 ≤ 14) ∧ (0 ≤ s.2.2.2.1 ∧ s.2.2.2.1 ≤ 999) ∧ (s.2.2.2.2 = -9 ∨ (0 ≤ s.2.2.2.2 ∧ s.2.2.2.2 ≤ td))
theorem duM_ok {f1 : Int → Int} {td : Int} {p : Prop} [Decidable p] {s : DUS} (h : okU td s) : okU td (duM (btA f1 td) p s) := by
  by_cases e : s.2.2.2.2 = -9
  · by_cases hp : p
    · rw [duM_y e hp]
      obtain ⟨h1, h2, -, h4, h5⟩ := nxM_rng (tx := f1) (ln := td) (ax := s.1) h.1
      exact ⟨⟨Int.le_trans h.1.1 h1.1, h1.2⟩, ⟨Int.le_trans h.1.1 h2.1, h2.2⟩, h4, h5, Or.inl e⟩
    · rw [duM_f e hp]
      exact ⟨h.1, h.2.1, h.2.2.1, h.2.2.2.1, Or.inr h.2.1⟩
  · rw [duM_n e]; exact h
theorem duM_9 {b : Int → Int} {p : Prop} [Decidable p] {s : DUS} (h0 : 0 ≤ s.2.1) (h : (duM b p s).2.2.2.2 = -9) : s.2.2.2.2 = -9 ∧ p := by
  by_cases e : s.2.2.2.2 = -9
  · by_cases hp : p
    · exact ⟨e, hp⟩
    · rw [duM_f e hp] at h
      exact absurd (show s.2.1 = -9 from h) (by omega)
  · rw [duM_n e] at h
    exact absurd h e
abbrev nbM (b : Int → Int) (lo hi : Int) (s : DUS) : DUS := duM b (s.2.2.1 = 12 ∧ lo ≤ s.2.2.2.1 ∧ s.2.2.2.1 ≤ hi) s
abbrev stM (b : Int → Int) (s : DUS) : DUS := duM b (s.2.2.1 = 13) s
def roM (b : Int → Int) (s : DUS) : Int × DUS := ((if (nbM b 1 8 (nbM b 0 7 s)).2.2.2.2 = -9 then sfF s.2.2.2.1 (nbM b 0 7 s).2.2.2.1.toNat 0 0 else 0), nbM b 1 8 (nbM b 0 7 s))
theorem roM_rng (b : Int → Int) (s : DUS) : 0 ≤ (roM b s).1 ∧ (roM b s).1 < 256 := by
  unfold roM
  dsimp only
  split
  · exact sfF_rng _ _ _ _ (by omega)
  · omega
theorem roM_ok {f1 : Int → Int} {td : Int} {s : DUS} (h : okU td s) : okU td (roM (btA f1 td) s).2 := duM_ok (duM_ok h)
def sdF (f4 : Int → Int) (k : Int) : Nat → Int → Bool
  | 0, _ => false
  | n + 1, i => decide (k < 8 ∧ f4 (4 + i) = k) || sdF f4 k n (i + 1)
abbrev myP (f2 : Int → Int) (tl w : Int) : Prop := (w < 4 ∧ f2 8 < 4) ∨ (w = 4 ∧ f2 9 < 2) ∨ (4 < w ∧ w < 7) ∨ ((7 ≤ w ∧ w ≤ 10) ∧ ztb tl w = false)
theorem my_p {f2 : Int → Int} {tl w : Int} (h : myP f2 tl w) (hw : w < 4) : f2 8 < 4 := by rcases h with q | q | q | ⟨q, -⟩ <;> omega
theorem my_b {f2 : Int → Int} {tl w : Int} (h : myP f2 tl w) (hw : w = 4) : f2 9 < 2 := by rcases h with q | q | q | ⟨q, -⟩ <;> omega
theorem my_w {f2 : Int → Int} {tl w : Int} (h : myP f2 tl w) : w ≤ 10 := by rcases h with q | q | q | ⟨q, -⟩ <;> omega
theorem my_t {f2 : Int → Int} {tl w : Int} (h : myP f2 tl w) (hw : 7 ≤ w) : ztb tl w = false := by
  rcases h with q | q | q | ⟨-, q⟩
  · omega
  · omega
  · omega
  · exact q
abbrev pnP (s : DUS) (f2 f4 : Int → Int) : Prop := s.2.2.1 = 12 ∧ (0 ≤ s.2.2.2.1 ∧ s.2.2.2.1 ≤ 8) ∧ sdF f4 s.2.2.2.1 (f2 8).toNat 0 = false
/-- what is read: the token; what was told; plan, sorts, places, beams -/
abbrev RIS : Type := DUS × Int × (Int → Int) × (Int → Int) × (Int → Int) × (Int → Int)
def riN (b : Int → Int) (w : Int) (s : DUS) (tl : Int) (f2 f3 f4 f5 : Int → Int) : RIS :=
  if w < 4 then (stM b (duM b (pnP s f2 f4) s), tl, zup f2 8 (f2 8 + 1), zup f3 (4 + f2 8) w, zup f4 (4 + f2 8) s.2.2.2.1, f5)
  else if w = 4 then (stM b (roM b s).2, tl, zup f2 9 (f2 9 + 1), f3, f4, zup f5 (2 + f2 9) (roM b s).1)
  else if w < 7 then (stM b (roM b s).2, tl, zup f2 (10 + w - 5) (zbor (f2 (10 + w - 5)) (roM b s).1), f3, f4, f5)
  else (stM b (nbM b (if w = 10 then 1 else 0) (if w < 9 then 7 else if w = 9 then 4 else 9) s), tl, zup f2 (12 + w - 7) s.2.2.2.1, f3, f4, f5)
def riM (b : Int → Int) (s : DUS) (tl : Int) (f2 f3 f4 f5 : Int → Int) : RIS :=
  if (duM b (myP f2 tl s.2.2.1) s).2.2.2.2 = -9 then riN b s.2.2.1 (duM b (myP f2 tl s.2.2.1) s) (zbor tl (zpw s.2.2.1)) f2 f3 f4 f5
  else (duM b (myP f2 tl s.2.2.1) s, tl, f2, f3, f4, f5)
theorem zb_e1 (c : Prop) [Decidable c] : zb c = 1 ↔ c := ⟨fun h => zb_t (by omega), fun h => zb_1 h⟩
theorem riN_4 {b : Int → Int} {w : Int} {s : DUS} {tl : Int} {f2 f3 f4 f5 : Int → Int} (h : w < 4) : riN b w s tl f2 f3 f4 f5 = (stM b (duM b (pnP s f2 f4) s), tl, zup f2 8 (f2 8 + 1), zup f3 (4 + f2 8) w, zup f4 (4 + f2 8) s.2.2.2.1, f5) := if_pos h
theorem riN_b {b : Int → Int} {w : Int} {s : DUS} {tl : Int} {f2 f3 f4 f5 : Int → Int} (h : w = 4) : riN b w s tl f2 f3 f4 f5 = (stM b (roM b s).2, tl, zup f2 9 (f2 9 + 1), f3, f4, zup f5 (2 + f2 9) (roM b s).1) := by unfold riN; rw [if_neg (by omega), if_pos h]
theorem riN_r {b : Int → Int} {w : Int} {s : DUS} {tl : Int} {f2 f3 f4 f5 : Int → Int} (h : 4 < w ∧ w < 7) : riN b w s tl f2 f3 f4 f5 = (stM b (roM b s).2, tl, zup f2 (10 + w - 5) (zbor (f2 (10 + w - 5)) (roM b s).1), f3, f4, f5) := by unfold riN; rw [if_neg (by omega), if_neg (by omega), if_pos h.2]
theorem riN_n {b : Int → Int} {w lo hi : Int} {s : DUS} {tl : Int} {f2 f3 f4 f5 : Int → Int} (h : 7 ≤ w) (hlo : lo = if w = 10 then 1 else 0) (hhi : hi = if w < 9 then 7 else if w = 9 then 4 else 9) : riN b w s tl f2 f3 f4 f5 = (stM b (nbM b lo hi s), tl, zup f2 (12 + w - 7) s.2.2.2.1, f3, f4, f5) := by subst hlo hhi; unfold riN; rw [if_neg (by omega), if_neg (by omega), if_neg (by omega)]
theorem riM_y {b : Int → Int} {s : DUS} {tl : Int} {f2 f3 f4 f5 : Int → Int} (h : (duM b (myP f2 tl s.2.2.1) s).2.2.2.2 = -9) : riM b s tl f2 f3 f4 f5 = riN b s.2.2.1 (duM b (myP f2 tl s.2.2.1) s) (zbor tl (zpw s.2.2.1)) f2 f3 f4 f5 := if_pos h
theorem riM_n {b : Int → Int} {s : DUS} {tl : Int} {f2 f3 f4 f5 : Int → Int} (h : (duM b (myP f2 tl s.2.2.1) s).2.2.2.2 ≠ -9) : riM b s tl f2 f3 f4 f5 = (duM b (myP f2 tl s.2.2.1) s, tl, f2, f3, f4, f5) := if_neg h
def okD (td : Int) (S : RIS) : Prop := okU td S.1 ∧ (0 ≤ S.2.1 ∧ S.2.1 < 2048) ∧ (0 ≤ S.2.2.1 8 ∧ S.2.2.1 8 ≤ 4) ∧ (0 ≤ S.2.2.1 9 ∧ S.2.2.1 9 ≤ 2) ∧ (0 ≤ S.2.2.1 10 ∧ S.2.2.1 10 < 256) ∧ (0 ≤ S.2.2.1 11 ∧ S.2.2.1 11 < 256) ∧ (∀ i : Int, 0 ≤ i → i < 8 → 0 ≤ S.2.2.2.1 i ∧ S.2.2.2.1 i ≤ 3) ∧ (∀ i : Int, 0 ≤ i → i < 8 → 0 ≤ S.2.2.2.2.1 i ∧ S.2.2.2.2.1 i ≤ 999) ∧ (∀ i : Int, 0 ≤ i → i < 4 → 0 ≤ S.2.2.2.2.2 i ∧ S.2.2.2.2.2 i < 256)
theorem zup_rng {F : Int → Int} {k v lo hi n : Int} (h : ∀ i : Int, 0 ≤ i → i < n → lo ≤ F i ∧ F i ≤ hi) (hv : lo ≤ v ∧ v ≤ hi) : ∀ i : Int, 0 ≤ i → i < n → lo ≤ zup F k v i ∧ zup F k v i ≤ hi := by
  intro i h1 h2
  by_cases e : i = k
  · rw [e, zup_s]; exact hv
  · rw [zup_n F e]; exact h i h1 h2
theorem zup_rg2 {F : Int → Int} {k v lo hi n : Int} (h : ∀ i : Int, 0 ≤ i → i < n → lo ≤ F i ∧ F i < hi) (hv : lo ≤ v ∧ v < hi) : ∀ i : Int, 0 ≤ i → i < n → lo ≤ zup F k v i ∧ zup F k v i < hi := by
  intro i h1 h2
  by_cases e : i = k
  · rw [e, zup_s]; exact hv
  · rw [zup_n F e]; exact h i h1 h2
theorem riN_ok {f1 : Int → Int} {td w : Int} {s : DUS} {tl : Int} {f2 f3 f4 f5 : Int → Int} (hw : 0 ≤ w ∧ w ≤ 10) (h8 : w < 4 → f2 8 < 4) (h9 : w = 4 → f2 9 < 2) (h : okD td (s, tl, f2, f3, f4, f5)) : okD td (riN (btA f1 td) w s tl f2 f3 f4 f5) := by
  obtain ⟨hu, ht, h3, h4, h5, h6, h7, h10, h11⟩ := h
  dsimp only at hu ht h3 h4 h5 h6 h7 h10 h11
  have hro := roM_rng (btA f1 td) s
  by_cases c1 : w < 4
  · rw [riN_4 c1]
    have := h8 c1
    refine ⟨duM_ok (duM_ok hu), ht, ?_, ?_, ?_, ?_, zup_rng h7 (by omega), zup_rng h10 hu.2.2.2.1, h11⟩
    · show 0 ≤ zup f2 8 (f2 8 + 1) 8 ∧ zup f2 8 (f2 8 + 1) 8 ≤ 4
      rw [zup_s]; omega
    · show 0 ≤ zup f2 8 (f2 8 + 1) 9 ∧ zup f2 8 (f2 8 + 1) 9 ≤ 2
      rw [zup_n f2 (by omega)]; exact h4
    · show 0 ≤ zup f2 8 (f2 8 + 1) 10 ∧ zup f2 8 (f2 8 + 1) 10 < 256
      rw [zup_n f2 (by omega)]; exact h5
    · show 0 ≤ zup f2 8 (f2 8 + 1) 11 ∧ zup f2 8 (f2 8 + 1) 11 < 256
      rw [zup_n f2 (by omega)]; exact h6
  · by_cases c2 : w = 4
    · rw [riN_b c2]
      have := h9 c2
      refine ⟨duM_ok (roM_ok hu), ht, ?_, ?_, ?_, ?_, h7, h10, zup_rg2 h11 hro⟩
      · show 0 ≤ zup f2 9 (f2 9 + 1) 8 ∧ zup f2 9 (f2 9 + 1) 8 ≤ 4
        rw [zup_n f2 (by omega)]; exact h3
      · show 0 ≤ zup f2 9 (f2 9 + 1) 9 ∧ zup f2 9 (f2 9 + 1) 9 ≤ 2
        rw [zup_s]; omega
      · show 0 ≤ zup f2 9 (f2 9 + 1) 10 ∧ zup f2 9 (f2 9 + 1) 10 < 256
        rw [zup_n f2 (by omega)]; exact h5
      · show 0 ≤ zup f2 9 (f2 9 + 1) 11 ∧ zup f2 9 (f2 9 + 1) 11 < 256
        rw [zup_n f2 (by omega)]; exact h6
    · by_cases c3 : w < 7
      · rw [riN_r ⟨by omega, c3⟩]
        have hb : 0 ≤ f2 (10 + w - 5) ∧ f2 (10 + w - 5) < 256 := by
          rcases (show w = 5 ∨ w = 6 by omega) with rfl | rfl
          · exact h5
          · exact h6
        have hz : 0 ≤ zbor (f2 (10 + w - 5)) (roM (btA f1 td) s).1 ∧ zbor (f2 (10 + w - 5)) (roM (btA f1 td) s).1 < 256 := zbor_256 hb hro
        have hq : ∀ i : Int, (0 ≤ f2 i ∧ f2 i < 256) → 0 ≤ zup f2 (10 + w - 5) (zbor (f2 (10 + w - 5)) (roM (btA f1 td) s).1) i ∧ zup f2 (10 + w - 5) (zbor (f2 (10 + w - 5)) (roM (btA f1 td) s).1) i < 256 := by
          intro i hi
          by_cases e : i = 10 + w - 5
          · rw [e, zup_s]; exact hz
          · rw [zup_n f2 e]; exact hi
        refine ⟨duM_ok (roM_ok hu), ht, ?_, ?_, hq 10 h5, hq 11 h6, h7, h10, h11⟩
        · show 0 ≤ zup f2 (10 + w - 5) _ 8 ∧ zup f2 (10 + w - 5) _ 8 ≤ 4
          rw [zup_n f2 (by omega)]; exact h3
        · show 0 ≤ zup f2 (10 + w - 5) _ 9 ∧ zup f2 (10 + w - 5) _ 9 ≤ 2
          rw [zup_n f2 (by omega)]; exact h4
      · rw [riN_n (by omega) rfl rfl]
        refine ⟨duM_ok (duM_ok hu), ht, ?_, ?_, ?_, ?_, h7, h10, h11⟩
        · show 0 ≤ zup f2 (12 + w - 7) _ 8 ∧ zup f2 (12 + w - 7) _ 8 ≤ 4
          rw [zup_n f2 (by omega)]; exact h3
        · show 0 ≤ zup f2 (12 + w - 7) _ 9 ∧ zup f2 (12 + w - 7) _ 9 ≤ 2
          rw [zup_n f2 (by omega)]; exact h4
        · show 0 ≤ zup f2 (12 + w - 7) _ 10 ∧ zup f2 (12 + w - 7) _ 10 < 256
          rw [zup_n f2 (by omega)]; exact h5
        · show 0 ≤ zup f2 (12 + w - 7) _ 11 ∧ zup f2 (12 + w - 7) _ 11 < 256
          rw [zup_n f2 (by omega)]; exact h6
theorem zbor_2048 {a b : Int} (ha : 0 ≤ a ∧ a < 2048) (hb : 0 ≤ b ∧ b < 2048) : 0 ≤ zbor a b ∧ zbor a b < 2048 := ⟨zbor_nn _ _, zbor_lt 11 (by omega) (by omega)⟩
theorem riM_ok {f1 : Int → Int} {td : Int} {s : DUS} {tl : Int} {f2 f3 f4 f5 : Int → Int} (h : okD td (s, tl, f2, f3, f4, f5)) : okD td (riM (btA f1 td) s tl f2 f3 f4 f5) := by
  obtain ⟨hu, ht, hr⟩ := id h
  dsimp only at hu ht
  have hu2 : okU td (duM (btA f1 td) (myP f2 tl s.2.2.1) s) := duM_ok hu
  by_cases c : (duM (btA f1 td) (myP f2 tl s.2.2.1) s).2.2.2.2 = -9
  · rw [riM_y c]
    obtain ⟨-, hm⟩ := duM_9 hu.2.1.1 c
    have hw := my_w hm
    exact riN_ok ⟨hu.2.2.1.1, hw⟩ (my_p hm) (my_b hm) ⟨hu2, zbor_2048 ht ⟨zpw_nn _, zpw_lt (n := 11) (by omega) (by omega)⟩, hr⟩
  · rw [riM_n c]
    exact ⟨hu2, ht, hr⟩
theorem stM_9 {b : Int → Int} {s : DUS} (h0 : 0 ≤ s.2.1) (h : (stM b s).2.2.2.2 = -9) : s.2.2.2.2 = -9 := (duM_9 h0 h).1
theorem duM_at {f1 : Int → Int} {td : Int} {p : Prop} [Decidable p] {s : DUS} (h : okU td s) : s.1 ≤ (duM (btA f1 td) p s).1 := by
  by_cases e : s.2.2.2.2 = -9
  · by_cases hp : p
    · rw [duM_y e hp]
      exact (nxM_rng (tx := f1) (ln := td) (ax := s.1) h.1).1.1
    · rw [duM_f e hp]; exact Int.le_refl _
  · rw [duM_n e]; exact Int.le_refl _
theorem riN_adv {f1 : Int → Int} {td w : Int} {s : DUS} {tl : Int} {f2 f3 f4 f5 : Int → Int} (hu : okU td s) (h : (riN (btA f1 td) w s tl f2 f3 f4 f5).1.2.2.2.2 = -9) : s.2.2.1 = 12 ∧ s.1 ≤ (riN (btA f1 td) w s tl f2 f3 f4 f5).1.1 := by
  have hro : (roM (btA f1 td) s).2.2.2.2.2 = -9 → s.2.2.1 = 12 := fun q =>
    (duM_9 hu.2.1.1 (duM_9 (duM_ok hu).2.1.1 q).1).2.1
  have hrs : s.1 ≤ (roM (btA f1 td) s).2.1 := Int.le_trans (duM_at hu) (duM_at (duM_ok hu))
  by_cases c1 : w < 4
  · rw [riN_4 c1] at h ⊢
    exact ⟨(duM_9 hu.2.1.1 (stM_9 (duM_ok hu).2.1.1 h)).2.1, Int.le_trans (duM_at hu) (duM_at (duM_ok hu))⟩
  · by_cases c2 : w = 4
    · rw [riN_b c2] at h ⊢
      exact ⟨hro (stM_9 (roM_ok hu).2.1.1 h), Int.le_trans hrs (duM_at (roM_ok hu))⟩
    · by_cases c3 : w < 7
      · rw [riN_r ⟨by omega, c3⟩] at h ⊢
        exact ⟨hro (stM_9 (roM_ok hu).2.1.1 h), Int.le_trans hrs (duM_at (roM_ok hu))⟩
      · rw [riN_n (by omega) rfl rfl] at h ⊢
        exact ⟨(duM_9 hu.2.1.1 (stM_9 (duM_ok hu).2.1.1 h)).2.1, Int.le_trans (duM_at hu) (duM_at (duM_ok hu))⟩
theorem riM_adv {f1 : Int → Int} {td : Int} {s : DUS} {tl : Int} {f2 f3 f4 f5 : Int → Int} (hu : okU td s) (h9 : s.2.2.2.2 = -9) (h : (riM (btA f1 td) s tl f2 f3 f4 f5).1.2.2.2.2 = -9) : s.1 + 1 ≤ (riM (btA f1 td) s tl f2 f3 f4 f5).1.1 := by
  by_cases c : (duM (btA f1 td) (myP f2 tl s.2.2.1) s).2.2.2.2 = -9
  · rw [riM_y c] at h ⊢
    obtain ⟨-, hm⟩ := duM_9 hu.2.1.1 c
    obtain ⟨h12, hle⟩ := riN_adv (duM_ok hu) h
    refine Int.le_trans ?_ hle
    rw [duM_y h9 hm] at h12 ⊢
    exact (nxM_rng (tx := f1) (ln := td) (ax := s.1) hu.1).2.2.1 (by rw [show (nxM (btA f1 td) s.1).2.2.1 = 12 from h12]; decide)
  · rw [riM_n c] at h
    exact absurd h c
def rhM (b : Int → Int) : Nat → Int → RIS → Int × RIS
  | 0, i, S => (i, S)
  | n + 1, i, S => if S.1.2.2.2.2 = -9 ∧ S.1.2.2.1 ≠ 11 then rhM b n (i + 1) (riM b S.1 S.2.1 S.2.2.1 S.2.2.2.1 S.2.2.2.2.1 S.2.2.2.2.2) else (i, S)
def bgM (f2 : Int → Int) (d : Int) : Int → Int := zup (zup (zup (zup (zup (zup (zup (zup f2 (d + 0) 0) (d + 1) 0) (d + 2) 0) (d + 3) 0) (d + 4) (-9)) (d + 5) (-9)) (d + 6) 3) (d + 7) 2
def cqF (a : Int) : Nat → Int → (Int → Int) → (Int → Int)
  | 0, _, F => F
  | n + 1, k, F => cqF a n (k + 1) (zup F k (F (a + k)))
theorem cqF_at {a : Int} (ha : 0 < a) : ∀ (n : Nat) (k : Int) (F : Int → Int) (i : Int), cqF a n k F i = if k ≤ i ∧ i < k + n then F (a + i) else F i
  | 0, k, F, i => by rw [cqF, if_neg (by omega)]
  | n + 1, k, F, i => by
    rw [cqF, cqF_at ha n (k + 1) _ i]
    by_cases e : i = k
    · rw [if_neg (by omega), if_pos (by omega), e, zup_s]
    · by_cases c : k ≤ i ∧ i < k + (n + 1 : Nat)
      · rw [if_pos c, if_pos (by omega), zup_n F (by omega)]
      · rw [if_neg c, if_neg (by omega), zup_n F e]
def hnF (f4 : Int → Int) : Nat → Int → Int → Int
  | 0, _, a => a
  | n + 1, i, a => hnF f4 n (i + 1) (9 * a + f4 i)
def nwF (f6 : Int → Int) (h : Int) : Int → Int := zup (zup (zup (zup (zup f6 0 h) 1 0) 2 0) 3 0) 4 0
/-- what is behind house: the text's length, what was read, the present, what is kept -/
abbrev HSU : Type := Int × RIS × (Int → Int) × (Int → Int)
def rhA (b f2 f3 f4 f5 : Int → Int) : Int × RIS := rhM b 201 0 (((nxM b 0).1, (nxM b 0).2.1, (nxM b 0).2.2.1, (nxM b 0).2.2.2, -9), 0, bgM f2 8, f3, f4, f5)
def hsU (td : Int) (R : Int × RIS) (f6 f7 : Int → Int) : HSU :=
  if R.2.1.2.2.2.2 = -9 then (0, (R.2.1, R.2.2.1, cqF 8 8 0 R.2.2.2.1, cqF 4 4 0 R.2.2.2.2.1, cqF 4 4 0 R.2.2.2.2.2.1, cqF 2 2 0 R.2.2.2.2.2.2), nwF f6 (hnF (cqF 4 4 0 R.2.2.2.2.2.1) (cqF 8 8 0 R.2.2.2.1 0).toNat 0 0), zup (zup f7 0 0) 1 0)
  else (td, R.2, f6, f7)
theorem hsU_y {td : Int} {R : Int × RIS} {f6 f7 : Int → Int} (h : R.2.1.2.2.2.2 = -9) : hsU td R f6 f7 = (0, (R.2.1, R.2.2.1, cqF 8 8 0 R.2.2.2.1, cqF 4 4 0 R.2.2.2.2.1, cqF 4 4 0 R.2.2.2.2.2.1, cqF 2 2 0 R.2.2.2.2.2.2), nwF f6 (hnF (cqF 4 4 0 R.2.2.2.2.2.1) (cqF 8 8 0 R.2.2.2.1 0).toNat 0 0), zup (zup f7 0 0) 1 0) := if_pos h
theorem hsU_n {td : Int} {R : Int × RIS} {f6 f7 : Int → Int} (h : R.2.1.2.2.2.2 ≠ -9) : hsU td R f6 f7 = (td, R.2, f6, f7) := if_neg h
theorem bgM_8 (f2 : Int → Int) : bgM f2 8 8 = 0 ∧ bgM f2 8 9 = 0 ∧ bgM f2 8 10 = 0 ∧ bgM f2 8 11 = 0 ∧ bgM f2 8 12 = -9 ∧ bgM f2 8 13 = -9 ∧ bgM f2 8 14 = 3 ∧ bgM f2 8 15 = 2 := by
  unfold bgM zup
  simp
theorem bgM_lo (f2 : Int → Int) {i : Int} (h : i < 8) : bgM f2 8 i = f2 i := by
  unfold bgM
  rw [zup_n _ (by omega), zup_n _ (by omega), zup_n _ (by omega), zup_n _ (by omega), zup_n _ (by omega), zup_n _ (by omega), zup_n _ (by omega), zup_n _ (by omega)]
theorem okD_0 {f1 : Int → Int} {td : Int} {f2 f3 f4 f5 : Int → Int} (htd : 0 ≤ td) (h3 : ∀ i : Int, 0 ≤ i → i < 8 → 0 ≤ f3 i ∧ f3 i ≤ 3) (h4 : ∀ i : Int, 0 ≤ i → i < 8 → 0 ≤ f4 i ∧ f4 i ≤ 999) (h5 : ∀ i : Int, 0 ≤ i → i < 4 → 0 ≤ f5 i ∧ f5 i < 256) : okD td (((nxM (btA f1 td) 0).1, (nxM (btA f1 td) 0).2.1, (nxM (btA f1 td) 0).2.2.1, (nxM (btA f1 td) 0).2.2.2, -9), 0, bgM f2 8, f3, f4, f5) := by
  obtain ⟨h1, h2, -, h6, h7⟩ := nxM_rng (tx := f1) (ln := td) (ax := 0) ⟨by omega, htd⟩
  obtain ⟨b1, b2, b3, b4, -⟩ := bgM_8 f2
  refine ⟨⟨h1, h2, h6, h7, Or.inl rfl⟩, ⟨by show (0 : Int) ≤ 0; decide, by show (0 : Int) < 2048; decide⟩, ?_, ?_, ?_, ?_, h3, h4, h5⟩
  · show 0 ≤ bgM f2 8 8 ∧ bgM f2 8 8 ≤ 4
    rw [b1]; decide
  · show 0 ≤ bgM f2 8 9 ∧ bgM f2 8 9 ≤ 2
    rw [b2]; decide
  · show 0 ≤ bgM f2 8 10 ∧ bgM f2 8 10 < 256
    rw [b3]; decide
  · show 0 ≤ bgM f2 8 11 ∧ bgM f2 8 11 < 256
    rw [b4]; decide
theorem wb_sar (v : Int64) {k : Nat} (hk : k < 64) : (v >>> ((nI k).toInt64 &&& 63)).toBitVec = v.toBitVec.sshiftRight k := by
  rw [wb_c k hk]
  show BitVec.sshiftRight' v.toBitVec ((BitVec.ofNat 64 k).smod 64) = _
  rw [wb_sm k hk]
  show v.toBitVec.sshiftRight (BitVec.ofNat 64 k).toNat = _
  rw [BitVec.toNat_ofNat, Nat.mod_eq_of_lt (by omega)]
theorem wb_255 : ∀ j : Nat, j < 64 → (255 : Int64).toBitVec.getLsbD j = decide (j < 8) := by decide +kernel
theorem sg8_sx : ∀ x : Nat, x < 256 → (lN x).toInt32.toInt8.toInt32 = zI (sg8 (x : Int)) := by decide +kernel
theorem byS {v : Int64} {i : Int} (hi : 0 ≤ i ∧ i < 8) : (v >>> ((zI (8 * i)).toInt64 &&& 63) &&& 255).toInt32.toInt8.toInt32 = zI (sg8 (byL v i)) := by
  have e : zI (8 * i) = nI (8 * i.toNat) := by rw [zI_nn (by omega)]; congr 1; omega
  rw [e]
  have hk : 8 * i.toNat < 57 := by omega
  have hb : (v >>> ((nI (8 * i.toNat)).toInt64 &&& 63) &&& 255) = lN (v.toBitVec.toNat / 2 ^ (8 * i.toNat) % 256) := by
    generalize 8 * i.toNat = k at hk ⊢
    apply wb_inj
    rw [Int64.toBitVec_and, wb_sar v (by omega), wb_tb]
    apply BitVec.eq_of_getLsbD_eq
    intro j hj
    rw [BitVec.getLsbD_and, wb_255 j hj, BitVec.getLsbD_sshiftRight, BitVec.getLsbD_ofNat, show 256 = 2 ^ 8 from rfl, Nat.testBit_mod_two_pow, Nat.testBit_div_two_pow]
    by_cases h8 : j < 8
    · rw [if_pos (by omega), decide_eq_true h8, decide_eq_true hj, decide_eq_false (show ¬ 64 ≤ j by omega)]
      simp [BitVec.getLsbD, Nat.add_comm]
    · rw [decide_eq_false h8]
      simp
  rw [hb]
  unfold byL
  exact sg8_sx _ (Nat.mod_lt _ (by decide))
theorem sg8_nar : ∀ b : Nat, b < 256 → vp_nar .byte (zI (sg8 b)) = zI (sg8 b) := by decide +kernel
theorem sg8_na {b : Int} (h : 0 ≤ b ∧ b ≤ 255) : vp_nar .byte (zI (sg8 b)) = zI (sg8 b) := by
  have e := sg8_nar b.toNat (by omega)
  rwa [Int.toNat_of_nonneg h.1] at e
