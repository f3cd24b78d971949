/-! ===== the text, as numbers: b is the byte at a place (-1: none) ===== -/
def btA (tx : Int → Int) (ln i : Int) : Int := if 0 ≤ i ∧ i < ln ∧ i < 200 then tx i else -1
theorem btA_rng {tx : Int → Int} (htx : ∀ i : Int, 0 ≤ i → i < 200 → 0 ≤ tx i ∧ tx i ≤ 255) (ln i : Int) : -1 ≤ btA tx ln i ∧ btA tx ln i ≤ 255 := by
  unfold btA
  split
  · rename_i q
    have := htx i q.1 q.2.2
    omega
  · omega
theorem btA_end {tx : Int → Int} {ln i : Int} (h : ln ≤ i) : btA tx ln i = -1 := by unfold btA; rw [if_neg (by omega)]
theorem btA_nn {tx : Int → Int} {ln i : Int} (h : 0 ≤ btA tx ln i) : 0 ≤ i ∧ i < ln := by
  unfold btA at h
  split at h
  · omega
  · omega
def skF (b : Int → Int) : Nat → Int → Int
  | 0, i => i
  | n + 1, i => if b i = 32 then skF b n (i + 1) else i
def enF (b : Int → Int) : Nat → Int → Int
  | 0, i => i
  | n + 1, i => if 97 ≤ b i ∧ b i ≤ 122 then enF b n (i + 1) else i
def nuF (b : Int → Int) : Nat → Int → Int → Int × Int
  | 0, v, i => (v, i)
  | n + 1, v, i => if 48 ≤ b i ∧ b i ≤ 57 then nuF b n (min 100 (v * 10 + b i - 48)) (i + 1) else (v, i)
def chF (b : Int → Int) (ts : Int) (j : Nat) : Nat → Int → Bool
  | 0, _ => true
  | n + 1, k => decide (strC j k = b (ts + k)) && chF b ts j n (k + 1)
def spA (b : Int → Int) (ax ts : Int) (j : Nat) : Bool := decide (((strLen.getD j 0 : Nat) : Int) = ax - ts) && chF b ts j (strLen.getD j 0) 0
def spI (w : Int) : Nat := if 0 ≤ w ∧ w ≤ 9 then w.toNat else 10
theorem spI_lt (w : Int) : spI w < 11 := by unfold spI; split <;> omega
def wdF (b : Int → Int) (ax ts : Int) : Nat → Int → Int × Int → Int × Int
  | 0, _, s => s
  | n + 1, w, s => wdF b ax ts n (w + 1) (if spA b ax ts (spI w) = true then (1, w) else s)
abbrev TKS : Type := Int × Int × Int × Int
def ntA (b : Int → Int) (ax vl : Int) : TKS :=
  if b (skF b 201 ax) < 0 then (skF b 201 ax, skF b 201 ax, 0, vl)
  else if 97 ≤ b (skF b 201 ax) ∧ b (skF b 201 ax) ≤ 122 then
    (enF b 201 (skF b 201 ax), skF b 201 ax, wdF b (enF b 201 (skF b 201 ax)) (skF b 201 ax) 11 0 (4, vl))
  else if 48 ≤ b (skF b 201 ax) ∧ b (skF b 201 ax) ≤ 57 then
    ((nuF b 201 0 (skF b 201 ax)).2, skF b 201 ax, if (b (skF b 201 ax) = 48 ∧ 1 < (nuF b 201 0 (skF b 201 ax)).2 - skF b 201 ax) ∨ 99 < (nuF b 201 0 (skF b 201 ax)).1 then 4 else 2, (nuF b 201 0 (skF b 201 ax)).1)
  else (skF b 201 ax + 1, skF b 201 ax, if b (skF b 201 ax) = 59 then 3 else 4, vl)
def sfF (a : Int) : Nat → Int → Int → Int
  | 0, _, acc => acc
  | n + 1, i, acc => sfF a n (i + 1) (zbor acc (zpw ((a + i) % 8)))
theorem sfF_rng (a : Int) : ∀ (n : Nat) (i acc : Int), 0 ≤ acc ∧ acc < 256 → 0 ≤ sfF a n i acc ∧ sfF a n i acc < 256
  | 0, i, acc, h => h
  | n + 1, i, acc, h => by
    unfold sfF
    apply sfF_rng a n (i + 1)
    exact ⟨zbor_nn _ _, zbor_lt 8 (by omega) (zpw_lt (n := 8) (by omega) (by omega))⟩
def mbA (w P B vw no dt ht : Int) : Int := if w = 4 then zb (B < 2) else if w = 5 then 1 else if w = 6 then 1 else if w = 7 then zb (vw = -9) else if w = 8 then zb (no = -9) else if w = 9 then zb (dt = 0) else if w = 10 then zb (ht = 0) else zb (P < 4)
def mfA (w n P TH : Int) : Int := if 4 ≤ w ∧ w ≤ 8 then zb (0 ≤ n ∧ n < 8) else if w = 9 then zb (0 ≤ n ∧ n ≤ 4) else if w = 10 then zb (1 ≤ n ∧ n ≤ 9) else zb (n = 8 ∨ ((0 ≤ n ∧ n < 8) ∧ patF (pl TH) n P.toNat 0 = -9))
theorem mbA_bd (w P B vw no dt ht : Int) : -2147483648 ≤ mbA w P B vw no dt ht ∧ mbA w P B vw no dt ht < 2147483648 := by
  unfold mbA
  repeat' split
  all_goals first | exact zb_bd _ | omega
theorem mfA_bd (w n P TH : Int) : -2147483648 ≤ mfA w n P TH ∧ mfA w n P TH < 2147483648 := by
  unfold mfA
  repeat' split
  all_goals exact zb_bd _
/-- what a text told so far: sorts, beams' slots, panels, house, beams, rain, sun, view, noise, down, hands -/
abbrev PLS : Type := (Int → Int) × (Int → Int) × Int × Int × Int × Int × Int × Int × Int × Int × Int
def apA (w n sz dt ht : Int) (so bm : Int → Int) (P TH B ra su vw no dn ha : Int) : Int × Int × PLS :=
  if w = 4 then (dt, ht, so, zup bm B (sfF n sz.toNat 0 0), P, TH, B + 1, ra, su, vw, no, dn, ha)
  else if w = 5 then (dt, ht, so, bm, P, TH, B, zbor ra (sfF n sz.toNat 0 0), su, vw, no, dn, ha)
  else if w = 6 then (dt, ht, so, bm, P, TH, B, ra, zbor su (sfF n sz.toNat 0 0), vw, no, dn, ha)
  else if w = 7 then (dt, ht, so, bm, P, TH, B, ra, su, n, no, dn, ha)
  else if w = 8 then (dt, ht, so, bm, P, TH, B, ra, su, vw, n, dn, ha)
  else if w = 9 then (1, ht, so, bm, P, TH, B, ra, su, vw, no, n, ha)
  else if w = 10 then (dt, 1, so, bm, P, TH, B, ra, su, vw, no, dn, n)
  else (dt, ht, zup so P w, bm, P + 1, TH + n * un P, B, ra, su, vw, no, dn, ha)
theorem skF_rng {tx : Int → Int} {ln : Int} : ∀ (n : Nat) (i : Int), 0 ≤ i ∧ i ≤ ln → 0 ≤ skF (btA tx ln) n i ∧ i ≤ skF (btA tx ln) n i ∧ skF (btA tx ln) n i ≤ ln
  | 0, i, h => by unfold skF; omega
  | n + 1, i, h => by
    unfold skF
    split
    · rename_i q
      have h1 := btA_nn (tx := tx) (ln := ln) (i := i) (by omega)
      have := skF_rng (tx := tx) (ln := ln) n (i + 1) (by omega)
      omega
    · omega
theorem enF_rng {tx : Int → Int} {ln : Int} : ∀ (n : Nat) (i : Int), 0 ≤ i ∧ i ≤ ln → 0 ≤ enF (btA tx ln) n i ∧ i ≤ enF (btA tx ln) n i ∧ enF (btA tx ln) n i ≤ ln
  | 0, i, h => by unfold enF; omega
  | n + 1, i, h => by
    unfold enF
    split
    · rename_i q
      have h1 := btA_nn (tx := tx) (ln := ln) (i := i) (by omega)
      have := enF_rng (tx := tx) (ln := ln) n (i + 1) (by omega)
      omega
    · omega
theorem nuF_rng {tx : Int → Int} {ln : Int} : ∀ (n : Nat) (v i : Int), 0 ≤ i ∧ i ≤ ln → 0 ≤ v ∧ v ≤ 100 → (0 ≤ (nuF (btA tx ln) n v i).2 ∧ i ≤ (nuF (btA tx ln) n v i).2 ∧ (nuF (btA tx ln) n v i).2 ≤ ln) ∧ 0 ≤ (nuF (btA tx ln) n v i).1 ∧ (nuF (btA tx ln) n v i).1 ≤ 100
  | 0, v, i, h, hv => by unfold nuF; dsimp only; omega
  | n + 1, v, i, h, hv => by
    unfold nuF
    split
    · rename_i q
      have h1 := btA_nn (tx := tx) (ln := ln) (i := i) (by omega)
      have := nuF_rng (tx := tx) (ln := ln) n (min 100 (v * 10 + btA tx ln i - 48)) (i + 1) (by omega) (by omega)
      omega
    · dsimp only; omega
theorem wdF_rng (b : Int → Int) (ax ts : Int) : ∀ (n : Nat) (w : Int) (s : Int × Int), 0 ≤ w ∧ w + n ≤ 11 → (0 ≤ s.1 ∧ s.1 ≤ 4 ∧ (s.1 = 1 → 0 ≤ s.2 ∧ s.2 ≤ 10)) → (0 ≤ (wdF b ax ts n w s).1 ∧ (wdF b ax ts n w s).1 ≤ 4 ∧ ((wdF b ax ts n w s).1 = 1 → 0 ≤ (wdF b ax ts n w s).2 ∧ (wdF b ax ts n w s).2 ≤ 10))
  | 0, w, s, hw, h => h
  | n + 1, w, s, hw, h => by
    unfold wdF
    apply wdF_rng b ax ts n (w + 1) _ (by omega)
    split
    · dsimp only; omega
    · exact h
theorem ntA_rng {tx : Int → Int} {ln ax vl : Int} (h : 0 ≤ ax ∧ ax ≤ ln) (hv : 0 ≤ vl ∧ vl ≤ 100) :
    (0 ≤ (ntA (btA tx ln) ax vl).1 ∧ (ntA (btA tx ln) ax vl).1 ≤ ln) ∧ (0 ≤ (ntA (btA tx ln) ax vl).2.1 ∧ (ntA (btA tx ln) ax vl).2.1 ≤ ln) ∧ (0 ≤ (ntA (btA tx ln) ax vl).2.2.1 ∧ (ntA (btA tx ln) ax vl).2.2.1 ≤ 4) ∧ (0 ≤ (ntA (btA tx ln) ax vl).2.2.2 ∧ (ntA (btA tx ln) ax vl).2.2.2 ≤ 100) ∧ ((ntA (btA tx ln) ax vl).2.2.1 = 1 → (ntA (btA tx ln) ax vl).2.2.2 ≤ 10) ∧ ((ntA (btA tx ln) ax vl).2.2.1 = 2 → (ntA (btA tx ln) ax vl).2.2.2 ≤ 99) := by
  have hs := skF_rng (tx := tx) (ln := ln) 201 ax h
  unfold ntA
  generalize hk : skF (btA tx ln) 201 ax = k at hs ⊢
  split
  · dsimp only; omega
  · rename_i c1
    have hb := btA_nn (tx := tx) (ln := ln) (i := k) (by omega)
    split
    · have he := enF_rng (tx := tx) (ln := ln) 201 k (by omega)
      have hw : ∀ s : Int × Int, (0 ≤ s.2 ∧ s.2 ≤ 100) → (0 ≤ s.1 ∧ s.1 ≤ 4 ∧ s.1 ≠ 2 ∧ (s.1 = 1 → s.2 ≤ 10)) → ∀ (n : Nat) (w : Int), 0 ≤ w ∧ w + n ≤ 11 → (0 ≤ (wdF (btA tx ln) (enF (btA tx ln) 201 k) k n w s).2 ∧ (wdF (btA tx ln) (enF (btA tx ln) 201 k) k n w s).2 ≤ 100) ∧ (0 ≤ (wdF (btA tx ln) (enF (btA tx ln) 201 k) k n w s).1 ∧ (wdF (btA tx ln) (enF (btA tx ln) 201 k) k n w s).1 ≤ 4 ∧ (wdF (btA tx ln) (enF (btA tx ln) 201 k) k n w s).1 ≠ 2 ∧ ((wdF (btA tx ln) (enF (btA tx ln) 201 k) k n w s).1 = 1 → (wdF (btA tx ln) (enF (btA tx ln) 201 k) k n w s).2 ≤ 10)) := by
        intro s h1 h2 n
        induction n generalizing s with
        | zero => intro w _; unfold wdF; exact ⟨h1, h2⟩
        | succ n ih =>
          intro w hw
          unfold wdF
          apply ih _ _ _ (w + 1) (by omega)
          · split
            · dsimp only; omega
            · exact h1
          · split
            · dsimp only; omega
            · exact h2
      have hw2 := hw (4, vl) (by dsimp only; omega) (by dsimp only; omega) 11 0 (by omega)
      dsimp only
      omega
    · split
      · have hn := nuF_rng (tx := tx) (ln := ln) 201 0 k (by omega) (by omega)
        dsimp only
        split <;> omega
      · dsimp only
        split <;> omega
def itA (b : Int → Int) (ax ts tk vl dt ht : Int) (so bm : Int → Int) (P TH B ra su vw no dn ha : Int) : Bool × TKS × Int × Int × PLS :=
  if tk = 1 ∧ mbA vl P B vw no dt ht ≠ 0 then
    if (ntA b ax vl).2.2.1 = 2 ∧ mfA vl (ntA b ax vl).2.2.2 P TH ≠ 0 then
      if vl = 4 ∨ vl = 5 ∨ vl = 6 then
        if (ntA b (ntA b ax vl).1 (ntA b ax vl).2.2.2).2.2.1 = 2 ∧ 1 ≤ (ntA b (ntA b ax vl).1 (ntA b ax vl).2.2.2).2.2.2 ∧ (ntA b (ntA b ax vl).1 (ntA b ax vl).2.2.2).2.2.2 ≤ 8 then
          if (ntA b (ntA b (ntA b ax vl).1 (ntA b ax vl).2.2.2).1 (ntA b (ntA b ax vl).1 (ntA b ax vl).2.2.2).2.2.2).2.2.1 = 3 then
            (true, ntA b (ntA b (ntA b ax vl).1 (ntA b ax vl).2.2.2).1 (ntA b (ntA b ax vl).1 (ntA b ax vl).2.2.2).2.2.2, apA vl (ntA b ax vl).2.2.2 (ntA b (ntA b ax vl).1 (ntA b ax vl).2.2.2).2.2.2 dt ht so bm P TH B ra su vw no dn ha)
          else (false, ntA b (ntA b (ntA b ax vl).1 (ntA b ax vl).2.2.2).1 (ntA b (ntA b ax vl).1 (ntA b ax vl).2.2.2).2.2.2, dt, ht, so, bm, P, TH, B, ra, su, vw, no, dn, ha)
        else (false, ntA b (ntA b ax vl).1 (ntA b ax vl).2.2.2, dt, ht, so, bm, P, TH, B, ra, su, vw, no, dn, ha)
      else if (ntA b (ntA b ax vl).1 (ntA b ax vl).2.2.2).2.2.1 = 3 then
        (true, ntA b (ntA b ax vl).1 (ntA b ax vl).2.2.2, apA vl (ntA b ax vl).2.2.2 1 dt ht so bm P TH B ra su vw no dn ha)
      else (false, ntA b (ntA b ax vl).1 (ntA b ax vl).2.2.2, dt, ht, so, bm, P, TH, B, ra, su, vw, no, dn, ha)
    else (false, ntA b ax vl, dt, ht, so, bm, P, TH, B, ra, su, vw, no, dn, ha)
  else (false, (ax, ts, tk, vl), dt, ht, so, bm, P, TH, B, ra, su, vw, no, dn, ha)
abbrev TLS : Type := TKS × Int × Int × PLS
def itS (b : Int → Int) (S : TLS) : Bool × TLS := itA b S.1.1 S.1.2.1 S.1.2.2.1 S.1.2.2.2 S.2.1 S.2.2.1 S.2.2.2.1 S.2.2.2.2.1 S.2.2.2.2.2.1 S.2.2.2.2.2.2.1 S.2.2.2.2.2.2.2.1 S.2.2.2.2.2.2.2.2.1 S.2.2.2.2.2.2.2.2.2.1 S.2.2.2.2.2.2.2.2.2.2.1 S.2.2.2.2.2.2.2.2.2.2.2.1 S.2.2.2.2.2.2.2.2.2.2.2.2.1 S.2.2.2.2.2.2.2.2.2.2.2.2.2
def tlF (b : Int → Int) : Nat → Int → TLS → Int × TLS
  | 0, i, S => (i, S)
  | n + 1, i, S => if S.1.2.2.1 = 0 then (i, S) else
      if (itS b S).1 = true then tlF b n (i + 1) (ntA b (itS b S).2.1.1 (itS b S).2.1.2.2.2, (itS b S).2.2)
      else (-10 - (itS b S).2.1.2.1, (itS b S).2)
def tlA (b : Int → Int) (vl : Int) (so bm : Int → Int) : Int × TLS := tlF b 201 0 (ntA b 0 vl, 0, 0, so, bm, 0, 0, 0, 0, 0, -9, -9, 3, 2)
/-- what always holds of what a text told so far -/
def okK (ln : Int) (t : TKS) : Prop := (0 ≤ t.1 ∧ t.1 ≤ ln) ∧ (0 ≤ t.2.1 ∧ t.2.1 ≤ ln) ∧ (0 ≤ t.2.2.1 ∧ t.2.2.1 ≤ 4) ∧ (0 ≤ t.2.2.2 ∧ t.2.2.2 ≤ 100) ∧ (t.2.2.1 = 1 → t.2.2.2 ≤ 10) ∧ (t.2.2.1 = 2 → t.2.2.2 ≤ 99)
def okP (so bm : Int → Int) (P TH B ra su vw no dn ha : Int) : Prop :=
  (0 ≤ P ∧ P ≤ 4) ∧ (0 ≤ TH ∧ TH < 6561 ∧ TH % unS P = 0) ∧ (0 ≤ B ∧ B ≤ 2) ∧ (0 ≤ ra ∧ ra < 256) ∧ (0 ≤ su ∧ su < 256) ∧ (vw = -9 ∨ (0 ≤ vw ∧ vw < 8)) ∧ (no = -9 ∨ (0 ≤ no ∧ no < 8)) ∧ (0 ≤ dn ∧ dn ≤ 4) ∧ (1 ≤ ha ∧ ha ≤ 9) ∧ (∀ i : Int, 0 ≤ i → i < 4 → 0 ≤ so i ∧ so i ≤ 3) ∧ (∀ i : Int, 0 ≤ i → i < 2 → 0 ≤ bm i ∧ bm i < 256)
def okQ (dt ht : Int) (q : PLS) : Prop := ((0 ≤ dt ∧ dt ≤ 1) ∧ (0 ≤ ht ∧ ht ≤ 1)) ∧ okP q.1 q.2.1 q.2.2.1 q.2.2.2.1 q.2.2.2.2.1 q.2.2.2.2.2.1 q.2.2.2.2.2.2.1 q.2.2.2.2.2.2.2.1 q.2.2.2.2.2.2.2.2.1 q.2.2.2.2.2.2.2.2.2.1 q.2.2.2.2.2.2.2.2.2.2
def okT (ln : Int) (S : TLS) : Prop := okK ln S.1 ∧ okQ S.2.1 S.2.2.1 S.2.2.2
theorem ntA_ok {tx : Int → Int} {ln ax vl : Int} (h : 0 ≤ ax ∧ ax ≤ ln) (hv : 0 ≤ vl ∧ vl ≤ 100) : okK ln (ntA (btA tx ln) ax vl) := ntA_rng h hv
theorem okP_so {so bm : Int → Int} {P TH B ra su vw no dn ha w k : Int} (h : okP so bm P TH B ra su vw no dn ha) (hP : P < 4) (hw : 0 ≤ w ∧ w ≤ 3) (hk : 0 ≤ k ∧ k ≤ 8) : okP (zup so P w) bm (P + 1) (TH + k * un P) B ra su vw no dn ha := by
  obtain ⟨h1, h2, h3, h4, h5, h6, h7, h8, h9, h10, h11⟩ := h
  refine ⟨by omega, ?_, h3, h4, h5, h6, h7, h8, h9, ?_, h11⟩
  · have e : P = 0 ∨ P = 1 ∨ P = 2 ∨ P = 3 := by omega
    rcases e with e | e | e | e <;> subst e <;> simp only [unS, un] at h2 ⊢ <;> simp at h2 ⊢ <;> omega
  · intro i hi hi2
    unfold zup
    split
    · exact hw
    · exact h10 i hi hi2
theorem zbor_256 {a b : Int} (ha : 0 ≤ a ∧ a < 256) (hb : 0 ≤ b ∧ b < 256) : 0 ≤ zbor a b ∧ zbor a b < 256 := ⟨zbor_nn _ _, zbor_lt 8 (by omega) (by omega)⟩
theorem apA_ok {w n sz dt ht : Int} {so bm : Int → Int} {P TH B ra su vw no dn ha : Int} (hw : 0 ≤ w ∧ w ≤ 10) (h : okQ dt ht (so, bm, P, TH, B, ra, su, vw, no, dn, ha))
    (hB : w = 4 → B < 2) (hP : ¬ (4 ≤ w ∧ w ≤ 10) → P < 4 ∧ 0 ≤ n ∧ n ≤ 8) (hn : 4 ≤ w ∧ w ≤ 8 → 0 ≤ n ∧ n < 8) (h9 : w = 9 → 0 ≤ n ∧ n ≤ 4) (h10 : w = 10 → 1 ≤ n ∧ n ≤ 9) :
    okQ (apA w n sz dt ht so bm P TH B ra su vw no dn ha).1 (apA w n sz dt ht so bm P TH B ra su vw no dn ha).2.1 (apA w n sz dt ht so bm P TH B ra su vw no dn ha).2.2 := by
  have hsf := sfF_rng n sz.toNat 0 0 (by omega)
  obtain ⟨hf, hp⟩ := h
  have hp : okP so bm P TH B ra su vw no dn ha := hp
  unfold apA
  by_cases e4 : w = 4
  · rw [if_pos e4]
    obtain ⟨q1, q2, q3, q4, q5, q6, q7, q8, q9, q10, q11⟩ := hp
    have := hB e4
    refine ⟨hf, q1, q2, by dsimp only; omega, q4, q5, q6, q7, q8, q9, q10, ?_⟩
    intro i hi hi2
    dsimp only
    unfold zup
    split
    · exact hsf
    · exact q11 i hi hi2
  rw [if_neg e4]
  obtain ⟨q1, q2, q3, q4, q5, q6, q7, q8, q9, q10, q11⟩ := id hp
  by_cases e5 : w = 5
  · rw [if_pos e5]; exact ⟨hf, q1, q2, q3, zbor_256 q4 hsf, q5, q6, q7, q8, q9, q10, q11⟩
  rw [if_neg e5]
  by_cases e6 : w = 6
  · rw [if_pos e6]; exact ⟨hf, q1, q2, q3, q4, zbor_256 q5 hsf, q6, q7, q8, q9, q10, q11⟩
  rw [if_neg e6]
  by_cases e7 : w = 7
  · rw [if_pos e7]; exact ⟨hf, q1, q2, q3, q4, q5, Or.inr (hn (by omega)), q7, q8, q9, q10, q11⟩
  rw [if_neg e7]
  by_cases e8 : w = 8
  · rw [if_pos e8]; exact ⟨hf, q1, q2, q3, q4, q5, q6, Or.inr (hn (by omega)), q8, q9, q10, q11⟩
  rw [if_neg e8]
  by_cases e9 : w = 9
  · rw [if_pos e9]; exact ⟨⟨by dsimp only; omega, hf.2⟩, q1, q2, q3, q4, q5, q6, q7, h9 e9, q9, q10, q11⟩
  rw [if_neg e9]
  by_cases e10 : w = 10
  · rw [if_pos e10]; exact ⟨⟨hf.1, by dsimp only; omega⟩, q1, q2, q3, q4, q5, q6, q7, q8, h10 e10, q10, q11⟩
  rw [if_neg e10]
  have h3 := hP (by omega)
  exact ⟨hf, okP_so hp h3.1 (by omega) h3.2⟩
theorem mbA_4 {P B vw no dt ht : Int} (h : mbA 4 P B vw no dt ht ≠ 0) : B < 2 := by unfold mbA at h; rw [if_pos rfl] at h; exact zb_t h
theorem mbA_p {w P B vw no dt ht : Int} (hw : ¬ (4 ≤ w ∧ w ≤ 10)) (h : mbA w P B vw no dt ht ≠ 0) : P < 4 := by
  unfold mbA at h
  rw [if_neg (by omega), if_neg (by omega), if_neg (by omega), if_neg (by omega), if_neg (by omega), if_neg (by omega), if_neg (by omega)] at h
  exact zb_t h
theorem mfA_s {w n P TH : Int} (hw : 4 ≤ w ∧ w ≤ 8) (h : mfA w n P TH ≠ 0) : 0 ≤ n ∧ n < 8 := by unfold mfA at h; rw [if_pos hw] at h; exact zb_t h
theorem mfA_9 {n P TH : Int} (h : mfA 9 n P TH ≠ 0) : 0 ≤ n ∧ n ≤ 4 := by unfold mfA at h; rw [if_neg (by omega), if_pos rfl] at h; exact zb_t h
theorem mfA_10 {n P TH : Int} (h : mfA 10 n P TH ≠ 0) : 1 ≤ n ∧ n ≤ 9 := by unfold mfA at h; rw [if_neg (by omega), if_neg (by omega), if_pos rfl] at h; exact zb_t h
theorem mfA_p {w n P TH : Int} (hw : ¬ (4 ≤ w ∧ w ≤ 10)) (h : mfA w n P TH ≠ 0) : n = 8 ∨ ((0 ≤ n ∧ n < 8) ∧ patF (pl TH) n P.toNat 0 = -9) := by
  unfold mfA at h
  rw [if_neg (by omega), if_neg (by omega), if_neg (by omega)] at h
  exact zb_t h
theorem apA_ok2 {w n sz dt ht : Int} {so bm : Int → Int} {P TH B ra su vw no dn ha : Int} (hw : 0 ≤ w ∧ w ≤ 10) (h : okQ dt ht (so, bm, P, TH, B, ra, su, vw, no, dn, ha)) (h1 : mbA w P B vw no dt ht ≠ 0) (h2 : mfA w n P TH ≠ 0) :
    okQ (apA w n sz dt ht so bm P TH B ra su vw no dn ha).1 (apA w n sz dt ht so bm P TH B ra su vw no dn ha).2.1 (apA w n sz dt ht so bm P TH B ra su vw no dn ha).2.2 :=
  apA_ok hw h (fun e => mbA_4 (by rw [e] at h1; exact h1)) (fun q => ⟨mbA_p q h1, by have := mfA_p q h2; omega⟩) (fun q => mfA_s q h2) (fun e => mfA_9 (by rw [e] at h2; exact h2)) (fun e => mfA_10 (by rw [e] at h2; exact h2))
theorem itS_ok {tx : Int → Int} {ln : Int} {S : TLS} (h : okT ln S) : okT ln (itS (btA tx ln) S).2 := by
  obtain ⟨⟨ax, ts, tk, vl⟩, dt, ht, so, bm, P, TH, B, ra, su, vw, no, dn, ha⟩ := S
  obtain ⟨hk, hq⟩ := h
  have hk : okK ln (ax, ts, tk, vl) := hk
  have hq : okQ dt ht (so, bm, P, TH, B, ra, su, vw, no, dn, ha) := hq
  show okT ln (itA (btA tx ln) ax ts tk vl dt ht so bm P TH B ra su vw no dn ha).2
  obtain ⟨k1, k2, k3, k4, k5, k6⟩ := id hk
  dsimp only at k1 k2 k3 k4 k5 k6
  have t1 := ntA_ok (tx := tx) (ln := ln) (ax := ax) (vl := vl) k1 k4
  have t2 := ntA_ok (tx := tx) (ln := ln) t1.1 t1.2.2.2.1
  have t3 := ntA_ok (tx := tx) (ln := ln) t2.1 t2.2.2.2.1
  unfold itA
  split
  · rename_i c1
    split
    · rename_i c2
      have hap : ∀ sz, okQ (apA vl (ntA (btA tx ln) ax vl).2.2.2 sz dt ht so bm P TH B ra su vw no dn ha).1 (apA vl (ntA (btA tx ln) ax vl).2.2.2 sz dt ht so bm P TH B ra su vw no dn ha).2.1 (apA vl (ntA (btA tx ln) ax vl).2.2.2 sz dt ht so bm P TH B ra su vw no dn ha).2.2 := fun sz => apA_ok2 (by omega) hq c1.2 c2.2
      split
      · split
        · split
          · exact ⟨t3, hap _⟩
          · exact ⟨t3, hq⟩
        · exact ⟨t2, hq⟩
      · split
        · exact ⟨t2, hap _⟩
        · exact ⟨t2, hq⟩
    · exact ⟨t1, hq⟩
  · exact ⟨hk, hq⟩
theorem tlF_ok {tx : Int → Int} {ln : Int} : ∀ (n : Nat) (i : Int) (S : TLS), okT ln S → okT ln (tlF (btA tx ln) n i S).2
  | 0, i, S, h => h
  | n + 1, i, S, h => by
    unfold tlF
    split
    · exact h
    · have h2 := itS_ok (tx := tx) h
      split
      · exact tlF_ok n (i + 1) _ ⟨ntA_ok h2.1.1 h2.1.2.2.2.1, h2.2⟩
      · exact h2
theorem okT_0 {tx : Int → Int} {ln vl : Int} {so bm : Int → Int} (hl : 0 ≤ ln) (hv : 0 ≤ vl ∧ vl ≤ 100) (hso : ∀ i : Int, 0 ≤ i → i < 4 → 0 ≤ so i ∧ so i ≤ 3) (hbm : ∀ i : Int, 0 ≤ i → i < 2 → 0 ≤ bm i ∧ bm i < 256) : okT ln (ntA (btA tx ln) 0 vl, 0, 0, so, bm, 0, 0, 0, 0, 0, -9, -9, 3, 2) :=
  have hp : okP so bm 0 0 0 0 0 (-9) (-9) 3 2 := ⟨by omega, ⟨by omega, by omega, Int.zero_emod _⟩, by omega, by omega, by omega, Or.inl rfl, Or.inl rfl, by omega, by omega, hso, hbm⟩
  ⟨ntA_ok (by omega) hv, ⟨by dsimp only; omega, hp⟩⟩
theorem tlA_ok {tx : Int → Int} {ln vl : Int} {so bm : Int → Int} (hl : 0 ≤ ln) (hv : 0 ≤ vl ∧ vl ≤ 100) (hso : ∀ i : Int, 0 ≤ i → i < 4 → 0 ≤ so i ∧ so i ≤ 3) (hbm : ∀ i : Int, 0 ≤ i → i < 2 → 0 ≤ bm i ∧ bm i < 256) : okT ln (tlA (btA tx ln) vl so bm).2 := tlF_ok _ _ _ (okT_0 hl hv hso hbm)
theorem zI_min {x y : Int} (hx : -2147483648 ≤ x ∧ x < 2147483648) (hy : -2147483648 ≤ y ∧ y < 2147483648) : (if zI y < zI x then zI y else zI x) = zI (min x y) := by
  by_cases q : y < x
  · rw [if_pos ((zI_lt hy hx).mpr q)]; congr 1; omega
  · rw [if_neg (fun w => q ((zI_lt hy hx).mp w))]; congr 1; omega
theorem ap_side {w n sz P TH B vw no dt ht : Int} (hw : 0 ≤ w ∧ w ≤ 10) (hB : 0 ≤ B) (hP : 0 ≤ P) (h1 : mbA w P B vw no dt ht ≠ 0) (h2 : mfA w n P TH ≠ 0) (h3 : 4 ≤ w ∧ w ≤ 6 → 0 ≤ sz ∧ sz ≤ 8) :
    (w = 4 → 0 ≤ B ∧ B < 2) ∧ (¬ (4 ≤ w ∧ w ≤ 10) → 0 ≤ P ∧ P < 4) ∧ (4 ≤ w ∧ w ≤ 6 → (0 ≤ n ∧ n < 8) ∧ (0 ≤ sz ∧ sz ≤ 8)) :=
  ⟨fun e => ⟨hB, mbA_4 (by rw [e] at h1; exact h1)⟩, fun q => ⟨hP, mbA_p q h1⟩, fun q => ⟨mfA_s (by omega) h2, h3 q⟩⟩
