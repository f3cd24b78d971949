/-! ===== the text, as numbers: b is the byte at a place (-1: none) ===== -/
def btA (tx : Int → Int) (ln i : Int) : Int := if 0 ≤ i ∧ i < ln ∧ i < 200 then tx i else -1
theorem btA_rng {tx : Int → Int} (htx : ∀ i : Int, 0 ≤ i → i < 200 → 0 ≤ tx i ∧ tx i ≤ 255) (ln i : Int) : -1 ≤ btA tx ln i ∧ btA tx ln i ≤ 255 := by
  unfold btA
  split
  · rename_i q
    have := htx i q.1 q.2.2
    omega
  · omega
theorem btA_end {tx : Int → Int} {ln i : Int} (h : ln ≤ i) : btA tx ln i = -1 := by unfold btA; rw [if_neg (by omega)]
theorem btA_nn {tx : Int → Int} {ln i : Int} (h : 0 ≤ btA tx ln i) : 0 ≤ i ∧ i < ln := by
  unfold btA at h
  split at h
  · omega
  · omega
def skF (b : Int → Int) : Nat → Int → Int
  | 0, i => i
  | n + 1, i => if b i = 32 then skF b n (i + 1) else i
def enF (b : Int → Int) : Nat → Int → Int
  | 0, i => i
  | n + 1, i => if 97 ≤ b i ∧ b i ≤ 122 then enF b n (i + 1) else i
def nuF (b : Int → Int) : Nat → Int → Int → Int × Int
  | 0, v, i => (v, i)
  | n + 1, v, i => if 48 ≤ b i ∧ b i ≤ 57 then nuF b n (min 100 (v * 10 + b i - 48)) (i + 1) else (v, i)
def chF (b : Int → Int) (ts : Int) (j : Nat) : Nat → Int → Bool
  | 0, _ => true
  | n + 1, k => decide (strC j k = b (ts + k)) && chF b ts j n (k + 1)
def spA (b : Int → Int) (ax ts : Int) (j : Nat) : Bool := decide (((strLen.getD j 0 : Nat) : Int) = ax - ts) && chF b ts j (strLen.getD j 0) 0
def spI (w : Int) : Nat := if 0 ≤ w ∧ w ≤ 9 then w.toNat else 10
theorem spI_lt (w : Int) : spI w < 11 := by unfold spI; split <;> omega
def wdF (b : Int → Int) (ax ts : Int) : Nat → Int → Int × Int → Int × Int
  | 0, _, s => s
  | n + 1, w, s => wdF b ax ts n (w + 1) (if spA b ax ts (spI w) = true then (1, w) else s)
abbrev TKS : Type := Int × Int × Int × Int
def ntA (b : Int → Int) (ax vl : Int) : TKS :=
  if b (skF b 201 ax) < 0 then (skF b 201 ax, skF b 201 ax, 0, vl)
  else if 97 ≤ b (skF b 201 ax) ∧ b (skF b 201 ax) ≤ 122 then
    (enF b 201 (skF b 201 ax), skF b 201 ax, wdF b (enF b 201 (skF b 201 ax)) (skF b 201 ax) 11 0 (4, vl))
  else if 48 ≤ b (skF b 201 ax) ∧ b (skF b 201 ax) ≤ 57 then
    ((nuF b 201 0 (skF b 201 ax)).2, skF b 201 ax, if (b (skF b 201 ax) = 48 ∧ 1 < (nuF b 201 0 (skF b 201 ax)).2 - skF b 201 ax) ∨ 99 < (nuF b 201 0 (skF b 201 ax)).1 then 4 else 2, (nuF b 201 0 (skF b 201 ax)).1)
  else (skF b 201 ax + 1, skF b 201 ax, if b (skF b 201 ax) = 59 then 3 else 4, vl)
def sfF (a : Int) : Nat → Int → Int → Int
  | 0, _, acc => acc
  | n + 1, i, acc => sfF a n (i + 1) (zbor acc (zpw ((a + i) % 8)))
theorem sfF_rng (a : Int) : ∀ (n : Nat) (i acc : Int), 0 ≤ acc ∧ acc < 256 → 0 ≤ sfF a n i acc ∧ sfF a n i acc < 256
  | 0, i, acc, h => h
  | n + 1, i, acc, h => by
    unfold sfF
    apply sfF_rng a n (i + 1)
    exact ⟨zbor_nn _ _, zbor_lt 8 (by omega) (zpw_lt (n := 8) (by omega) (by omega))⟩
def mbA (w P B vw no dt ht : Int) : Int := if w = 4 then zb (B < 2) else if w = 5 then 1 else if w = 6 then 1 else if w = 7 then zb (vw = -9) else if w = 8 then zb (no = -9) else if w = 9 then zb (dt = 0) else if w = 10 then zb (ht = 0) else zb (P < 4)
def mfA (w n P TH : Int) : Int := if 4 ≤ w ∧ w ≤ 8 then zb (0 ≤ n ∧ n < 8) else if w = 9 then zb (0 ≤ n ∧ n ≤ 4) else if w = 10 then zb (1 ≤ n ∧ n ≤ 9) else zb (n = 8 ∨ ((0 ≤ n ∧ n < 8) ∧ patF (pl TH) n P.toNat 0 = -9))
theorem mbA_bd (w P B vw no dt ht : Int) : -2147483648 ≤ mbA w P B vw no dt ht ∧ mbA w P B vw no dt ht < 2147483648 := by
  unfold mbA
  repeat' split
  all_goals first | exact zb_bd _ | omega
theorem mfA_bd (w n P TH : Int) : -2147483648 ≤ mfA w n P TH ∧ mfA w n P TH < 2147483648 := by
  unfold mfA
  repeat' split
  all_goals exact zb_bd _
/-- what a text told so far: sorts, beams' slots, panels, house, beams, rain, sun, view, noise, down, hands -/
abbrev PLS : Type := (Int → Int) × (Int → Int) × Int × Int × Int × Int × Int × Int × Int × Int × Int
def apA (w n sz dt ht : Int) (so bm : Int → Int) (P TH B ra su vw no dn ha : Int) : Int × Int × PLS :=
  if w = 4 then (dt, ht, so, zup bm B (sfF n sz.toNat 0 0), P, TH, B + 1, ra, su, vw, no, dn, ha)
  else if w = 5 then (dt, ht, so, bm, P, TH, B, zbor ra (sfF n sz.toNat 0 0), su, vw, no, dn, ha)
  else if w = 6 then (dt, ht, so, bm, P, TH, B, ra, zbor su (sfF n sz.toNat 0 0), vw, no, dn, ha)
  else if w = 7 then (dt, ht, so, bm, P, TH, B, ra, su, n, no, dn, ha)
  else if w = 8 then (dt, ht, so, bm, P, TH, B, ra, su, vw, n, dn, ha)
  else if w = 9 then (1, ht, so, bm, P, TH, B, ra, su, vw, no, n, ha)
  else if w = 10 then (dt, 1, so, bm, P, TH, B, ra, su, vw, no, dn, n)
  else (dt, ht, zup so P w, bm, P + 1, TH + n * un P, B, ra, su, vw, no, dn, ha)
theorem skF_rng {tx : Int → Int} {ln : Int} : ∀ (n : Nat) (i : Int), 0 ≤ i ∧ i ≤ ln → 0 ≤ skF (btA tx ln) n i ∧ i ≤ skF (btA tx ln) n i ∧ skF (btA tx ln) n i ≤ ln
  | 0, i, h => by unfold skF; omega
  | n + 1, i, h => by
    unfold skF
    split
    · rename_i q
      have h1 := btA_nn (tx := tx) (ln := ln) (i := i) (by omega)
      have := skF_rng (tx := tx) (ln := ln) n (i + 1) (by omega)
      omega
    · omega
theorem enF_rng {tx : Int → Int} {ln : Int} : ∀ (n : Nat) (i : Int), 0 ≤ i ∧ i ≤ ln → 0 ≤ enF (btA tx ln) n i ∧ i ≤ enF (btA tx ln) n i ∧ enF (btA tx ln) n i ≤ ln
  | 0, i, h => by unfold enF; omega
  | n + 1, i, h => by
    unfold enF
    split
    · rename_i q
      have h1 := btA_nn (tx := tx) (ln := ln) (i := i) (by omega)
      have := enF_rng (tx := tx) (ln := ln) n (i + 1) (by omega)
      omega
    · omega
theorem nuF_rng {tx : Int → Int} {ln : Int} : ∀ (n : Nat) (v i : Int), 0 ≤ i ∧ i ≤ ln → 0 ≤ v ∧ v ≤ 100 → (0 ≤ (nuF (btA tx ln) n v i).2 ∧ i ≤ (nuF (btA tx ln) n v i).2 ∧ (nuF (btA tx ln) n v i).2 ≤ ln) ∧ 0 ≤ (nuF (btA tx ln) n v i).1 ∧ (nuF (btA tx ln) n v i).1 ≤ 100
  | 0, v, i, h, hv => by unfold nuF; dsimp only; omega
  | n + 1, v, i, h, hv => by
    unfold nuF
    split
    · rename_i q
      have h1 := btA_nn (tx := tx) (ln := ln) (i := i) (by omega)
      have := nuF_rng (tx := tx) (ln := ln) n (min 100 (v * 10 + btA tx ln i - 48)) (i + 1) (by omega) (by omega)
      omega
    · dsimp only; omega
theorem wdF_rng (b : Int → Int) (ax ts : Int) : ∀ (n : Nat) (w : Int) (s : Int × Int), 0 ≤ w ∧ w + n ≤ 11 → (0 ≤ s.1 ∧ s.1 ≤ 4 ∧ (s.1 = 1 → 0 ≤ s.2 ∧ s.2 ≤ 10)) → (0 ≤ (wdF b ax ts n w s).1 ∧ (wdF b ax ts n w s).1 ≤ 4 ∧ ((wdF b ax ts n w s).1 = 1 → 0 ≤ (wdF b ax ts n w s).2 ∧ (wdF b ax ts n w s).2 ≤ 10))
  | 0, w, s, hw, h => h
  | n + 1, w, s, hw, h => by
    unfold wdF
    apply wdF_rng b ax ts n (w + 1) _ (by omega)
    split
    · dsimp only; omega
    · exact h
theorem ntA_rng {tx : Int → Int} {ln ax vl : Int} (h : 0 ≤ ax ∧ ax ≤ ln) (hv : 0 ≤ vl ∧ vl ≤ 100) :
    (0 ≤ (ntA (btA tx ln) ax vl).1 ∧ (ntA (btA tx ln) ax vl).1 ≤ ln) ∧ (0 ≤ (ntA (btA tx ln) ax vl).2.1 ∧ (ntA (btA tx ln) ax vl).2.1 ≤ ln) ∧ (0 ≤ (ntA (btA tx ln) ax vl).2.2.1 ∧ (ntA (btA tx ln) ax vl).2.2.1 ≤ 4) ∧ (0 ≤ (ntA (btA tx ln) ax vl).2.2.2 ∧ (ntA (btA tx ln) ax vl).2.2.2 ≤ 100) ∧ ((ntA (btA tx ln) ax vl).2.2.1 = 1 → (ntA (btA tx ln) ax vl).2.2.2 ≤ 10) ∧ ((ntA (btA tx ln) ax vl).2.2.1 = 2 → (ntA (btA tx ln) ax vl).2.2.2 ≤ 99) := by
  have hs := skF_rng (tx := tx) (ln := ln) 201 ax h
  unfold ntA
  generalize hk : skF (btA tx ln) 201 ax = k at hs ⊢
  split
  · dsimp only; omega
  · rename_i c1
    have hb := btA_nn (tx := tx) (ln := ln) (i := k) (by omega)
    split
    · have he := enF_rng (tx := tx) (ln := ln) 201 k (by omega)
      have hw : ∀ s : Int × Int, (0 ≤ s.2 ∧ s.2 ≤ 100) → (0 ≤ s.1 ∧ s.1 ≤ 4 ∧ s.1 ≠ 2 ∧ (s.1 = 1 → s.2 ≤ 10)) → ∀ (n : Nat) (w : Int), 0 ≤ w ∧ w + n ≤ 11 → (0 ≤ (wdF (btA tx ln) (enF (btA tx ln) 201 k) k n w s).2 ∧ (wdF (btA tx ln) (enF (btA tx ln) 201 k) k n w s).2 ≤ 100) ∧ (0 ≤ (wdF (btA tx ln) (enF (btA tx ln) 201 k) k n w s).1 ∧ (wdF (btA tx ln) (enF (btA tx ln) 201 k) k n w s).1 ≤ 4 ∧ (wdF (btA tx ln) (enF (btA tx ln) 201 k) k n w s).1 ≠ 2 ∧ ((wdF (btA tx ln) (enF (btA tx ln) 201 k) k n w s).1 = 1 → (wdF (btA tx ln) (enF (btA tx ln) 201 k) k n w s).2 ≤ 10)) := by
        intro s h1 h2 n
        induction n generalizing s with
        | zero => intro w _; unfold wdF; exact ⟨h1, h2⟩
        | succ n ih =>
          intro w hw
          unfold wdF
          apply ih _ _ _ (w + 1) (by omega)
          · split
            · dsimp only; omega
            · exact h1
          · split
            · dsimp only; omega
            · exact h2
      have hw2 := hw (4, vl) (by dsimp only; omega) (by dsimp only; omega) 11 0 (by omega)
      dsimp only
      omega
    · split
      · have hn := nuF_rng (tx := tx) (ln := ln) 201 0 k (by omega) (by omega)
        dsimp only
        split <;> omega
      · dsimp only
        split <;> omega
def itA (b : Int → Int) (ax ts tk vl dt ht : Int) (so bm : Int → Int) (P TH B ra su vw no dn ha : Int) : Bool × TKS × Int × Int × PLS :=
  if tk = 1 ∧ mbA vl P B vw no dt ht ≠ 0 then
    if (ntA b ax vl).2.2.1 = 2 ∧ mfA vl (ntA b ax vl).2.2.2 P TH ≠ 0 then
      if vl = 4 ∨ vl = 5 ∨ vl = 6 then
        if (ntA b (ntA b ax vl).1 (ntA b ax vl).2.2.2).2.2.1 = 2 ∧ 1 ≤ (ntA b (ntA b ax vl).1 (ntA b ax vl).2.2.2).2.2.2 ∧ (ntA b (ntA b ax vl).1 (ntA b ax vl).2.2.2).2.2.2 ≤ 8 then
          if (ntA b (ntA b (ntA b ax vl).1 (ntA b ax vl).2.2.2).1 (ntA b (ntA b ax vl).1 (ntA b ax vl).2.2.2).2.2.2).2.2.1 = 3 then
            (true, ntA b (ntA b (ntA b ax vl).1 (ntA b ax vl).2.2.2).1 (ntA b (ntA b ax vl).1 (ntA b ax vl).2.2.2).2.2.2, apA vl (ntA b ax vl).2.2.2 (ntA b (ntA b ax vl).1 (ntA b ax vl).2.2.2).2.2.2 dt ht so bm P TH B ra su vw no dn ha)
          else (false, ntA b (ntA b (ntA b ax vl).1 (ntA b ax vl).2.2.2).1 (ntA b (ntA b ax vl).1 (ntA b ax vl).2.2.2).2.2.2, dt, ht, so, bm, P, TH, B, ra, su, vw, no, dn, ha)
        else (false, ntA b (ntA b ax vl).1 (ntA b ax vl).2.2.2, dt, ht, so, bm, P, TH, B, ra, su, vw, no, dn, ha)
      else if (ntA b (ntA b ax vl).1 (ntA b ax vl).2.2.2).2.2.1 = 3 then
        (true, ntA b (ntA b ax vl).1 (ntA b ax vl).2.2.2, apA vl (ntA b ax vl).2.2.2 1 dt ht so bm P TH B ra su vw no dn ha)
      else (false, ntA b (ntA b ax vl).1 (ntA b ax vl).2.2.2, dt, ht, so, bm, P, TH, B, ra, su, vw, no, dn, ha)
    else (false, ntA b ax vl, dt, ht, so, bm, P, TH, B, ra, su, vw, no, dn, ha)
  else (false, (ax, ts, tk, vl), dt, ht, so, bm, P, TH, B, ra, su, vw, no, dn, ha)
abbrev TLS : Type := TKS × Int × Int × PLS
def itS (b : Int → Int) (S : TLS) : Bool × TLS := itA b S.1.1 S.1.2.1 S.1.2.2.1 S.1.2.2.2 S.2.1 S.2.2.1 S.2.2.2.1 S.2.2.2.2.1 S.2.2.2.2.2.1 S.2.2.2.2.2.2.1 S.2.2.2.2.2.2.2.1 S.2.2.2.2.2.2.2.2.1 S.2.2.2.2.2.2.2.2.2.1 S.2.2.2.2.2.2.2.2.2.2.1 S.2.2.2.2.2.2.2.2.2.2.2.1 S.2.2.2.2.2.2.2.2.2.2.2.2.1 S.2.2.2.2.2.2.2.2.2.2.2.2.2
def tlF (b : Int → Int) : Nat → Int → TLS → Int × TLS
  | 0, i, S => (i, S)
  | n + 1, i, S => if S.1.2.2.1 = 0 then (i, S) else
      if (itS b S).1 = true then tlF b n (i + 1) (ntA b (itS b S).2.1.1 (itS b S).2.1.2.2.2, (itS b S).2.2)
      else (-10 - (itS b S).2.1.2.1, (itS b S).2)
def tlA (b : Int → Int) (vl : Int) (so bm : Int → Int) : Int × TLS := tlF b 201 0 (ntA b 0 vl, 0, 0, so, bm, 0, 0, 0, 0, 0, -9, -9, 3, 2)
/-- what always holds of what a text told so far -/
def okT (ln : Int) (S : TLS) : Prop :=
  ((0 ≤ S.1.1 ∧ S.1.1 ≤ ln) ∧ (0 ≤ S.1.2.1 ∧ S.1.2.1 ≤ ln) ∧ (0 ≤ S.1.2.2.1 ∧ S.1.2.2.1 ≤ 4) ∧ (0 ≤ S.1.2.2.2 ∧ S.1.2.2.2 ≤ 100) ∧ (S.1.2.2.1 = 1 → S.1.2.2.2 ≤ 10)) ∧
  ((0 ≤ S.2.1 ∧ S.2.1 ≤ 1) ∧ (0 ≤ S.2.2.1 ∧ S.2.2.1 ≤ 1)) ∧
  ((∀ i : Int, 0 ≤ i → i < 4 → 0 ≤ S.2.2.2.1 i ∧ S.2.2.2.1 i ≤ 3) ∧ (∀ i : Int, 0 ≤ i → i < 2 → 0 ≤ S.2.2.2.2.1 i ∧ S.2.2.2.2.1 i < 256)) ∧
  ((0 ≤ S.2.2.2.2.2.1 ∧ S.2.2.2.2.2.1 ≤ 4) ∧ (0 ≤ S.2.2.2.2.2.2.1 ∧ S.2.2.2.2.2.2.1 < 6561 ∧ S.2.2.2.2.2.2.1 % unS S.2.2.2.2.2.1 = 0) ∧ (0 ≤ S.2.2.2.2.2.2.2.1 ∧ S.2.2.2.2.2.2.2.1 ≤ 2)) ∧
  ((0 ≤ S.2.2.2.2.2.2.2.2.1 ∧ S.2.2.2.2.2.2.2.2.1 < 256) ∧ (0 ≤ S.2.2.2.2.2.2.2.2.2.1 ∧ S.2.2.2.2.2.2.2.2.2.1 < 256)) ∧
  ((S.2.2.2.2.2.2.2.2.2.2.1 = -9 ∨ (0 ≤ S.2.2.2.2.2.2.2.2.2.2.1 ∧ S.2.2.2.2.2.2.2.2.2.2.1 < 8)) ∧ (S.2.2.2.2.2.2.2.2.2.2.2.1 = -9 ∨ (0 ≤ S.2.2.2.2.2.2.2.2.2.2.2.1 ∧ S.2.2.2.2.2.2.2.2.2.2.2.1 < 8))) ∧
  ((0 ≤ S.2.2.2.2.2.2.2.2.2.2.2.2.1 ∧ S.2.2.2.2.2.2.2.2.2.2.2.2.1 ≤ 4) ∧ (1 ≤ S.2.2.2.2.2.2.2.2.2.2.2.2.2 ∧ S.2.2.2.2.2.2.2.2.2.2.2.2.2 ≤ 9))
theorem zI_min {x y : Int} (hx : -2147483648 ≤ x ∧ x < 2147483648) (hy : -2147483648 ≤ y ∧ y < 2147483648) : (if zI y < zI x then zI y else zI x) = zI (min x y) := by
  by_cases q : y < x
  · rw [if_pos ((zI_lt hy hx).mpr q)]; congr 1; omega
  · rw [if_neg (fun w => q ((zI_lt hy hx).mp w))]; congr 1; omega
