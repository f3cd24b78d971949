/-! ===== the reference: searches (draft, not yet compiled) ===== -/
theorem kfM_ok {f2 f3 f5 : Int → Int} {h p i : Int} (hP : f2 0 ≤ 4) (hp : 0 ≤ p ∧ p < f2 0) : ∀ (n : Nat) (k : Int) (S : BQ), 0 ≤ k → k + n ≤ 9 → qkM (f2 0) S → (0 ≤ i ∧ i < S.2.1) → h = S.1 i → (0 ≤ h ∧ h < pw9 (f2 0)) →
    qkM (f2 0) (kfM f2 f3 f5 h p n k S) ∧ i < (kfM f2 f3 f5 h p n k S).2.1 ∧ (kfM f2 f3 f5 h p n k S).1 i = h
  | 0, k, S, _, _, hq, hi, hh, _ => ⟨hq, hi.2, hh.symm⟩
  | n + 1, k, S, h1, h2, hq, hi, hh, hr => by
    rw [kfM]
    by_cases c : moM (f2 0) h p k ∧ lwM f2 f3 f5 (wtI (f2 0) h p k) = true
    · rw [if_pos c]
      have hw := wtI_rng (k := k) hP hr hp (by omega)
      obtain ⟨-, -, b3, b4⟩ := hq.2.1 i hi.1 hi.2
      rw [← hh] at b3 b4
      obtain ⟨r1, r2, r3⟩ := rcM_ok (n := S.2.2 h + 1) hP hq hw (by omega)
      exact kfM_ok hP hp n (k + 1) _ (by omega) (by omega) r1 ⟨hi.1, by omega⟩ (by rw [r3 i hi.2]; exact hh) hr
    · rw [if_neg c]
      exact kfM_ok hP hp n (k + 1) S (by omega) (by omega) hq hi hh hr
theorem pfM_ok {f2 f3 f5 : Int → Int} {most h i : Int} (hP : f2 0 ≤ 4) : ∀ (n : Nat) (p : Int) (S : BQ), 0 ≤ p → p + n ≤ f2 0 → qkM (f2 0) S → (0 ≤ i ∧ i < S.2.1) → h = S.1 i → (0 ≤ h ∧ h < pw9 (f2 0)) →
    qkM (f2 0) (pfM f2 f3 f5 most h n p S)
  | 0, p, S, _, _, hq, _, _, _ => hq
  | n + 1, p, S, h1, h2, hq, hi, hh, hr => by
    rw [pfM]
    by_cases c : S.2.2 h < most
    · rw [if_pos c]
      obtain ⟨r1, r2, r3⟩ := kfM_ok (f3 := f3) (f5 := f5) hP (And.intro h1 (by omega)) 9 0 S (by omega) (by omega) hq hi hh hr
      exact pfM_ok hP n (p + 1) _ (by omega) (by omega) r1 ⟨hi.1, r2⟩ r3.symm hr
    · rw [if_neg c]
      exact hq
theorem gfM_ok {f2 f3 f5 : Int → Int} {most : Int} (hP : 0 ≤ f2 0 ∧ f2 0 ≤ 4) : ∀ (n : Nat) (i : Int) (S : BQ), 0 ≤ i → qkM (f2 0) S → qkM (f2 0) (gfM f2 f3 f5 most n i S)
  | 0, i, S, _, hq => hq
  | n + 1, i, S, h1, hq => by
    rw [gfM]
    by_cases c : i < S.2.1
    · rw [if_pos c]
      obtain ⟨b1, b2, -, -⟩ := hq.2.1 i h1 c
      exact gfM_ok hP n (i + 1) _ (by omega) (pfM_ok hP.2 _ 0 S (by omega) (by omega) hq ⟨h1, c⟩ rfl ⟨b1, b2⟩)
    · rw [if_neg c]
      exact hq
def sgM (f2 f3 f5 : Int → Int) (F : Int → Int) (h most : Int) : BQ := gfM f2 f3 f5 most 6562 0 (rcM h 0 (F, 0, fun _ => 9999))
theorem rc0_ok {f2 F : Int → Int} {h : Int} (hP : f2 0 ≤ 4) (hh : 0 ≤ h ∧ h < pw9 (f2 0)) : qkM (f2 0) (rcM h 0 (F, 0, fun _ => 9999)) :=
  (rcM_ok hP (qkM_0 (f2 0) F) hh ⟨by omega, by show (0 : Int) ≤ 0; omega⟩).1
theorem sgM_ok {f2 f3 f5 F : Int → Int} {h most : Int} (hP : 0 ≤ f2 0 ∧ f2 0 ≤ 4) (hh : 0 ≤ h ∧ h < pw9 (f2 0)) : qkM (f2 0) (sgM f2 f3 f5 F h most) := gfM_ok hP _ _ _ (by omega) (rc0_ok hP.2 hh)
/-- the first act: places k, k + 1, .. of panel p -/
def fkM (f2 f3 f5 d : Int → Int) (h p : Int) : Nat → Int → Int × Int → Int × Int
  | 0, _, s => s
  | n + 1, k, s => fkM f2 f3 f5 d h p n (k + 1) (if (moM (f2 0) h p k ∧ lwM f2 f3 f5 (wtI (f2 0) h p k) = true) ∧ d (wtI (f2 0) h p k) < s.2 then (10 * p + k, d (wtI (f2 0) h p k)) else s)
def fpM (f2 f3 f5 d : Int → Int) (h : Int) : Nat → Int → Int × Int → Int × Int
  | 0, _, s => s
  | n + 1, p, s => fpM f2 f3 f5 d h n (p + 1) (fkM f2 f3 f5 d h p 9 0 s)
/-- reach from each house that was slept dry in -/
def rsM (z : Int → Int) : Nat → Int → BQ → BQ
  | 0, _, S => S
  | n + 1, h, S => rsM z n (h + 1) (if z h = 0 then S else rcM h 0 S)
def slM (f2 f3 : Int → Int) (S : BQ) (h : Int) : Int := if S.2.2 h < 9999 ∧ lkM (slI (f2 0) h) f3 (f2 0) (f2 2) 8 0 = 0 then 1 else 0
def nyM (f2 f3 f5 : Int → Int) (dest : Int) : Nat → Int → BQ → Int
  | 0, _, _ => -9
  | n + 1, j, S => if S.2.2 dest < 9999 then j else nyM f2 f3 f5 dest n (j + 1) (gfM f2 f3 f5 (f2 7) 6562 0 (rsM (slM f2 f3 S) (pw9 (f2 0)).toNat 0 (S.1, 0, fun _ => 9999)))
def tiM (f2 : Int → Int) (k : Int) (S : BQ) : Nat → Int → Int
  | 0, _ => -9
  | n + 1, i => if patF (slI (f2 0) (S.1 i)) k (f2 0).toNat 0 = -9 ∧ patF (slI (f2 0) (S.1 i)) ((k + 1) % 8) (f2 0).toNat 0 = -9 then S.2.2 (S.1 i) else tiM f2 k S n (i + 1)
def wrM (f2 f3 : Int → Int) (h : Int) : Int := woM (slI (f2 0) h) f3 (f2 0) (f2 2) (f2 3) (f2 4) (f2 5)
def bsM (f2 f3 f5 : Int → Int) : Nat → Int → Int × Int → Int × Int
  | 0, _, s => s
  | n + 1, h, s => bsM f2 f3 f5 n (h + 1) (if lwM f2 f3 f5 h = true ∧ s.2 < wrM f2 f3 h then (h, wrM f2 f3 h) else s)
def cuM (f2 f3 f6 : Int → Int) (h : Int) : Nat → Int → Bool
  | 0, _ => true
  | n + 1, k => decide (liM (slI (f2 0) h) f3 (f2 0) (f2 3) (f6 (5 + 2 * k)) ↔ f6 (5 + 2 * k + 1) = 1) && cuM f2 f3 f6 h n (k + 1)
def ftM (f2 f3 f5 f6 : Int → Int) (h : Int) : Bool := lwM f2 f3 f5 h && cuM f2 f3 f6 h (f6 4).toNat 0
def fcM (f2 f3 f5 f6 : Int → Int) : Nat → Int → Int
  | 0, _ => 0
  | n + 1, h => (if ftM f2 f3 f5 f6 h = true then 1 else 0) + fcM f2 f3 f5 f6 n (h + 1)
def suM (f2 f3 f5 f6 : Int → Int) (p : Int) : Nat → Int → Int → Int
  | 0, _, t => t
  | n + 1, h, t => suM f2 f3 f5 f6 p n (h + 1) (zbor t (if ftM f2 f3 f5 f6 h = true then zpw (slI (f2 0) h p) else 0))
def skM (t : Int) : Nat → Int → Int → Int
  | 0, _, a => a
  | n + 1, k, a => skM t n (k + 1) (if t = zpw k then k else a)
theorem reM_k {f7 : Int → Int} {g : Int} (h : reM f7 g = 0) : f7 g ≠ 0 := by
  have hg := reM_0 h
  unfold reM at h
  rw [if_neg (fun q => q hg)] at h
  intro q
  rw [if_pos q] at h
  omega
theorem woM_rng {q so : Int → Int} {P ra su vw no : Int} (hso : ∀ i : Int, 0 ≤ i → i < 4 → 0 ≤ so i ∧ so i ≤ 3) (hP : 0 ≤ P ∧ P ≤ 4) : -100 ≤ woM q so P ra su vw no ∧ woM q so P ra su vw no ≤ 100 := by
  have h1 := lkM_rng q so P ra 8 0
  have h2 := wlM_rng q so P su 8 0
  unfold woM
  split <;> split <;> (try split) <;> omega
theorem slM_01 (f2 f3 : Int → Int) (S : BQ) (x : Int) : slM f2 f3 S x = 0 ∨ slM f2 f3 S x = 1 := by unfold slM; split <;> omega
theorem rsM_congr {z y : Int → Int} : ∀ {n : Nat} {i : Int} {S : BQ}, (∀ x : Int, i ≤ x → x < i + n → z x = y x) → rsM z n i S = rsM y n i S
  | 0, _, _, _ => rfl
  | n + 1, i, S, h => by
    unfold rsM
    rw [h i (Int.le_refl i) (by omega)]
    exact rsM_congr (fun x h1 h2 => h x (by omega) (by omega))
theorem zst {z y : Int → Int} {h v : Int} (hz : ∀ x : Int, 0 ≤ x → x < h → z x = y x) (hv : v = y h) : ∀ x : Int, 0 ≤ x → x < h + 1 → zup z h v x = y x := by
  intro x h1 h2
  by_cases e : x = h
  · rw [e, zup_s]; exact hv
  · rw [zup_n z e]; exact hz x h1 (by omega)
