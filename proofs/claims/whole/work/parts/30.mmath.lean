/-! ===== the reference: houses by figures to the base of nine ===== -/
def pw9 (n : Int) : Int := ((9 ^ n.toNat : Nat) : Int)
def slI (P h p : Int) : Int := h / pw9 (P - 1 - p) % 9
def wtI (P h p k : Int) : Int := h + (k - slI P h p) * pw9 (P - 1 - p)
theorem pw9_0 : pw9 0 = 1 := rfl
theorem pw9_s {n : Int} (h : 0 ≤ n) : pw9 (n + 1) = pw9 n * 9 := by
  unfold pw9
  rw [show (n + 1).toNat = n.toNat + 1 by omega, Nat.pow_succ]
  exact Int.natCast_mul _ _
theorem pw9_rng {n : Int} (h : n ≤ 4) : 1 ≤ pw9 n ∧ pw9 n ≤ 6561 := by
  unfold pw9
  have h1 : 1 ≤ 9 ^ n.toNat := Nat.one_le_pow _ _ (by decide)
  have h2 : 9 ^ n.toNat ≤ 9 ^ 4 := Nat.pow_le_pow_right (by decide) (by omega)
  have h3 : (9 : Nat) ^ 4 = 6561 := by decide
  omega
theorem slI_rng (P p : Int) {h : Int} (hh : 0 ≤ h) : 0 ≤ slI P h p ∧ slI P h p ≤ 8 := by
  unfold slI
  omega
theorem div_rng9 {h n : Int} (hh : 0 ≤ h) (hn : n ≤ 4) : 0 ≤ h / pw9 n ∧ h / pw9 n ≤ h := by
  have h1 := pw9_rng hn
  exact ⟨Int.ediv_nonneg hh (by omega), Int.ediv_le_self _ hh⟩
theorem wtI_rng {P h p k : Int} (hP : P ≤ 4) (hh : 0 ≤ h ∧ h < pw9 P) (hp : 0 ≤ p ∧ p < P) (hk : 0 ≤ k ∧ k ≤ 8) : 0 ≤ wtI P h p k ∧ wtI P h p k < pw9 P := by
  unfold wtI slI
  rcases (show P = 1 ∨ P = 2 ∨ P = 3 ∨ P = 4 by omega) with rfl | rfl | rfl | rfl <;>
    rcases (show p = 0 ∨ p = 1 ∨ p = 2 ∨ p = 3 by omega) with rfl | rfl | rfl | rfl <;>
    first
      | omega
      | (rw [show pw9 1 = 9 from rfl] at hh ⊢; rw [show pw9 (1 - 1 - 0) = 1 from rfl]; omega)
      | (rw [show pw9 2 = 81 from rfl] at hh ⊢; rw [show pw9 (2 - 1 - 0) = 9 from rfl]; omega)
      | (rw [show pw9 2 = 81 from rfl] at hh ⊢; rw [show pw9 (2 - 1 - 1) = 1 from rfl]; omega)
      | (rw [show pw9 3 = 729 from rfl] at hh ⊢; rw [show pw9 (3 - 1 - 0) = 81 from rfl]; omega)
      | (rw [show pw9 3 = 729 from rfl] at hh ⊢; rw [show pw9 (3 - 1 - 1) = 9 from rfl]; omega)
      | (rw [show pw9 3 = 729 from rfl] at hh ⊢; rw [show pw9 (3 - 1 - 2) = 1 from rfl]; omega)
      | (rw [show pw9 4 = 6561 from rfl] at hh ⊢; rw [show pw9 (4 - 1 - 0) = 729 from rfl]; omega)
      | (rw [show pw9 4 = 6561 from rfl] at hh ⊢; rw [show pw9 (4 - 1 - 1) = 81 from rfl]; omega)
      | (rw [show pw9 4 = 6561 from rfl] at hh ⊢; rw [show pw9 (4 - 1 - 2) = 9 from rfl]; omega)
      | (rw [show pw9 4 = 6561 from rfl] at hh ⊢; rw [show pw9 (4 - 1 - 3) = 1 from rfl]; omega)
def sg8 (b : Int) : Int := if b < 128 then b else b - 256
def sgF (t : Int → Int) : Int → Int := fun j => sg8 (t j)
theorem sgF_zup (t : Int → Int) (i b : Int) : zup (sgF t) i (sg8 b) = sgF (zup t i b) := by
  funext j
  unfold zup sgF
  by_cases h : j = i
  · simp only [if_pos h]
  · simp only [if_neg h]
theorem sg8_all : ∀ b : Nat, b < 256 → zI (sg8 b) &&& zI 255 = zI b := by decide +kernel
theorem sg8_and {b : Int} (h : 0 ≤ b ∧ b ≤ 255) : zI (sg8 b) &&& zI 255 = zI b := by
  have e := sg8_all b.toNat (by omega)
  rwa [Int.toNat_of_nonneg h.1] at e
theorem sg8_rng {b : Int} (h : 0 ≤ b ∧ b ≤ 255) : -128 ≤ sg8 b ∧ sg8 b ≤ 127 := by unfold sg8; split <;> omega
/-- is a panel that bears under the slot of the mask b, of n panels from i on -/
def boF (q so : Int → Int) (b : Int) : Nat → Int → Bool
  | 0, _ => false
  | n + 1, i => decide (so i = 0 ∧ q i < 8 ∧ ztb b (q i) = true) || boF q so b n (i + 1)
def dsF (q : Int → Int) : Nat → Int → Int → Bool
  | 0, _, _ => true
  | n + 1, i, t => decide (q i = 8 ∨ ztb t (q i) = false) && dsF q n (i + 1) (zbor t (if q i = 8 then 0 else zpw (q i)))
def bbF (q so bm : Int → Int) (N : Nat) : Nat → Int → Bool
  | 0, _ => true
  | n + 1, i => boF q so (bm i) N 0 && bbF q so bm N n (i + 1)
def mlw (q so bm : Int → Int) (P B dn : Int) : Bool := decide (lyC q P.toNat 0 ≤ dn) && dsF q P.toNat 0 0 && bbF q so bm P.toNat B.toNat 0
def stA (q so : Int → Int) (P k : Int) : Int := if patF q k P.toNat 0 = -9 then -9 else so (patF q k P.toNat 0)
def lkM (q so : Int → Int) (P ra : Int) : Nat → Int → Int
  | 0, _ => 0
  | n + 1, k => (if ztb ra k = true ∧ ¬ (0 ≤ stA q so P k ∧ stA q so P k ≤ 1) then 1 else 0) + lkM q so P ra n (k + 1)
abbrev opA (q so : Int → Int) (P k : Int) : Prop := stA q so P k = -9 ∨ stA q so P k = 1
abbrev liM (q so : Int → Int) (P su k : Int) : Prop := ztb su k = true ∧ opA q so P k
def wlM (q so : Int → Int) (P su : Int) : Nat → Int → Int
  | 0, _ => 0
  | n + 1, k => (if liM q so P su k then 3 else 0) + wlM q so P su n (k + 1)
def woM (q so : Int → Int) (P ra su vw no : Int) : Int :=
  -2 * lkM q so P ra 8 0 + wlM q so P su 8 0 + (if vw ≠ -9 ∧ opA q so P vw then 5 else 0) + (if no = -9 ∨ stA q so P no = -9 then 0 else if stA q so P no = 0 then 4 else 2)
theorem stA_rng {q so : Int → Int} {P k : Int} (hso : ∀ i : Int, 0 ≤ i → i < 4 → 0 ≤ so i ∧ so i ≤ 3) (hP : 0 ≤ P ∧ P ≤ 4) : -9 ≤ stA q so P k ∧ stA q so P k ≤ 3 := by
  unfold stA
  have h := patF_rng q k P.toNat 0 (Int.le_refl 0)
  by_cases e : patF q k P.toNat 0 = -9
  · rw [if_pos e]; omega
  · rw [if_neg e]
    have h2 := hso (patF q k P.toNat 0) (by omega) (by omega)
    omega
theorem lkM_rng (q so : Int → Int) (P ra : Int) : ∀ (n : Nat) (k : Int), 0 ≤ lkM q so P ra n k ∧ lkM q so P ra n k ≤ n
  | 0, _ => by unfold lkM; omega
  | n + 1, k => by
    unfold lkM
    have ih := lkM_rng q so P ra n (k + 1)
    split <;> omega
theorem wlM_rng (q so : Int → Int) (P su : Int) : ∀ (n : Nat) (k : Int), 0 ≤ wlM q so P su n k ∧ wlM q so P su n k ≤ 3 * n
  | 0, _ => by unfold wlM; omega
  | n + 1, k => by
    unfold wlM
    have ih := wlM_rng q so P su n (k + 1)
    split <;> omega
theorem zb_dec (b : Bool) : decide (zb (b = true) = 1) = b := by cases b <;> rfl
theorem zb_of {a : Int} (h : a = 0 ∨ a = 1) : a = zb (decide (a = 1) = true) := by rcases h with rfl | rfl <;> rfl
theorem zb_nar {a : Int} (h : a = 0 ∨ a = 1) : narrow .boolean (.int (zI a)) = .int (zI a) := by rcases h with rfl | rfl <;> rfl
theorem zb_01 (p : Prop) [Decidable p] : zb p = 0 ∨ zb p = 1 := by unfold zb; split <;> omega
