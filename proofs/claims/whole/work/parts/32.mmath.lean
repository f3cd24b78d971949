/-! ===== the reference: the present, its acts ===== -/
def okR (f2 f3 f5 : Int → Int) : Prop := (0 ≤ f2 0 ∧ f2 0 ≤ 4) ∧ (0 ≤ f2 1 ∧ f2 1 ≤ 2) ∧ (0 ≤ f2 2 ∧ f2 2 < 256) ∧ (0 ≤ f2 3 ∧ f2 3 < 256) ∧ (f2 4 = -9 ∨ (0 ≤ f2 4 ∧ f2 4 < 8)) ∧ (f2 5 = -9 ∨ (0 ≤ f2 5 ∧ f2 5 < 8)) ∧ (0 ≤ f2 6 ∧ f2 6 ≤ 4) ∧ (1 ≤ f2 7 ∧ f2 7 ≤ 9) ∧ (∀ i : Int, 0 ≤ i → i < 4 → 0 ≤ f3 i ∧ f3 i ≤ 3) ∧ (∀ i : Int, 0 ≤ i → i < 2 → 0 ≤ f5 i ∧ f5 i < 256)
def okN (f2 f6 : Int → Int) : Prop := (0 ≤ f6 0 ∧ f6 0 < pw9 (f2 0)) ∧ (0 ≤ f6 1 ∧ f6 1 ≤ 999) ∧ (0 ≤ f6 2 ∧ f6 2 ≤ 9) ∧ (-1000000 ≤ f6 3 ∧ f6 3 ≤ 1000000) ∧ (0 ≤ f6 4 ∧ f6 4 ≤ 8) ∧ (∀ j : Int, 0 ≤ j → j < f6 4 → (0 ≤ f6 (5 + 2 * j) ∧ f6 (5 + 2 * j) < 8) ∧ (f6 (5 + 2 * j + 1) = 0 ∨ f6 (5 + 2 * j + 1) = 1))
def lwM (f2 f3 f5 : Int → Int) (h : Int) : Bool := mlw (slI (f2 0) h) f3 f5 (f2 0) (f2 1) (f2 6)
def acM (f2 f3 f5 f6 : Int → Int) (h : Int) : Int × (Int → Int) :=
  if f6 2 = f2 7 ∨ ¬ mlw (slI (f2 0) h) f3 f5 (f2 0) (f2 1) (f2 6) = true then (-2, f6) else (lyC (slI (f2 0) h) (f2 0).toNat 0, zup (zup f6 0 h) 2 (zup f6 0 h 2 + 1))
def dnM (f2 f3 f5 f6 : Int → Int) (p : Int) : Int × (Int → Int) :=
  if 0 ≤ p ∧ p < f2 0 then (if slI (f2 0) (f6 0) p = 8 then (-2, f6) else acM f2 f3 f5 f6 (wtI (f2 0) (f6 0) p 8)) else (-1, f6)
def upM (f2 f3 f5 f6 : Int → Int) (p k : Int) : Int × (Int → Int) :=
  if (0 ≤ p ∧ p < f2 0) ∧ (0 ≤ k ∧ k ≤ 7) then (if slI (f2 0) (f6 0) p ≠ 8 ∨ patF (slI (f2 0) (f6 0)) k (f2 0).toNat 0 ≠ -9 then (-2, f6) else acM f2 f3 f5 f6 (wtI (f2 0) (f6 0) p k)) else (-1, f6)
def niU (f6 : Int → Int) (L : Int) : Int → Int := zup (zup (zup f6 3 (f6 3 + L)) 1 (zup f6 3 (f6 3 + L) 1 + 1)) 2 0
def niM (f2 f3 f6 : Int → Int) : Int × (Int → Int) :=
  if f6 1 = 999 then (-2, f6) else (lkM (slI (f2 0) (f6 0)) f3 (f2 0) (f2 2) 8 0, niU f6 (lkM (slI (f2 0) (f6 0)) f3 (f2 0) (f2 2) 8 0))
def clU (f6 : Int → Int) (h b : Int) : Int → Int := zup (zup f6 (5 + 2 * f6 4) h) (5 + 2 * (zup f6 (5 + 2 * f6 4) h) 4 + 1) b
def clM (f6 : Int → Int) (h b : Int) : Int × (Int → Int) :=
  if (0 ≤ h ∧ h ≤ 7) ∧ (0 ≤ b ∧ b ≤ 1) then (if f6 4 = 8 then (-3, f6) else (zup (clU f6 h b) 4 (clU f6 h b 4 + 1) 4, zup (clU f6 h b) 4 (clU f6 h b 4 + 1))) else (-1, f6)
def cpF (a b : Int) : Nat → Int → (Int → Int) → (Int → Int)
  | 0, _, F => F
  | n + 1, k, F => cpF a b n (k + 1) (zup F (b + k) (F (a + k)))
def reM (f7 : Int → Int) (g : Int) : Int := if ¬ (0 ≤ g ∧ g ≤ 1) then -1 else if f7 g = 0 then -2 else 0
theorem reM_0 {f7 : Int → Int} {g : Int} (h : reM f7 g = 0) : 0 ≤ g ∧ g ≤ 1 := by
  unfold reM at h
  by_cases q : 0 ≤ g ∧ g ≤ 1
  · exact q
  · rw [if_pos q] at h; omega
theorem reM_rng (f7 : Int → Int) (g : Int) : -2 ≤ reM f7 g ∧ reM f7 g ≤ 0 := by unfold reM; split <;> (try split) <;> omega
def mkM (f2 f3 f6 : Int → Int) (kd p : Int) (tr : Int64) : Int × Int64 :=
  if (0 ≤ kd ∧ kd ≤ 5) ∧ (0 ≤ p ∧ p < f2 0) then
    (if kd = 0 then (slI (f2 0) (f6 0) p, tr + 1) else if kd = 1 then (2 * slI (f2 0) (f6 0) p, tr + 11) else if kd = 2 then (slI (f2 0) (f6 0) p + f3 p, tr + 101)
     else if kd = 3 then (2 * slI (f2 0) (f6 0) p + f6 1, tr + 1011) else if kd = 4 then (slI (f2 0) (f6 0) p + f3 p + lyC (slI (f2 0) (f6 0)) (f2 0).toNat 0, tr + 10101) else (slI (f2 0) (f6 0) p - p, tr + 100001))
  else (-1000000, tr)
