/-! ===== the words of the document as numbers ===== -/
def zb (c : Prop) [Decidable c] : Int := if c then 1 else 0
theorem zb_rng (c : Prop) [Decidable c] : 0 ≤ zb c ∧ zb c ≤ 1 := by unfold zb; split <;> omega
theorem zb_bd (c : Prop) [Decidable c] : -2147483648 ≤ zb c ∧ zb c < 2147483648 := by unfold zb; split <;> omega
theorem zb_t {c : Prop} [Decidable c] (h : zb c ≠ 0) : c := by
  unfold zb at h
  by_cases q : c
  · exact q
  · rw [if_neg q] at h; exact absurd rfl h
theorem zb_f {c : Prop} [Decidable c] (h : zb c = 0) : ¬ c := by
  intro q
  unfold zb at h
  rw [if_pos q] at h
  exact absurd h (by decide)
theorem zb_1 {c : Prop} [Decidable c] (h : c) : zb c = 1 := if_pos h
theorem zb_0 {c : Prop} [Decidable c] (h : ¬ c) : zb c = 0 := if_neg h
theorem zb_c {c d : Prop} [Decidable c] [Decidable d] (h : c ↔ d) : zb c = zb d := by
  by_cases q : c
  · rw [zb_1 q, zb_1 (h.mp q)]
  · rw [zb_0 q, zb_0 (fun w => q (h.mpr w))]
theorem zbit_bd (a k : Int) : -2147483648 ≤ zbit a k ∧ zbit a k < 2147483648 := by have := zbit_rng a k; omega
theorem zbit_nz {a k : Int} (h : zbit a k ≠ 0) : ztb a k = true := by
  unfold zbit at h
  by_cases q : ztb a k = true
  · exact q
  · rw [if_neg q] at h; exact absurd rfl h
theorem zbit_ne1 {a k : Int} (h : zbit a k ≠ 1) : ztb a k = false := by
  unfold zbit at h
  by_cases q : ztb a k = true
  · rw [if_pos q] at h; exact absurd rfl h
  · simpa using q
/-- where panel p is, in a house's number (class side: four figures to the base nine) -/
def pl (h p : Int) : Int := if p = 0 then h / 729 % 9 else if p = 1 then h / 81 % 9 else if p = 2 then h / 9 % 9 else h % 9
def un (p : Int) : Int := if p = 0 then 729 else if p = 1 then 81 else if p = 2 then 9 else 1
def mv (h p k : Int) : Int := h + (k - pl h p) * un p
theorem pl_rng (h p : Int) : 0 ≤ pl h p ∧ pl h p ≤ 8 := by
  unfold pl
  repeat' split
  all_goals omega
theorem un_rng (p : Int) : 1 ≤ un p ∧ un p ≤ 729 := by
  unfold un
  repeat' split
  all_goals omega
theorem mv_rng {h p k : Int} (hh : 0 ≤ h ∧ h < 6561) (hk : 0 ≤ k ∧ k ≤ 8) : 0 ≤ mv h p k ∧ mv h p k < 6561 := by
  unfold mv pl un
  repeat' split
  all_goals omega
def popc (x : Int) : Int := zbit x 0 + zbit x 1 + zbit x 2 + zbit x 3 + zbit x 4 + zbit x 5 + zbit x 6 + zbit x 7
theorem popc_rng (x : Int) : 0 ≤ popc x ∧ popc x ≤ 8 := by
  unfold popc
  have h0 := zbit_rng x 0
  have h1 := zbit_rng x 1
  have h2 := zbit_rng x 2
  have h3 := zbit_rng x 3
  have h4 := zbit_rng x 4
  have h5 := zbit_rng x 5
  have h6 := zbit_rng x 6
  have h7 := zbit_rng x 7
  omega
def bcI (x : Int32) : Int32 :=
  let a := x - ((x.toUInt32 >>> ((zI 1).toUInt32 &&& Int32.toUInt32 31)).toInt32 &&& zI 1431655765)
  let b := (a &&& zI 858993459) + ((a.toUInt32 >>> ((zI 2).toUInt32 &&& Int32.toUInt32 31)).toInt32 &&& zI 858993459)
  let c := (b + (b.toUInt32 >>> ((zI 4).toUInt32 &&& Int32.toUInt32 31)).toInt32) &&& zI 252645135
  let d := c + (c.toUInt32 >>> ((zI 8).toUInt32 &&& Int32.toUInt32 31)).toInt32
  let e := d + (d.toUInt32 >>> ((zI 16).toUInt32 &&& Int32.toUInt32 31)).toInt32
  e &&& zI 63
theorem bc_fin : ∀ n : Fin 256, bcI (zI (n.val : Int)) = zI (popc (n.val : Int)) := by decide +kernel
theorem bc_all (x : Int) (h0 : 0 ≤ x) (h1 : x < 256) : bcI (zI x) = zI (popc x) := by
  have h := bc_fin ⟨x.toNat, by omega⟩
  simpa [Int.toNat_of_nonneg h0] using h
/-- the first panel of n, from i on, that is in slot k; none: -9 -/
def patF (f : Int → Int) (k : Int) : Nat → Int → Int
  | 0, _ => -9
  | n + 1, i => if f i = k then i else patF f k n (i + 1)
/-- how many of n panels, from i on, lie -/
def lyC (f : Int → Int) : Nat → Int → Int
  | 0, _ => 0
  | n + 1, i => (if f i = 8 then 1 else 0) + lyC f n (i + 1)
/-- the slots, a bit each, under panels whose sort is in the set -/
def mskF (f so : Int → Int) (set : Int) : Nat → Int → Int → Int
  | 0, _, acc => acc
  | n + 1, i, acc => mskF f so set n (i + 1) (if f i ≠ 8 ∧ ztb set (so i) = true then zbor acc (zpw (f i)) else acc)
def msk (f so : Int → Int) (set P : Int) : Int := mskF f so set P.toNat 0 0
def brB (m : Int) (bm : Int → Int) : Nat → Int → Bool
  | 0, _ => true
  | n + 1, i => decide (zband m (bm i) ≠ 0) && brB m bm n (i + 1)
def alw (f so bm : Int → Int) (P B dn : Int) : Bool :=
  decide (lyC f P.toNat 0 ≤ dn) && decide (popc (msk f so 15 P) + lyC f P.toNat 0 = P) && brB (msk f so 1 P) bm B.toNat 0
def lkA (f so : Int → Int) (P ra : Int) : Int := popc (zbandn ra (msk f so 3 P))
def ltA (f so : Int → Int) (P su : Int) : Int := zbandn su (msk f so 13 P)
def quA (f so : Int → Int) (P no : Int) : Int := if zbit (msk f so 1 P) no = 1 then 4 else if zbit (msk f so 15 P) no = 1 then 2 else 0
def woA (f so : Int → Int) (P ra su vw no : Int) : Int :=
  3 * popc (ltA f so P su) - 2 * lkA f so P ra + (if vw ≠ -9 ∧ zbit (msk f so 13 P) vw = 0 then 5 else 0) + (if no ≠ -9 then quA f so P no else 0)
theorem patF_rng (f : Int → Int) (k : Int) : ∀ (n : Nat) (i : Int), 0 ≤ i → -9 ≤ patF f k n i ∧ patF f k n i < i + n ∧ (patF f k n i < 0 → patF f k n i = -9)
  | 0, i, hi => by unfold patF; omega
  | n + 1, i, hi => by
    unfold patF
    have ih := patF_rng f k n (i + 1) (by omega)
    split <;> omega
theorem lyC_rng (f : Int → Int) : ∀ (n : Nat) (i : Int), 0 ≤ lyC f n i ∧ lyC f n i ≤ n
  | 0, i => by unfold lyC; omega
  | n + 1, i => by
    unfold lyC
    have ih := lyC_rng f n (i + 1)
    split <;> omega
theorem mskF_rng (f so : Int → Int) (set : Int) (hf : ∀ i : Int, 0 ≤ f i ∧ f i ≤ 8) : ∀ (n : Nat) (i acc : Int), 0 ≤ acc ∧ acc < 256 → 0 ≤ mskF f so set n i acc ∧ mskF f so set n i acc < 256
  | 0, i, acc, h => by unfold mskF; omega
  | n + 1, i, acc, h => by
    unfold mskF
    apply mskF_rng f so set hf n
    split
    · rename_i q
      have h1 := hf i
      have h2 : zpw (f i) < ((2 ^ 8 : Nat) : Int) := zpw_lt (n := 8) (by have := q.1; omega) (by omega)
      exact ⟨zbor_nn _ _, zbor_lt 8 (by omega) h2⟩
    · omega
theorem msk_rng (f so : Int → Int) (set P : Int) (hf : ∀ i : Int, 0 ≤ f i ∧ f i ≤ 8) : 0 ≤ msk f so set P ∧ msk f so set P < 256 := mskF_rng f so set hf _ _ _ (by omega)
theorem lkA_rng (f so : Int → Int) (P ra : Int) : 0 ≤ lkA f so P ra ∧ lkA f so P ra ≤ 8 := popc_rng _
theorem quA_rng (f so : Int → Int) (P no : Int) : 0 ≤ quA f so P no ∧ quA f so P no ≤ 4 := by
  unfold quA
  repeat' split
  all_goals omega
theorem woA_rng (f so : Int → Int) (P ra su vw no : Int) : -16 ≤ woA f so P ra su vw no ∧ woA f so P ra su vw no ≤ 33 := by
  unfold woA
  have h1 := popc_rng (ltA f so P su)
  have h2 := lkA_rng f so P ra
  have h3 := quA_rng f so P no
  repeat' split
  all_goals omega
theorem ltA_rng (f so : Int → Int) (P : Int) {su : Int} (h : 0 ≤ su ∧ su < 256) : 0 ≤ ltA f so P su ∧ ltA f so P su < 256 := by
  unfold ltA
  have := zbandn_le su (msk f so 13 P) h.1
  have := zbandn_nn su (msk f so 13 P)
  omega
