theorem tlF_rng {tx : Int → Int} {ln : Int} (hl : 0 ≤ ln ∧ ln ≤ 200) : ∀ (n : Nat) (i : Int) (S : TLS), okT ln S → 0 ≤ i → i + n ≤ 300 → -300 ≤ (tlF (btA tx ln) n i S).1 ∧ (tlF (btA tx ln) n i S).1 ≤ 300
  | 0, i, S, _, hi, hn => ⟨by show -300 ≤ i; omega, by show i ≤ 300; omega⟩
  | n + 1, i, S, h, hi, hn => by
    rw [tlF]
    by_cases q : S.1.2.2.1 = 0
    · rw [if_pos q]
      exact ⟨by show -300 ≤ i; omega, by show i ≤ 300; omega⟩
    · rw [if_neg q]
      have hk := itS_ok (tx := tx) h
      by_cases q2 : (itS (btA tx ln) S).1 = true
      · rw [if_pos q2]
        exact tlF_rng hl n (i + 1) _ ⟨ntA_ok hk.1.1 hk.1.2.2.2.1, hk.2⟩ (by omega) (by omega)
      · rw [if_neg q2]
        have h2 := hk.1.2.1
        exact ⟨by show -300 ≤ -10 - (itS (btA tx ln) S).2.1.2.1; omega, by show -10 - (itS (btA tx ln) S).2.1.2.1 ≤ 300; omega⟩
theorem tlA_rng {tx : Int → Int} {ln vl : Int} {so bm : Int → Int} (hl : 0 ≤ ln ∧ ln ≤ 200) (hv : 0 ≤ vl ∧ vl ≤ 100) (hso : ∀ i : Int, 0 ≤ i → i < 4 → 0 ≤ so i ∧ so i ≤ 3) (hbm : ∀ i : Int, 0 ≤ i → i < 2 → 0 ≤ bm i ∧ bm i < 256) : -300 ≤ (tlA (btA tx ln) vl so bm).1 ∧ (tlA (btA tx ln) vl so bm).1 ≤ 300 :=
  tlF_rng hl _ _ _ (okT_0 hl.1 hv hso hbm) (Int.le_refl 0) (by omega)
abbrev HOS : Type := Nat × Nat × Int × TLS × Int × (Int × Int × Int × Int × Int × Int × Int) × Int × Int
def hoA (pa qpa : Nat) (ln sv hm dy ac lk cl li da bkp ckp : Int) (r : Int) (S : TLS) : HOS :=
  if 0 ≤ r then (qpa, pa, 0, S, 0, (S.2.2.2.2.2.2.1, 0, 0, 0, 0, 0, 0), 0, 0) else (pa, qpa, ln, S, sv, (hm, dy, ac, lk, cl, li, da), bkp, ckp)
