/-! ===== both sides: fewest, first, piano ===== -/
theorem few_e {f2 f3 f5 so bm F F2 : Int → Int} {h to : Int} (hk : okR f2 f3 f5) (he : plE f2 f3 f5 so bm) (hh : 0 ≤ h ∧ h < pw9 (f2 0)) (ht : 0 ≤ to ∧ to < pw9 (f2 0)) :
    ftA (sprA (lwC f2 so bm) (f2 0) (zup F 0 (h * unS (f2 0))) 1 6561).2.2 (to * unS (f2 0)) = if (sgM f2 f3 f5 F2 h 9999).2.2 to = 9999 then -9 else (sgM f2 f3 f5 F2 h 9999).2.2 to := by
  obtain ⟨-, -, q3⟩ := (sim_1 (F := F) (F2 := F2) (most := 9999) (acts := 6561) hk he (Or.inr ⟨by omega, by omega⟩) hh).1
  unfold ftA
  rw [if_pos (hc_rng hk.1 ht)]
  rcases q3 to ht.1 ht.2 with z | z
  · rw [z.1]; exact (if_pos z.2).symm
  · rw [z.1]; exact (if_neg z.2).symm
theorem fkM_add {f2 f3 f5 d : Int → Int} {h p : Int} : ∀ (n m : Nat) (k : Int) (s : Int × Int), fkM f2 f3 f5 d h p (n + m) k s = fkM f2 f3 f5 d h p m (k + n) (fkM f2 f3 f5 d h p n k s)
  | 0, m, k, s => by rw [Nat.zero_add, fkM, show k + ((0 : Nat) : Int) = k by omega]
  | n + 1, m, k, s => by
    rw [show n + 1 + m = (n + m) + 1 by omega, fkM, fkM, fkM_add n m (k + 1), show k + 1 + (n : Int) = k + ((n + 1 : Nat) : Int) by omega]
theorem fkM_skip {f2 f3 f5 d : Int → Int} {h p : Int} : ∀ (n : Nat) (k : Int) (s : Int × Int), (∀ j : Int, k ≤ j → j < k + n → ¬ moM (f2 0) h p j) → fkM f2 f3 f5 d h p n k s = s
  | 0, _, _, _ => rfl
  | n + 1, k, s, hn => by
    rw [fkM, if_neg (fun z => hn k (Int.le_refl k) (by omega) z.1.1)]
    exact fkM_skip n (k + 1) s (fun j h1 h2 => hn j (by omega) (by omega))
def fsR (c r : Int × Int) : Prop := c.2 = r.1 ∧ (c.1 = r.2 ∨ (c.1 = 6561 ∧ r.2 = 9999)) ∧ r.2 ≤ 9999
/-- the distances of the reference, those of the class, and what is reached is lawful -/
def dsR (f2 f3 f5 d e : Int → Int) : Prop := ∀ r : Int, 0 ≤ r → r < pw9 (f2 0) → (d (r * unS (f2 0)) = -9 ∧ e r = 9999) ∨ (d (r * unS (f2 0)) = e r ∧ (0 ≤ e r ∧ e r < 6561) ∧ lwM f2 f3 f5 r = true)
theorem in_e {f2 f3 f5 d e : Int → Int} {h p : Int} (hP : 0 ≤ f2 0 ∧ f2 0 ≤ 4) (hd : dsR f2 f3 f5 d e) (hh : 0 ≤ h ∧ h < pw9 (f2 0)) (hp : 0 ≤ p ∧ p < f2 0) : ∀ (n : Nat) (k : Int) (c r : Int × Int), 0 ≤ k → k + n ≤ 9 → (∀ j : Int, k ≤ j → j < k + n → lwM f2 f3 f5 (wtI (f2 0) h p j) = true → moM (f2 0) h p j) → fsR c r → fsR (inF d (h * unS (f2 0)) p n k c) (fkM f2 f3 f5 e h p n k r)
  | 0, _, _, _, _, _, _, hr => hr
  | n + 1, k, c, r, h1, h2, hm, hr => by
    rw [inF, fkM]
    refine in_e hP hd hh hp n (k + 1) _ _ (by omega) (by omega) (fun j j1 j2 => hm j (by omega) (by omega)) ?_
    have hw := wtI_rng (k := k) hP.2 hh hp ⟨h1, by omega⟩
    obtain ⟨r1, r2, r3⟩ := hr
    rw [mv_hc hP hh hp, show ftA d (wtI (f2 0) h p k * unS (f2 0)) = d (wtI (f2 0) h p k * unS (f2 0)) from if_pos (hc_rng hP hw)]
    rcases hd _ hw.1 hw.2 with z | ⟨z1, z2, z3⟩
    · rw [if_neg (fun w => w.1 z.1), if_neg (fun w => by rw [z.2] at w; have := w.2; omega)]
      exact ⟨r1, r2, r3⟩
    · rw [z1]
      by_cases g : e (wtI (f2 0) h p k) < c.1
      · rw [if_pos ⟨by omega, g⟩, if_pos ⟨⟨hm k (Int.le_refl k) (by omega) z3, z3⟩, by omega⟩]
        exact ⟨rfl, Or.inl rfl, by show e (wtI (f2 0) h p k) ≤ 9999; omega⟩
      · rw [if_neg (fun w => g w.2), if_neg (fun w => by have := w.2; omega)]
        exact ⟨r1, r2, r3⟩
theorem out_e {f2 f3 f5 d e : Int → Int} {h : Int} (hP : 0 ≤ f2 0 ∧ f2 0 ≤ 4) (hd : dsR f2 f3 f5 d e) (hh : 0 ≤ h ∧ h < pw9 (f2 0)) : ∀ (n : Nat) (p : Int) (c r : Int × Int), 0 ≤ p → p + n ≤ f2 0 → fsR c r → fsR (outF d (h * unS (f2 0)) n p c) (fpM f2 f3 f5 e h n p r)
  | 0, _, _, _, _, _, hr => hr
  | n + 1, p, c, r, h1, h2, hr => by
    rw [outF, fpM]
    refine out_e hP hd hh n (p + 1) _ _ (by omega) (by omega) ?_
    have hp : 0 ≤ p ∧ p < f2 0 := ⟨h1, by omega⟩
    rw [pl_hc hP hh hp]
    by_cases g : slI (f2 0) h p = 8
    · rw [if_pos g, show (9 : Nat) = 8 + 1 from rfl, fkM_add 8 1, fkM_skip 1 _ _ (fun j h1 h2 z => by have := ((moM_l g).mp z).1; omega)]
      exact in_e hP hd hh hp 8 0 c r (by omega) (by omega) (fun j j1 j2 z => (moM_l g).mpr ⟨by omega, free_of hP hh hp ⟨j1, by omega⟩ g z⟩) hr
    · rw [if_neg g, show (9 : Nat) = 8 + 1 from rfl, fkM_add 8 1, fkM_skip 8 0 r (fun j h1 h2 z => by have := (moM_s g).mp z; omega)]
      exact in_e hP hd hh hp 1 8 c r (by omega) (by omega) (fun j j1 j2 _ => (moM_s g).mpr (by omega)) hr
theorem fir_e {f2 f3 f5 so bm F F2 : Int → Int} {h to : Int} (hk : okR f2 f3 f5) (he : plE f2 f3 f5 so bm) (hh : 0 ≤ h ∧ h < pw9 (f2 0)) (ht : 0 ≤ to ∧ to < pw9 (f2 0)) :
    fsA (lwC f2 so bm) (f2 0) F (h * unS (f2 0)) (to * unS (f2 0)) = if h = to ∨ ¬ lwM f2 f3 f5 to = true then -9 else (fpM f2 f3 f5 (sgM f2 f3 f5 F2 to 9999).2.2 h (f2 0).toNat 0 (-9, 9999)).1 := by
  unfold fsA
  have hl := lwS_1 hk he ht
  by_cases c : h = to ∨ ¬ lwM f2 f3 f5 to = true
  · rw [if_pos c, if_pos (c.elim (fun z => Or.inl (by rw [z])) (fun z => Or.inr (fun w => z (hl.mp w.2))))]
  · rw [if_neg c, if_neg (fun z => z.elim (fun z => c (Or.inl ((hc_inj hk.1).mp z))) (fun z => z ⟨hc_rng hk.1 ht, hl.mpr (Classical.byContradiction fun w => c (Or.inr w))⟩))]
    have hlt : lwM f2 f3 f5 to = true := Classical.byContradiction fun w => c (Or.inr w)
    obtain ⟨s1, s2, s3⟩ := sim_1 (F := F) (F2 := F2) (most := 9999) (acts := 6561) hk he (Or.inr ⟨by omega, by omega⟩) ht
    obtain ⟨⟨dc, d0, hi⟩, -, -⟩ := bfs_ok hk.1 s2
    have h9 := pw9_rng (n := f2 0) hk.1.2
    have hm := qkM_m hi.1
    refine (out_e hk.1 (fun r r1 r2 => ?_) hh (f2 0).toNat 0 (6561, -9) (-9, 9999) (Int.le_refl 0) (by have := hk.1; omega) ⟨rfl, Or.inr ⟨rfl, rfl⟩, Int.le_refl _⟩).1
    rcases s1.2.2 r r1 r2 with z | z
    · exact Or.inl z
    · obtain ⟨⟨-, j, j1, j2, j3⟩, -, -, -, w⟩ := hi.2.2.2 r r1 (by omega) z.2
      obtain ⟨-, -, b3, b4⟩ := hi.1.2.1 j j1 j2
      rw [j3] at b3 b4
      exact Or.inr ⟨z.1, ⟨b3, by show (gfM f2 f3 f5 9999 6562 0 (rcM to 0 (F2, 0, fun _ => 9999))).2.2 r < 6561; omega⟩, w.elim (fun w => by rw [w]; exact hlt) (fun w => w)⟩
theorem em_e {f2 f3 f5 so bm : Int → Int} {r k : Int} (hk : okR f2 f3 f5) (he : plE f2 f3 f5 so bm) (hr : 0 ≤ r ∧ r < pw9 (f2 0)) (hk8 : 0 ≤ k ∧ k ≤ 7) : zband (msk (pl (r * unS (f2 0))) so 15 (f2 0)) (zbor (zpw k) (zpw ((k + 1) % 8))) = 0 ↔ (patF (slI (f2 0) r) k (f2 0).toNat 0 = -9 ∧ patF (slI (f2 0) r) ((k + 1) % 8) (f2 0).toNat 0 = -9) := by
  obtain ⟨hPm, hB1, hra, hsu, hvw, hno, hdn6, hha7, hso, hbm⟩ := id hk
  have hb : 0 ≤ zbor (zpw k) (zpw ((k + 1) % 8)) ∧ zbor (zpw k) (zpw ((k + 1) % 8)) < 256 := zbor_256 ⟨zpw_nn _, zpw_lt (n := 8) (by omega) (by omega)⟩ ⟨zpw_nn _, zpw_lt (n := 8) (by omega) (by omega)⟩
  have hq := slI_r (P := f2 0) hr.1
  have hbit : ∀ j : Int, 0 ≤ j → j < 8 → (ztb (mskF (slI (f2 0) r) f3 15 (f2 0).toNat 0 0) j = true ↔ patF (slI (f2 0) r) j (f2 0).toNat 0 ≠ -9) := by
    intro j j1 j2
    rw [msk_b hq ⟨j1, j2⟩, ztb_0, Bool.false_or, anF_iff, Ne, pat_neg _ _ (Int.le_refl 0)]
    constructor
    · rintro ⟨a, a1, a2, a3, -⟩ w
      exact w a a1 a2 a3
    · intro w
      refine Classical.byContradiction fun z => w (fun a a1 a2 a3 => z ⟨a, a1, a2, a3, ztb_15v (hso a a1 (by omega))⟩)
  have hsl : ∀ j : Int, 0 ≤ j → (ztb (zbor (zpw k) (zpw ((k + 1) % 8))) j = true ↔ (j = k ∨ j = (k + 1) % 8)) := by
    intro j j1
    rw [ztb_bor, ztb_pw hk8.1 j1, ztb_pw (by omega) j1, Bool.or_eq_true, decide_eq_true_iff, decide_eq_true_iff]
    constructor <;> rintro (w | w) <;> first | exact Or.inl w.symm | exact Or.inr w.symm
  rw [msk_e hk he hr]
  constructor
  · intro w
    refine ⟨Classical.byContradiction fun z => ?_, Classical.byContradiction fun z => ?_⟩
    · exact (zband_ne hb).mpr ⟨k, ⟨hk8.1, by omega⟩, (hbit k hk8.1 (by omega)).mpr z, (hsl k hk8.1).mpr (Or.inl rfl)⟩ w
    · exact (zband_ne hb).mpr ⟨(k + 1) % 8, ⟨by omega, by omega⟩, (hbit _ (by omega) (by omega)).mpr z, (hsl _ (by omega)).mpr (Or.inr rfl)⟩ w
  · intro w
    refine Classical.byContradiction fun z => ?_
    obtain ⟨j, j1, j2, j3⟩ := (zband_ne hb).mp z
    have h1 := (hbit j j1.1 j1.2).mp j2
    rcases (hsl j j1.1).mp j3 with e | e
    · rw [e] at h1; exact h1 w.1
    · rw [e] at h1; exact h1 w.2
theorem te_e {f2 f3 f5 so bm : Int → Int} {k : Int} {S T : BQ} (hk : okR f2 f3 f5) (he : plE f2 f3 f5 so bm) (hk8 : 0 ≤ k ∧ k ≤ 7) (hq : rQ (f2 0) S T) (hm : qkM (f2 0) T) : ∀ (n : Nat) (i : Int), 0 ≤ i → i + n = T.2.1 → teF so (f2 0) (zbor (zpw k) (zpw ((k + 1) % 8))) S n i = tiM f2 k T n i
  | 0, _, _, _ => rfl
  | n + 1, i, h1, h2 => by
    obtain ⟨q1, q2, q3⟩ := id hq
    obtain ⟨b1, b2, b3, b4⟩ := hm.2.1 i h1 (by omega)
    have hem := em_e hk he ⟨b1, b2⟩ hk8
    rw [teF, tiM, q2 i h1 (by omega), te_e hk he hk8 hq hm n (i + 1) (by omega) (by omega)]
    by_cases c : patF (slI (f2 0) (T.1 i)) k (f2 0).toNat 0 = -9 ∧ patF (slI (f2 0) (T.1 i)) ((k + 1) % 8) (f2 0).toNat 0 = -9
    · rw [if_pos c, if_pos (hem.mpr c)]
      unfold ftA
      rw [if_pos (hc_rng hk.1 ⟨b1, b2⟩)]
      exact (q3 _ b1 b2).elim (fun z => absurd z.2 (ent_n hm h1 (by omega))) (fun z => z.1)
    · rw [if_neg c, if_neg (fun w => c (hem.mp w))]
theorem pia_e {f2 f3 f5 so bm F F2 : Int → Int} {h k : Int} (hk : okR f2 f3 f5) (he : plE f2 f3 f5 so bm) (hh : 0 ≤ h ∧ h < pw9 (f2 0)) (hk8 : 0 ≤ k ∧ k ≤ 7) :
    teF so (f2 0) (zbor (zpw k) (zpw ((k + 1) % 8))) (sprA (lwC f2 so bm) (f2 0) (zup F 0 (h * unS (f2 0))) 1 6561) (sprA (lwC f2 so bm) (f2 0) (zup F 0 (h * unS (f2 0))) 1 6561).2.1.toNat 0 = tiM f2 k (sgM f2 f3 f5 F2 h 9999) (sgM f2 f3 f5 F2 h 9999).2.1.toNat 0 := by
  obtain ⟨s1, s2, s3⟩ := sim_1 (F := F) (F2 := F2) (most := 9999) (acts := 6561) hk he (Or.inr ⟨by omega, by omega⟩) hh
  have hq : rQ (f2 0) (sprA (lwC f2 so bm) (f2 0) (zup F 0 (h * unS (f2 0))) 1 6561) (sgM f2 f3 f5 F2 h 9999) := s1
  have hm := sgM_ok (f3 := f3) (f5 := f5) (F := F2) (most := 9999) hk.1 hh
  rw [hq.1]
  exact te_e hk he hk8 hq hm _ 0 (Int.le_refl 0) (by have := qkM_m hm; omega)
