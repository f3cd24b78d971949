/-! ===== both sides: nights ===== -/
def kG (f2 f3 : Int → Int) : Nat → Int → (Int → Int) × Int → (Int → Int) × Int
  | 0, _, s => s
  | n + 1, i, s => kG f2 f3 n (i + 1) (if lkM (slI (f2 0) (s.1 i)) f3 (f2 0) (f2 2) 8 0 = 0 then (zup s.1 s.2 (s.1 i), s.2 + 1) else s)
abbrev dryM (f2 f3 : Int → Int) (r : Int) : Prop := lkM (slI (f2 0) r) f3 (f2 0) (f2 2) 8 0 = 0
def kI (f2 f3 E : Int → Int) (mo i : Int) (g : (Int → Int) × Int) : Prop :=
  (0 ≤ g.2 ∧ g.2 ≤ i) ∧ (∀ j : Int, i ≤ j → g.1 j = E j) ∧ (∀ j : Int, 0 ≤ j → j < g.2 → ∃ a : Int, 0 ≤ a ∧ a < i ∧ g.1 j = E a ∧ dryM f2 f3 (E a)) ∧ (∀ a : Int, 0 ≤ a → a < i → dryM f2 f3 (E a) → ∃ j : Int, 0 ≤ j ∧ j < g.2 ∧ g.1 j = E a) ∧ (∀ a b : Int, 0 ≤ a → a < b → b < g.2 → g.1 a ≠ g.1 b) ∧ (i ≤ mo → g.2 = i) ∧ (mo ≤ i → mo ≤ g.2 ∧ (g.2 = mo → ∀ a : Int, mo ≤ a → a < i → ¬ dryM f2 f3 (E a)))
theorem kG_ok {f2 f3 E : Int → Int} {mo m : Int} (hd : ∀ a b : Int, 0 ≤ a → a < b → b < m → E a ≠ E b) (hmo : ∀ j : Int, 0 ≤ j → j < mo → dryM f2 f3 (E j)) : ∀ (n : Nat) (i : Int) (g : (Int → Int) × Int), 0 ≤ i → i + n = m → kI f2 f3 E mo i g → kI f2 f3 E mo m (kG f2 f3 n i g)
  | 0, i, g, _, h, hk => by
    obtain rfl : i = m := by omega
    exact hk
  | n + 1, i, g, h0, h, ⟨k1, k2, k3, k4, k5, k6, k7⟩ => by
    rw [kG]
    refine kG_ok hd hmo n (i + 1) _ (by omega) (by omega) ?_
    have ei := k2 i (Int.le_refl i)
    rw [ei]
    by_cases c : dryM f2 f3 (E i)
    · rw [if_pos c]
      have o1 : ∀ j : Int, j < g.2 → zup g.1 g.2 (E i) j = g.1 j := fun j hj => zup_n _ (by omega)
      have ne : ∀ j : Int, 0 ≤ j → j < g.2 → g.1 j ≠ E i := fun j j1 j2 w => by
        obtain ⟨a, a1, a2, a3, -⟩ := k3 j j1 j2
        exact hd a i a1 a2 (by omega) (by rw [← a3]; exact w)
      refine ⟨⟨by show 0 ≤ g.2 + 1; omega, by show g.2 + 1 ≤ i + 1; omega⟩, fun j j1 => ?_, fun j j1 j2 => ?_, fun a a1 a2 a3 => ?_, fun a b a1 a2 a3 => ?_, fun w => ?_, fun w => ?_⟩
      · show zup g.1 g.2 (E i) j = E j
        rw [zup_n _ (by omega)]; exact k2 j (by omega)
      · have j2 : j < g.2 + 1 := j2
        show ∃ a : Int, 0 ≤ a ∧ a < i + 1 ∧ zup g.1 g.2 (E i) j = E a ∧ dryM f2 f3 (E a)
        by_cases e : j = g.2
        · exact ⟨i, h0, by omega, by rw [e, zup_s], c⟩
        · obtain ⟨a, a1, a2, a3, a4⟩ := k3 j j1 (by omega)
          exact ⟨a, a1, by omega, by rw [o1 j (by omega)]; exact a3, a4⟩
      · show ∃ j : Int, 0 ≤ j ∧ j < g.2 + 1 ∧ zup g.1 g.2 (E i) j = E a
        by_cases e : a = i
        · exact ⟨g.2, k1.1, by omega, by rw [e, zup_s]⟩
        · obtain ⟨j, j1, j2, j3⟩ := k4 a a1 (by omega) a3
          exact ⟨j, j1, by omega, by rw [o1 j j2]; exact j3⟩
      · have a3 : b < g.2 + 1 := a3
        show zup g.1 g.2 (E i) a ≠ zup g.1 g.2 (E i) b
        rw [o1 a (by omega)]
        by_cases e : b = g.2
        · rw [e, zup_s]; exact ne a a1 (by omega)
        · rw [o1 b (by omega)]; exact k5 a b a1 a2 (by omega)
      · show g.2 + 1 = i + 1
        rw [k6 (by omega)]
      · show mo ≤ g.2 + 1 ∧ (g.2 + 1 = mo → ∀ a : Int, mo ≤ a → a < i + 1 → ¬ dryM f2 f3 (E a))
        by_cases e : mo ≤ i
        · have := k7 e
          exact ⟨by omega, fun w2 => by omega⟩
        · have := k6 (by omega)
          exact ⟨by omega, fun w2 a a1 a2 => by omega⟩
    · rw [if_neg c]
      refine ⟨⟨k1.1, by omega⟩, fun j j1 => k2 j (by omega), fun j j1 j2 => ?_, fun a a1 a2 a3 => ?_, k5, fun w => ?_, fun w => ?_⟩
      · obtain ⟨a, a1, a2, a3⟩ := k3 j j1 j2
        exact ⟨a, a1, by omega, a3⟩
      · by_cases e : a = i
        · subst e; exact absurd a3 c
        · exact k4 a a1 (by omega) a3
      · exact absurd (hmo i h0 (by omega)) c
      · by_cases e : mo ≤ i
        · obtain ⟨w1, w2⟩ := k7 e
          refine ⟨w1, fun q a a1 a2 => ?_⟩
          by_cases e2 : a = i
          · subst e2; exact c
          · exact w2 q a a1 (by omega)
        · exact absurd (hmo i h0 (by omega)) c
theorem kd_e {f2 f3 f5 so bm E : Int → Int} {mo m : Int} (hk : okR f2 f3 f5) (he : plE f2 f3 f5 so bm) (hE : ∀ j : Int, 0 ≤ j → j < m → (0 ≤ E j ∧ E j < pw9 (f2 0)) ∧ dsF (slI (f2 0) (E j)) (f2 0).toNat 0 0 = true) : ∀ (n : Nat) (i : Int) (s g : (Int → Int) × Int), 0 ≤ i → i + n = m → (0 ≤ g.2 ∧ g.2 ≤ i) → (∀ j : Int, i ≤ j → j < m → g.1 j = E j) → s.2 = g.2 → (∀ j : Int, 0 ≤ j → j < m → s.1 j = g.1 j * unS (f2 0)) →
    (kdF so (f2 0) (f2 2) n i s).2 = (kG f2 f3 n i g).2 ∧ (∀ j : Int, 0 ≤ j → j < m → (kdF so (f2 0) (f2 2) n i s).1 j = (kG f2 f3 n i g).1 j * unS (f2 0))
  | 0, _, _, _, _, _, _, _, h1, h2 => ⟨h1, h2⟩
  | n + 1, i, s, g, h0, hn, hg, h3, h1, h2 => by
    have ei := h3 i (Int.le_refl i) (by omega)
    obtain ⟨e1, e2⟩ := hE i h0 (by omega)
    rw [kdF, kG, h2 i h0 (by omega), ei, lk_e hk he e1 e2]
    by_cases c : lkM (slI (f2 0) (E i)) f3 (f2 0) (f2 2) 8 0 = 0
    · rw [if_pos c, if_pos c]
      refine kd_e (mo := mo) hk he hE n (i + 1) _ _ (by omega) (by omega) ⟨by show 0 ≤ g.2 + 1; omega, by show g.2 + 1 ≤ i + 1; omega⟩ (fun j j1 j2 => ?_) (by show s.2 + 1 = g.2 + 1; omega) (fun j j1 j2 => ?_)
      · show zup g.1 g.2 (E i) j = E j
        rw [zup_n _ (by omega)]; exact h3 j (by omega) j2
      · show zup s.1 s.2 (E i * unS (f2 0)) j = zup g.1 g.2 (E i) j * unS (f2 0)
        rw [h1]
        by_cases e : j = g.2
        · rw [e, zup_s, zup_s]
        · rw [zup_n _ e, zup_n _ e]; exact h2 j j1 j2
    · rw [if_neg c, if_neg c]
      exact kd_e (mo := mo) hk he hE n (i + 1) s g (by omega) (by omega) ⟨hg.1, by omega⟩ (fun j j1 j2 => h3 j (by omega) j2) h1 h2
theorem rsM_ok {f2 f3 f5 : Int → Int} {X : Int → Prop} {most : Int} {z : Int → Int} (hP : 0 ≤ f2 0 ∧ f2 0 ≤ 4) (hz : ∀ r : Int, 0 ≤ r → r < pw9 (f2 0) → (z r ≠ 0 ↔ X r)) : ∀ (n : Nat) (h : Int) (S : BQ), 0 ≤ h → h + n = pw9 (f2 0) → staB f2 f3 f5 X most S → (∀ r : Int, 0 ≤ r → r < h → X r → S.2.2 r ≠ 9999) → staB f2 f3 f5 X most (rsM z n h S) ∧ (∀ r : Int, 0 ≤ r → r < pw9 (f2 0) → X r → (rsM z n h S).2.2 r ≠ 9999)
  | 0, h, S, h0, hn, hs, hr => ⟨hs, fun r r1 r2 => hr r r1 (by omega)⟩
  | n + 1, h, S, h0, hn, hs, hr => by
    rw [rsM]
    have hzh := hz h h0 (by omega)
    by_cases c : z h = 0
    · rw [if_pos c]
      refine rsM_ok hP hz n (h + 1) S (by omega) (by omega) hs (fun r r1 r2 r3 => ?_)
      by_cases e : r = h
      · rw [e] at r3; exact absurd c (hzh.mpr r3)
      · exact hr r r1 (by omega) r3
    · rw [if_neg c]
      obtain ⟨s1, s2⟩ := staB_rc hP hs ⟨h0, by omega⟩ (hzh.mp c)
      refine rsM_ok hP hz n (h + 1) _ (by omega) (by omega) s1 (fun r r1 r2 r3 => ?_)
      by_cases e : r = h
      · rw [e]; exact s2
      · have := hr r r1 (by omega) r3
        rw [(rcM_ext h 0 S).2.2 r this]
        exact this
/-- slept dry in -/
def slX (f2 f3 : Int → Int) (U : BQ) (r : Int) : Prop := (0 ≤ r ∧ r < pw9 (f2 0)) ∧ U.2.2 r ≠ 9999 ∧ dryM f2 f3 r
theorem mor_e {f2 f3 f5 : Int → Int} {U : BQ} (hP : 0 ≤ f2 0 ∧ f2 0 ≤ 4) (hu : ∀ r : Int, 0 ≤ r → r < pw9 (f2 0) → U.2.2 r ≤ 9999) : staB f2 f3 f5 (slX f2 f3 U) (f2 7) (rsM (slM f2 f3 U) (pw9 (f2 0)).toNat 0 (U.1, 0, fun _ => 9999)) ∧ (∀ r : Int, 0 ≤ r → r < pw9 (f2 0) → ((gfM f2 f3 f5 (f2 7) 6562 0 (rsM (slM f2 f3 U) (pw9 (f2 0)).toNat 0 (U.1, 0, fun _ => 9999))).2.2 r ≠ 9999 ↔ clo f2 f3 f5 (slX f2 f3 U) (f2 7).toNat r)) := by
  have h9 := pw9_rng (n := f2 0) hP.2
  obtain ⟨s1, s2⟩ := rsM_ok (f3 := f3) (f5 := f5) (X := slX f2 f3 U) (most := f2 7) (z := slM f2 f3 U) hP (fun r r1 r2 => by
    unfold slM slX dryM
    have := hu r r1 r2
    constructor
    · intro w
      by_cases c : U.2.2 r < 9999 ∧ lkM (slI (f2 0) r) f3 (f2 0) (f2 2) 8 0 = 0
      · exact ⟨⟨r1, r2⟩, by omega, c.2⟩
      · rw [if_neg c] at w; exact absurd rfl w
    · rintro ⟨-, w1, w2⟩
      rw [if_pos ⟨by omega, w2⟩]; decide) (pw9 (f2 0)).toNat 0 (U.1, 0, fun _ => 9999) (Int.le_refl 0) (by omega) (staB_0 f2 f3 f5 U.1 _ _) (fun r r1 r2 => absurd r2 (by omega))
  exact ⟨s1, fun r r1 r2 => bfs_set hP s1 (fun r hr => hr.1) (fun r hr => s2 r hr.1.1 hr.1.2 hr) ⟨r1, r2⟩⟩
theorem gf_rng {f2 f3 f5 : Int → Int} {X : Int → Prop} {most : Int} {S : BQ} (hP : 0 ≤ f2 0 ∧ f2 0 ≤ 4) (hs : staB f2 f3 f5 X most S) : ∀ r : Int, 0 ≤ r → r < pw9 (f2 0) → (gfM f2 f3 f5 most 6562 0 S).2.2 r ≤ 9999 := by
  have h9 := pw9_rng (n := f2 0) hP.2
  obtain ⟨⟨dc, -, hi⟩, -, -⟩ := bfs_ok hP hs
  exact fun r r1 r2 => (hi.1.2.2 r r1 (by omega)).2
/-- once a dry night brings nothing new, it never does -/
theorem ny_no {f2 f3 f5 : Int → Int} {to : Int} (hP : 0 ≤ f2 0 ∧ f2 0 ≤ 4) (ht : 0 ≤ to ∧ to < pw9 (f2 0)) : ∀ (n : Nat) (j : Int) (U : BQ), (∀ r : Int, 0 ≤ r → r < pw9 (f2 0) → U.2.2 r ≤ 9999) → U.2.2 to = 9999 → (∀ r : Int, clo f2 f3 f5 (slX f2 f3 U) (f2 7).toNat r → U.2.2 r ≠ 9999) → nyM f2 f3 f5 to n j U = -9
  | 0, _, _, _, _, _ => rfl
  | n + 1, j, U, hu, h1, h2 => by
    rw [nyM, if_neg (by omega)]
    obtain ⟨m1, m2⟩ := mor_e (f3 := f3) (f5 := f5) hP hu
    refine ny_no hP ht n (j + 1) _ (gf_rng hP m1) ?_ (fun r hr => ?_)
    · exact Classical.byContradiction fun w => h2 to ((m2 to ht.1 ht.2).mp w) h1
    · have hrr := clo_rng hP (fun r hr => hr.1) _ r hr
      refine (m2 r hrr.1 hrr.2).mpr (clo_ind (fun a ha => ?_) _ r hr)
      exact ⟨ha.1, h2 a ((m2 a ha.1.1 ha.1.2).mp ha.2.1), ha.2.2⟩
theorem ny_e {f2 f3 f5 so bm : Int → Int} {to dy : Int} (hk : okR f2 f3 f5) (he : plE f2 f3 f5 so bm) (ht : 0 ≤ to ∧ to < pw9 (f2 0)) : ∀ (n : Nat) (night mo : Int) (S T U : BQ), rQ (f2 0) S T → (∃ (X : Int → Prop) (most dc : Int), invB f2 f3 f5 X most dc T ∧ ∀ r : Int, X r → dsF (slI (f2 0) r) (f2 0).toNat 0 0 = true) → (∀ r : Int, 0 ≤ r → r < pw9 (f2 0) → (T.2.2 r ≠ 9999 ↔ U.2.2 r ≠ 9999)) → (∀ r : Int, 0 ≤ r → r < pw9 (f2 0) → U.2.2 r ≤ 9999) → (0 ≤ mo ∧ mo ≤ T.2.1) → (∀ j : Int, 0 ≤ j → j < mo → dryM f2 f3 (T.1 j)) → (∀ r : Int, clo f2 f3 f5 (fun r => ∃ j : Int, 0 ≤ j ∧ j < mo ∧ T.1 j = r) (f2 7).toNat r → T.2.2 r ≠ 9999) → dy + night + n ≤ 1000 →
    nyF (lwC f2 so bm) so (f2 0) (f2 2) (f2 7) dy (to * unS (f2 0)) n night mo S = nyM f2 f3 f5 to n night U
  | 0, _, _, _, _, _, _, _, _, _, _, _, _, _ => rfl
  | n + 1, night, mo, S, T, U, hq, ⟨X, most, dc, hi, hX⟩, hTU, hU, hmo, hdr, hcl, hdy => by
    have h9 := pw9_rng (n := f2 0) hk.1.2
    have hm := qkM_m hi.1
    obtain ⟨q1, q2, q3⟩ := id hq
    rw [nyF, if_neg (by omega), nyM]
    have hft : ftA S.2.2 (to * unS (f2 0)) ≠ -9 ↔ T.2.2 to ≠ 9999 := by
      unfold ftA
      rw [if_pos (hc_rng hk.1 ht)]
      rcases q3 to ht.1 ht.2 with z | z
      · exact ⟨fun w => absurd z.1 w, fun w => absurd z.2 w⟩
      · obtain ⟨⟨-, j, j1, j2, j3⟩, -⟩ := hi.2.2.2 to ht.1 (by omega) z.2
        have b := hi.1.2.1 j j1 j2
        rw [j3] at b
        exact ⟨fun _ => z.2, fun _ => by rw [z.1]; omega⟩
    by_cases c : T.2.2 to ≠ 9999
    · have := (hTU to ht.1 ht.2).mp c
      have := hU to ht.1 ht.2
      rw [if_pos (hft.mpr c), if_pos (by omega)]
    · have hut : U.2.2 to = 9999 := Classical.byContradiction fun w => c ((hTU to ht.1 ht.2).mpr w)
      rw [if_neg (fun w => c (hft.mp w)), if_neg (show ¬ U.2.2 to < 9999 by omega)]
      have hE : ∀ j : Int, 0 ≤ j → j < T.2.1 → (0 ≤ T.1 j ∧ T.1 j < pw9 (f2 0)) ∧ dsF (slI (f2 0) (T.1 j)) (f2 0).toNat 0 0 = true := fun j j1 j2 => by
        obtain ⟨b1, b2, -, -⟩ := hi.1.2.1 j j1 j2
        exact ⟨⟨b1, b2⟩, (hi.2.2.2 _ b1 (by omega) (ent_n hi.1 j1 j2)).2.2.2.2.elim (hX _) lw_ds⟩
      have hin : ∀ r : Int, 0 ≤ r → r < pw9 (f2 0) → T.2.2 r ≠ 9999 → ∃ j : Int, 0 ≤ j ∧ j < T.2.1 ∧ T.1 j = r := fun r r1 r2 r3 => (hi.2.2.2 r r1 (by omega) r3).1.2
      have kk := kG_ok (f2 := f2) (f3 := f3) (E := T.1) (mo := mo) (m := T.2.1) hi.2.1 hdr T.2.1.toNat 0 (T.1, 0) (Int.le_refl 0) (by omega) ⟨⟨Int.le_refl 0, Int.le_refl 0⟩, fun _ _ => rfl, fun j j1 j2 => absurd j2 (by show ¬ j < 0; omega), fun a a1 a2 => absurd a2 (by omega), fun a b a1 a2 a3 => absurd a3 (by show ¬ b < 0; omega), fun _ => rfl, fun w => ⟨by show mo ≤ 0; exact w, fun _ a a1 a2 => absurd a2 (by omega)⟩⟩
      have kd := kd_e (mo := mo) (E := T.1) (m := T.2.1) hk he hE T.2.1.toNat 0 (S.1, 0) (T.1, 0) (Int.le_refl 0) (by omega) ⟨Int.le_refl 0, Int.le_refl 0⟩ (fun _ _ _ => rfl) rfl q2
      rw [q1]
      generalize kdF so (f2 0) (f2 2) T.2.1.toNat 0 (S.1, 0) = K at kd ⊢
      generalize kG f2 f3 T.2.1.toNat 0 (T.1, 0) = g at kd kk
      obtain ⟨kd1, kd2⟩ := kd
      obtain ⟨k1, -, k3, k4, k5, -, k7⟩ := kk
      rw [kd1]
      by_cases e : g.2 = mo
      · rw [if_pos e]
        obtain ⟨m1, m2⟩ := mor_e (f3 := f3) (f5 := f5) hk.1 hU
        have w2 := (k7 hmo.2).2 e
        have hsub : ∀ r : Int, slX f2 f3 U r → ∃ j : Int, 0 ≤ j ∧ j < mo ∧ T.1 j = r := fun r hr => by
          obtain ⟨j, j1, j2, j3⟩ := hin r hr.1.1 hr.1.2 ((hTU r hr.1.1 hr.1.2).mpr hr.2.1)
          refine ⟨j, j1, ?_, j3⟩
          refine Classical.byContradiction fun w => w2 j (by omega) j2 ?_
          rw [j3]; exact hr.2.2
        have hno : ∀ r : Int, clo f2 f3 f5 (slX f2 f3 U) (f2 7).toNat r → U.2.2 r ≠ 9999 := fun r hr => by
          have hrr := clo_rng hk.1 (fun r hr => hr.1) _ r hr
          exact (hTU r hrr.1 hrr.2).mp (hcl r (clo_ind hsub _ r hr))
        have := ny_no hk.1 ht (n + 1) night U hU hut hno
        rw [nyM, if_neg (by omega)] at this
        exact this.symm
      · rw [if_neg e]
        obtain ⟨m1, m2⟩ := mor_e (f3 := f3) (f5 := f5) hk.1 hU
        have hgx : ∀ j : Int, 0 ≤ j → j < g.2 → (0 ≤ g.1 j ∧ g.1 j < pw9 (f2 0)) ∧ slX f2 f3 U (g.1 j) := fun j j1 j2 => by
          obtain ⟨a, a1, a2, a3, a4⟩ := k3 j j1 j2
          have hb := hE a a1 a2
          rw [a3]
          exact ⟨hb.1, hb.1, (hTU _ hb.1.1 hb.1.2).mp (ent_n hi.1 a1 a2), a4⟩
        have hxd : ∀ r : Int, slX f2 f3 U r → dsF (slI (f2 0) r) (f2 0).toNat 0 0 = true := fun r hr => by
          obtain ⟨j, j1, j2, j3⟩ := hin r hr.1.1 hr.1.2 ((hTU r hr.1.1 hr.1.2).mpr hr.2.1)
          rw [← j3]; exact (hE j j1 j2).2
        have hxg : ∀ r : Int, slX f2 f3 U r → ∃ j : Int, 0 ≤ j ∧ j < g.2 ∧ g.1 j = r := fun r hr => by
          obtain ⟨j, j1, j2, j3⟩ := hin r hr.1.1 hr.1.2 ((hTU r hr.1.1 hr.1.2).mpr hr.2.1)
          obtain ⟨i, i1, i2, i3⟩ := k4 j j1 j2 (by rw [j3]; exact hr.2.2)
          exact ⟨i, i1, i2, by rw [i3]; exact j3⟩
        obtain ⟨s1, s2, s3⟩ := sim_spr (F := K.1) (G := g.1) (F2 := T.1) (X := slX f2 f3 U) (most := f2 7) (acts := f2 7) (s0 := 0) (st := g.2) hk he (fun r hr => Or.inr (hxd r hr)) (Or.inl rfl) k1.1 (fun j j1 j2 => kd2 j j1 (by omega)) hgx k5
        have hset := fun r (hr : 0 ≤ r ∧ r < pw9 (f2 0)) => bfs_set (r := r) hk.1 s2 (fun r hr => hr.1) (fun r hr => by
          obtain ⟨j, j1, j2, j3⟩ := hxg r hr
          rw [← j3]; exact (s3.2.1 j j1 j2).2) hr
        obtain ⟨⟨dc2, d0, hi2⟩, hext, -⟩ := bfs_ok hk.1 s2
        have hpre : ∀ j : Int, 0 ≤ j → j < g.2 → (gfM f2 f3 f5 (f2 7) 6562 0 (rsl g.1 g.2.toNat 0 (T.1, 0, fun _ => 9999))).1 j = g.1 j := fun j j1 j2 => by
          rw [hext.2.1 j j1 (by rw [s3.1]; exact j2)]; exact (s3.2.1 j j1 j2).1
        refine ny_e hk he ht n (night + 1) g.2 _ _ _ s1 ⟨_, _, dc2, hi2, hxd⟩ (fun r r1 r2 => ?_) (gf_rng hk.1 m1) ⟨k1.1, Int.le_trans (Int.le_of_eq s3.1.symm) hext.1⟩ (fun j j1 j2 => ?_) (fun r hr => ?_) (by omega)
        · rw [hset r ⟨r1, r2⟩, m2 r r1 r2]
        · rw [hpre j j1 j2]; exact (hgx j j1 j2).2.2.2
        · have hsub : ∀ a : Int, (∃ j : Int, 0 ≤ j ∧ j < g.2 ∧ (gfM f2 f3 f5 (f2 7) 6562 0 (rsl g.1 g.2.toNat 0 (T.1, 0, fun _ => 9999))).1 j = a) → slX f2 f3 U a := fun a ⟨j, j1, j2, j3⟩ => by
            rw [← j3, hpre j j1 j2]; exact (hgx j j1 j2).2
          have hc2 := clo_ind hsub _ r hr
          exact (hset r (clo_rng hk.1 (fun r hr => hr.1) _ r hc2)).mpr hc2
theorem clo_none {f2 f3 f5 : Int → Int} : ∀ (n : Nat) (X : Int → Prop) (r : Int), (∀ a : Int, ¬ X a) → ¬ clo f2 f3 f5 X n r
  | 0, X, r, h, w => h r w
  | n + 1, X, r, h, w => w.elim (clo_none n X r h) (fun ⟨a, ha, _⟩ => clo_none n X a h ha)
theorem nig_e {f2 f3 f5 so bm F F2 : Int → Int} {h to dy ac : Int} (hk : okR f2 f3 f5) (he : plE f2 f3 f5 so bm) (hh : 0 ≤ h ∧ h < pw9 (f2 0)) (hd : dsF (slI (f2 0) h) (f2 0).toNat 0 0 = true) (ht : 0 ≤ to ∧ to < pw9 (f2 0)) (hdy : dy ≤ 900) :
    nyF (lwC f2 so bm) so (f2 0) (f2 2) (f2 7) dy (to * unS (f2 0)) 21 0 0 (sprA (lwC f2 so bm) (f2 0) (zup F 0 (h * unS (f2 0))) 1 (f2 7 - ac)) = nyM f2 f3 f5 to 21 0 (gfM f2 f3 f5 (f2 7 - ac) 6562 0 (rcM h 0 (F2, 0, fun _ => 9999))) := by
  obtain ⟨s1, s2, s3⟩ := sim_1 (F := F) (F2 := F2) (most := f2 7 - ac) (acts := f2 7 - ac) hk he (Or.inl rfl) hh
  obtain ⟨⟨dc, d0, hi⟩, -, -⟩ := bfs_ok hk.1 s2
  exact ny_e hk he ht 21 0 0 _ _ _ s1 ⟨_, _, dc, hi, fun r hr => by rw [hr]; exact hd⟩ (fun r _ _ => Iff.rfl) (gf_rng hk.1 s2) ⟨Int.le_refl 0, (qkM_m hi.1).1⟩ (fun j j1 j2 => absurd j2 (by omega)) (fun r hr => absurd hr (clo_none _ _ _ (fun a ⟨j, j1, j2, _⟩ => by omega))) (by omega)
