/-! ===== both sides: the text read ===== -/
theorem tl_e {tx : Int → Int} {ln : Int} : ∀ (n : Nat) (i : Int) (S : TLS) (R : RIS), okT ln S → tokS S.1 R.1 → jQ S.2 R.2.1 R.2.2.1 R.2.2.2.1 R.2.2.2.2.1 R.2.2.2.2.2 →
    ((rhM (btA tx ln) n i R).2.1.2.2.2.2 = -9 → (tlF (btA tx ln) n i S).1 = (rhM (btA tx ln) n i R).1 ∧ i ≤ (rhM (btA tx ln) n i R).1 ∧ jQ (tlF (btA tx ln) n i S).2.2 (rhM (btA tx ln) n i R).2.2.1 (rhM (btA tx ln) n i R).2.2.2.1 (rhM (btA tx ln) n i R).2.2.2.2.1 (rhM (btA tx ln) n i R).2.2.2.2.2.1 (rhM (btA tx ln) n i R).2.2.2.2.2.2) ∧
    ((rhM (btA tx ln) n i R).2.1.2.2.2.2 ≠ -9 → (tlF (btA tx ln) n i S).1 = -10 - (rhM (btA tx ln) n i R).2.1.2.2.2.2 ∧ 0 ≤ (rhM (btA tx ln) n i R).2.1.2.2.2.2)
  | 0, i, S, R, hk, hs, hj => ⟨fun _ => ⟨rfl, Int.le_refl i, hj⟩, fun w => absurd hs.2 w⟩
  | n + 1, i, S, R, hk, hs, hj => by
    rw [tlF, rhM]
    have h0 := tok_0 hs
    by_cases c : S.1.2.2.1 = 0
    · rw [if_pos c, if_neg (fun w => w.2 (h0.mp c))]
      exact ⟨fun _ => ⟨rfl, Int.le_refl i, hj⟩, fun w => absurd hs.2 w⟩
    · rw [if_neg c, if_pos ⟨hs.2, fun w => c (h0.mpr w)⟩]
      have hit : itR (btA tx ln) (itS (btA tx ln) S) (riM (btA tx ln) R.1 R.2.1 R.2.2.1 R.2.2.2.1 R.2.2.2.2.1 R.2.2.2.2.2) := it_e hk hs hj
      have hik := itS_ok (tx := tx) hk
      generalize itS (btA tx ln) S = r at hit hik ⊢
      generalize riM (btA tx ln) R.1 R.2.1 R.2.2.1 R.2.2.2.1 R.2.2.2.2.1 R.2.2.2.2.2 = R2 at hit ⊢
      by_cases g : r.1 = true
      · rw [if_pos g]
        obtain ⟨g1, g2⟩ := hit.1 g
        have ih := tl_e (tx := tx) n (i + 1) (ntA (btA tx ln) r.2.1.1 r.2.1.2.2.2, r.2.2) R2 ⟨ntA_ok hik.1.1 hik.1.2.2.2.1, hik.2⟩ g1 g2
        refine ⟨fun w => ?_, ih.2⟩
        obtain ⟨a1, a2, a3⟩ := ih.1 w
        exact ⟨a1, by omega, a3⟩
      · rw [if_neg g]
        have g0 : r.1 = false := by cases hr : r.1 with
          | true => exact absurd hr g
          | false => rfl
        obtain ⟨g1, g2⟩ := hit.2 g0
        have e : rhM (btA tx ln) n (i + 1) R2 = (i + 1, R2) := by
          cases n with
          | zero => rfl
          | succ n => rw [rhM, if_neg (fun w => g2 w.1)]
        rw [e]
        refine ⟨fun w => absurd w g2, fun _ => ⟨?_, ?_⟩⟩
        · show -10 - r.2.1.2.1 = -10 - R2.1.2.2.2.2
          rw [g1]
        · show 0 ≤ R2.1.2.2.2.2
          rw [g1]; exact hik.1.2.1.1
theorem jQ_0 (so bm f2 f3 f4 f5 : Int → Int) : jQ (0, 0, so, bm, 0, 0, 0, 0, 0, -9, -9, 3, 2) 0 (bgM f2 8) f3 f4 f5 := by
  obtain ⟨b0, b1, b2, b3, b4, b5, b6, b7⟩ := bgM_8 f2
  have hz : ∀ (k : Int) (p : Prop), ¬ p → (ztb 0 k = true ↔ p) := fun k p hp => ⟨fun w => by rw [ztb_0] at w; exact absurd w (by decide), fun w => absurd w hp⟩
  exact ⟨⟨b0, b1, b2, b3, b4, b5, b6, b7⟩, fun j j1 j2 => absurd (show j < 0 from j2) (by omega), fun j j1 j2 => absurd (show j < 0 from j2) (by omega), ⟨hz _ _ (fun w => w rfl), hz _ _ (fun w => w rfl), hz _ _ (show ¬ (0 : Int) = 1 by decide), hz _ _ (show ¬ (0 : Int) = 1 by decide)⟩, fun a b a1 a2 a3 => absurd (show b < 0 from a3) (by omega), Int.le_refl 0⟩
theorem ta_e {tx so bm f2 f3 f4 f5 : Int → Int} {ln vl : Int} (hl : 0 ≤ ln) (hv : 0 ≤ vl ∧ vl ≤ 100) (hso : ∀ i : Int, 0 ≤ i → i < 4 → 0 ≤ so i ∧ so i ≤ 3) (hbm : ∀ i : Int, 0 ≤ i → i < 2 → 0 ≤ bm i ∧ bm i < 256) :
    ((rhA (btA tx ln) f2 f3 f4 f5).2.1.2.2.2.2 = -9 → (tlA (btA tx ln) vl so bm).1 = (rhA (btA tx ln) f2 f3 f4 f5).1 ∧ 0 ≤ (rhA (btA tx ln) f2 f3 f4 f5).1 ∧ jQ (tlA (btA tx ln) vl so bm).2.2 (rhA (btA tx ln) f2 f3 f4 f5).2.2.1 (rhA (btA tx ln) f2 f3 f4 f5).2.2.2.1 (rhA (btA tx ln) f2 f3 f4 f5).2.2.2.2.1 (rhA (btA tx ln) f2 f3 f4 f5).2.2.2.2.2.1 (rhA (btA tx ln) f2 f3 f4 f5).2.2.2.2.2.2) ∧
    ((rhA (btA tx ln) f2 f3 f4 f5).2.1.2.2.2.2 ≠ -9 → (tlA (btA tx ln) vl so bm).1 = -10 - (rhA (btA tx ln) f2 f3 f4 f5).2.1.2.2.2.2 ∧ 0 ≤ (rhA (btA tx ln) f2 f3 f4 f5).2.1.2.2.2.2) :=
  tl_e 201 0 _ _ (okT_0 hl hv hso hbm) ⟨nt_e ⟨Int.le_refl 0, hl⟩, rfl⟩ (jQ_0 so bm f2 f3 f4 f5)
/-- reading leaves what is not the draft's -/
def frD (S T : RIS) : Prop := (∀ i : Int, i < 8 → T.2.2.1 i = S.2.2.1 i) ∧ (∀ i : Int, i < 4 → T.2.2.2.1 i = S.2.2.2.1 i) ∧ (∀ i : Int, i < 4 → T.2.2.2.2.1 i = S.2.2.2.2.1 i) ∧ (∀ i : Int, i < 2 → T.2.2.2.2.2 i = S.2.2.2.2.2 i)
theorem riN_fr {b : Int → Int} {w tl : Int} {s : DUS} {f2 f3 f4 f5 : Int → Int} (h8 : 0 ≤ f2 8) (h9 : 0 ≤ f2 9) (t2 : DUS) (tl2 : Int) : frD (t2, tl2, f2, f3, f4, f5) (riN b w s tl f2 f3 f4 f5) := by
  by_cases c1 : w < 4
  · rw [riN_4 c1]
    exact ⟨fun i h => zup_n _ (by omega), fun i h => zup_n _ (by omega), fun i h => zup_n _ (by omega), fun i h => rfl⟩
  · by_cases c2 : w = 4
    · rw [riN_b c2]
      exact ⟨fun i h => zup_n _ (by omega), fun i h => rfl, fun i h => rfl, fun i h => zup_n _ (by omega)⟩
    · by_cases c3 : w < 7
      · rw [riN_r ⟨by omega, c3⟩]
        exact ⟨fun i h => zup_n _ (by omega), fun i h => rfl, fun i h => rfl, fun i h => rfl⟩
      · rw [riN_n (by omega) rfl rfl]
        exact ⟨fun i h => zup_n _ (by omega), fun i h => rfl, fun i h => rfl, fun i h => rfl⟩
theorem frD_trans {S T U : RIS} (h : frD S T) (g : frD T U) : frD S U :=
  ⟨fun i w => (g.1 i w).trans (h.1 i w), fun i w => (g.2.1 i w).trans (h.2.1 i w), fun i w => (g.2.2.1 i w).trans (h.2.2.1 i w), fun i w => (g.2.2.2 i w).trans (h.2.2.2 i w)⟩
theorem riM_fr {b : Int → Int} {S : RIS} (h8 : 0 ≤ S.2.2.1 8) (h9 : 0 ≤ S.2.2.1 9) : frD S (riM b S.1 S.2.1 S.2.2.1 S.2.2.2.1 S.2.2.2.2.1 S.2.2.2.2.2) := by
  by_cases c : (duM b (myP S.2.2.1 S.2.1 S.1.2.2.1) S.1).2.2.2.2 = -9
  · rw [riM_y c]; exact riN_fr h8 h9 S.1 S.2.1
  · rw [riM_n c]; exact ⟨fun _ _ => rfl, fun _ _ => rfl, fun _ _ => rfl, fun _ _ => rfl⟩
theorem rhM_ok {f1 : Int → Int} {td : Int} : ∀ (n : Nat) (i : Int) (S : RIS), okD td S → okD td (rhM (btA f1 td) n i S).2 ∧ frD S (rhM (btA f1 td) n i S).2
  | 0, i, S, h => ⟨h, fun _ _ => rfl, fun _ _ => rfl, fun _ _ => rfl, fun _ _ => rfl⟩
  | n + 1, i, S, h => by
    rw [rhM]
    by_cases c : S.1.2.2.2.2 = -9 ∧ S.1.2.2.1 ≠ 11
    · rw [if_pos c]
      have h1 : okD td (riM (btA f1 td) S.1 S.2.1 S.2.2.1 S.2.2.2.1 S.2.2.2.2.1 S.2.2.2.2.2) := riM_ok h
      obtain ⟨a1, a2⟩ := rhM_ok n (i + 1) _ h1
      exact ⟨a1, frD_trans (riM_fr h.2.2.1.1 h.2.2.2.1.1) a2⟩
    · rw [if_neg c]
      exact ⟨h, fun _ _ => rfl, fun _ _ => rfl, fun _ _ => rfl, fun _ _ => rfl⟩
theorem rhA_ok {f1 : Int → Int} {td : Int} {f2 f3 f4 f5 : Int → Int} (htd : 0 ≤ td) (h3 : ∀ i : Int, 0 ≤ i → i < 8 → 0 ≤ f3 i ∧ f3 i ≤ 3) (h4 : ∀ i : Int, 0 ≤ i → i < 8 → 0 ≤ f4 i ∧ f4 i ≤ 999) (h5 : ∀ i : Int, 0 ≤ i → i < 4 → 0 ≤ f5 i ∧ f5 i < 256) :
    okD td (rhA (btA f1 td) f2 f3 f4 f5).2 ∧ (∀ i : Int, i < 8 → (rhA (btA f1 td) f2 f3 f4 f5).2.2.2.1 i = f2 i) ∧ (∀ i : Int, i < 4 → (rhA (btA f1 td) f2 f3 f4 f5).2.2.2.2.1 i = f3 i) ∧ (∀ i : Int, i < 4 → (rhA (btA f1 td) f2 f3 f4 f5).2.2.2.2.2.1 i = f4 i) ∧ (∀ i : Int, i < 2 → (rhA (btA f1 td) f2 f3 f4 f5).2.2.2.2.2.2 i = f5 i) := by
  obtain ⟨a1, a2⟩ := rhM_ok (f1 := f1) (td := td) 201 0 _ (okD_0 (f1 := f1) (f2 := f2) htd h3 h4 h5)
  exact ⟨a1, fun i h => (a2.1 i h).trans (bgM_lo f2 h), a2.2.1, a2.2.2.1, a2.2.2.2⟩
/-- a told house's number on both sides -/
theorem tn_e {P TH : Int} {f4 : Int → Int} (hP : 0 ≤ P ∧ P ≤ 4) (hT : 0 ≤ TH ∧ TH < 6561 ∧ TH % unS P = 0) (h4 : ∀ j : Int, 0 ≤ j → j < P → pl TH j = f4 j) : TH = hnF f4 P.toNat 0 0 * unS P ∧ (0 ≤ hnF f4 P.toNat 0 0 ∧ hnF f4 P.toNat 0 0 < pw9 P) := by
  obtain ⟨r, hr, e⟩ := hc_of hP ⟨hT.1, hT.2.1⟩ hT.2.2
  have hd : ∀ j : Int, 0 ≤ j → j < P → slI P r j = f4 j := fun j j1 j2 => by rw [← h4 j j1 j2, e, pl_hc hP hr ⟨j1, j2⟩]
  have key : hnF f4 P.toNat 0 0 = r := by
    obtain ⟨b0, b1, b2, b3, b4⟩ := pw9_v
    rcases P5 hP with rfl | rfl | rfl | rfl | rfl
    · show (0 : Int) = r
      rw [b0] at hr; omega
    · show 9 * 0 + f4 0 = r
      rw [b1] at hr
      rw [← hd 0 (by omega) (by omega)]
      unfold slI
      rw [show pw9 (1 - 1 - 0) = 1 from rfl]; omega
    · show 9 * (9 * 0 + f4 0) + f4 1 = r
      rw [b2] at hr
      rw [← hd 0 (by omega) (by omega), ← hd 1 (by omega) (by omega)]
      unfold slI
      rw [show pw9 (2 - 1 - 0) = 9 from rfl, show pw9 (2 - 1 - 1) = 1 from rfl]; omega
    · show 9 * (9 * (9 * 0 + f4 0) + f4 1) + f4 2 = r
      rw [b3] at hr
      rw [← hd 0 (by omega) (by omega), ← hd 1 (by omega) (by omega), ← hd 2 (by omega) (by omega)]
      unfold slI
      rw [show pw9 (3 - 1 - 0) = 81 from rfl, show pw9 (3 - 1 - 1) = 9 from rfl, show pw9 (3 - 1 - 2) = 1 from rfl]; omega
    · show 9 * (9 * (9 * (9 * 0 + f4 0) + f4 1) + f4 2) + f4 3 = r
      rw [b4] at hr
      rw [← hd 0 (by omega) (by omega), ← hd 1 (by omega) (by omega), ← hd 2 (by omega) (by omega), ← hd 3 (by omega) (by omega)]
      unfold slI
      rw [show pw9 (4 - 1 - 0) = 729 from rfl, show pw9 (4 - 1 - 1) = 81 from rfl, show pw9 (4 - 1 - 2) = 9 from rfl, show pw9 (4 - 1 - 3) = 1 from rfl]; omega
  rw [key]
  exact ⟨e, hr⟩
