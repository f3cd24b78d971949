/-! ===== both sides: the searches walk alike ===== -/
def rQ (P : Int) (S T : BQ) : Prop := S.2.1 = T.2.1 ∧ (∀ j : Int, 0 ≤ j → j < T.2.1 → S.1 j = T.1 j * unS P) ∧ (∀ r : Int, 0 ≤ r → r < pw9 P → (S.2.2 (r * unS P) = -9 ∧ T.2.2 r = 9999) ∨ (S.2.2 (r * unS P) = T.2.2 r ∧ T.2.2 r ≠ 9999))
abbrev lwC (f2 so bm : Int → Int) : Int → Int := lwS so bm (f2 0) (f2 1) (f2 6)
/-- the start's houses: one may be unlawful -/
def apX (f2 : Int → Int) (X : Int → Prop) (s0 : Int) : Prop := ∀ r : Int, X r → r = s0 ∨ dsF (slI (f2 0) r) (f2 0).toNat 0 0 = true
theorem invB_m {f2 f3 f5 : Int → Int} {X : Int → Prop} {most dc s0 : Int} {T : BQ} (hP : 0 ≤ f2 0 ∧ f2 0 ≤ 4) (hX : apX f2 X s0) (hi : invB f2 f3 f5 X most dc T) : T.2.1 ≤ 3394 :=
  lq_m (s0 := s0) hP hi.1 (fun r h1 h2 h3 => by
    obtain ⟨w1, -, -, -, w5⟩ := hi.2.2.2 r h1 h2 h3
    rcases w5 with w | w
    · exact (hX r w).elim Or.inl (fun q => Or.inr ⟨w1.1, q⟩)
    · exact Or.inr ⟨w1.1, lw_ds w⟩)
theorem sim_rch {f2 f3 f5 so bm : Int → Int} {w n : Int} {S T : BQ} (hk : okR f2 f3 f5) (he : plE f2 f3 f5 so bm) (hq : rQ (f2 0) S T) (hw : 0 ≤ w ∧ w < pw9 (f2 0)) (hl : lwM f2 f3 f5 w = true) (hb : T.2.2 w = 9999 → T.2.1 < 3394) (h0 : 0 ≤ T.2.2 w) (hn : n ≠ 9999) : rQ (f2 0) (rch (lwC f2 so bm) (w * unS (f2 0)) n S) (rcM w n T) := by
  have hl1 := (lwS_1 hk he hw).mpr hl
  have hc := hc_rng hk.1 hw
  obtain ⟨q1, q2, q3⟩ := id hq
  by_cases c : T.2.2 w = 9999
  · have hb := hb c
    have hd : S.2.2 (w * unS (f2 0)) = -9 := (q3 w hw.1 hw.2).elim (fun z => z.1) (fun z => absurd c z.2)
    unfold rch rcM
    rw [if_pos ⟨⟨hc, hl1⟩, hd, by rw [q1]; exact hb⟩, if_pos c]
    refine ⟨by show S.2.1 + 1 = T.2.1 + 1; omega, fun j h1 h2 => ?_, fun r h1 h2 => ?_⟩
    · have h2 : j < T.2.1 + 1 := h2
      show zup S.1 S.2.1 (w * unS (f2 0)) j = zup T.1 T.2.1 w j * unS (f2 0)
      rw [q1]
      by_cases e : j = T.2.1
      · rw [e, zup_s, zup_s]
      · rw [zup_n _ e, zup_n _ e]; exact q2 j h1 (by omega)
    · show (zup S.2.2 (w * unS (f2 0)) n (r * unS (f2 0)) = -9 ∧ zup T.2.2 w n r = 9999) ∨ (zup S.2.2 (w * unS (f2 0)) n (r * unS (f2 0)) = zup T.2.2 w n r ∧ zup T.2.2 w n r ≠ 9999)
      by_cases e : r = w
      · rw [e, zup_s, zup_s]; exact Or.inr ⟨rfl, hn⟩
      · rw [zup_n T.2.2 e, zup_n S.2.2 (fun z => e ((hc_inj hk.1).mp z))]; exact q3 r h1 h2
  · have hd : S.2.2 (w * unS (f2 0)) ≠ -9 := (q3 w hw.1 hw.2).elim (fun z => absurd z.2 c) (fun z => by rw [z.1]; omega)
    unfold rch rcM
    rw [if_neg (fun z => hd z.2.1), if_neg c]
    exact hq
theorem sim_no {f2 f3 f5 so bm : Int → Int} {w n : Int} {S : BQ} (hk : okR f2 f3 f5) (he : plE f2 f3 f5 so bm) (hw : 0 ≤ w ∧ w < pw9 (f2 0)) (hl : ¬ lwM f2 f3 f5 w = true) : rch (lwC f2 so bm) (w * unS (f2 0)) n S = S := by
  unfold rch
  rw [if_neg (fun z => hl ((lwS_1 hk he hw).mp z.1.2))]
theorem sim_k1 {f2 f3 f5 so bm : Int → Int} {X : Int → Prop} {most h dc s0 p k : Int} {S T : BQ} (hk : okR f2 f3 f5) (he : plE f2 f3 f5 so bm) (hX : apX f2 X s0) (hs : hsB f2 f3 f5 X most h dc) (hp : 0 ≤ p ∧ p < f2 0) (hk8 : 0 ≤ k ∧ k ≤ 8) (hr : prB f2 f3 f5 X most h dc T) (hm : lwM f2 f3 f5 (wtI (f2 0) h p k) = true → moM (f2 0) h p k) (hq : rQ (f2 0) S T) : rQ (f2 0) (rch (lwC f2 so bm) (mv (h * unS (f2 0)) p k) (dc + 1) S) (k1M f2 f3 f5 h p k T) := by
  have hw := wtI_rng (k := k) hs.1.2 hs.2.1 hp hk8
  have h9 := pw9_rng (n := f2 0) hs.1.2
  rw [mv_hc hk.1 hs.2.1 hp]
  have hok := k1_ok hs hp hk8 hr
  by_cases c : lwM f2 f3 f5 (wtI (f2 0) h p k) = true
  · have e : k1M f2 f3 f5 h p k T = rcM (wtI (f2 0) h p k) (dc + 1) T := by unfold k1M; rw [if_pos ⟨hm c, c⟩, hr.2.1]
    rw [e] at hok ⊢
    refine sim_rch hk he hq hw c (fun z => ?_) (hr.1.1.2.2 _ hw.1 (by omega)).1 (by have := hs.2.2.1; omega)
    have hb := invB_m hs.1 hX hok.1.1
    unfold rcM at hb
    rw [if_pos z] at hb
    have hb : T.2.1 + 1 ≤ 3394 := hb
    omega
  · rw [sim_no hk he hw c]
    unfold k1M
    rw [if_neg (fun z => c z.2)]
    exact hq
theorem sim_kf {f2 f3 f5 so bm : Int → Int} {X : Int → Prop} {most h dc s0 p : Int} (hk : okR f2 f3 f5) (he : plE f2 f3 f5 so bm) (hX : apX f2 X s0) (hs : hsB f2 f3 f5 X most h dc) (hp : 0 ≤ p ∧ p < f2 0) (h8 : slI (f2 0) h p = 8) : ∀ (n : Nat) (k : Int) (S T : BQ), 0 ≤ k → k + n ≤ 8 → prB f2 f3 f5 X most h dc T → rQ (f2 0) S T → rQ (f2 0) (kF (lwC f2 so bm) (h * unS (f2 0)) p (dc + 1) n k S) (kfM f2 f3 f5 h p n k T)
  | 0, _, _, _, _, _, _, hq => hq
  | n + 1, k, S, T, h1, h2, hr, hq => by
    rw [kF, kfM_s]
    have hm : lwM f2 f3 f5 (wtI (f2 0) h p k) = true → moM (f2 0) h p k := fun z => (moM_l h8).mpr ⟨by omega, free_of hs.1 hs.2.1 hp ⟨h1, by omega⟩ h8 z⟩
    exact sim_kf hk he hX hs hp h8 n (k + 1) _ _ (by omega) (by omega) (k1_ok hs hp ⟨h1, by omega⟩ hr).1 (sim_k1 hk he hX hs hp ⟨h1, by omega⟩ hr hm hq)
theorem kfM_add {f2 f3 f5 : Int → Int} {h p : Int} : ∀ (n m : Nat) (k : Int) (S : BQ), kfM f2 f3 f5 h p (n + m) k S = kfM f2 f3 f5 h p m (k + n) (kfM f2 f3 f5 h p n k S)
  | 0, m, k, S => by rw [Nat.zero_add, kfM, show k + ((0 : Nat) : Int) = k by omega]
  | n + 1, m, k, S => by
    rw [show n + 1 + m = (n + m) + 1 by omega, kfM_s, kfM_s, kfM_add n m (k + 1), show k + 1 + (n : Int) = k + ((n + 1 : Nat) : Int) by omega]
theorem kfM_skip {f2 f3 f5 : Int → Int} {h p : Int} : ∀ (n : Nat) (k : Int) (S : BQ), (∀ j : Int, k ≤ j → j < k + n → ¬ moM (f2 0) h p j) → kfM f2 f3 f5 h p n k S = S
  | 0, _, _, _ => rfl
  | n + 1, k, S, hn => by
    rw [kfM_s, show k1M f2 f3 f5 h p k S = S by unfold k1M; rw [if_neg (fun z => hn k (Int.le_refl k) (by omega) z.1)]]
    exact kfM_skip n (k + 1) S (fun j h1 h2 => hn j (by omega) (by omega))
theorem sim_p1 {f2 f3 f5 so bm : Int → Int} {X : Int → Prop} {most h dc s0 p : Int} {S T : BQ} (hk : okR f2 f3 f5) (he : plE f2 f3 f5 so bm) (hX : apX f2 X s0) (hs : hsB f2 f3 f5 X most h dc) (hp : 0 ≤ p ∧ p < f2 0) (hr : prB f2 f3 f5 X most h dc T) (hq : rQ (f2 0) S T) : rQ (f2 0) (if pl (h * unS (f2 0)) p = 8 then kF (lwC f2 so bm) (h * unS (f2 0)) p (dc + 1) 8 0 S else rch (lwC f2 so bm) (mv (h * unS (f2 0)) p 8) (dc + 1) S) (kfM f2 f3 f5 h p 9 0 T) := by
  rw [pl_hc hk.1 hs.2.1 hp]
  by_cases c : slI (f2 0) h p = 8
  · rw [if_pos c, show (9 : Nat) = 8 + 1 from rfl, kfM_add 8 1, kfM_skip 1 _ _ (fun j h1 h2 z => by have := ((moM_l c).mp z).1; omega)]
    exact sim_kf hk he hX hs hp c 8 0 S T (by omega) (by omega) hr hq
  · rw [if_neg c, show (9 : Nat) = 8 + 1 from rfl, kfM_add 8 1, kfM_skip 8 0 T (fun j h1 h2 z => by have := (moM_s c).mp z; omega)]
    exact sim_k1 hk he hX hs hp ⟨by omega, by omega⟩ hr (fun _ => (moM_s c).mpr rfl) hq
theorem sim_pf {f2 f3 f5 so bm : Int → Int} {X : Int → Prop} {most h dc s0 : Int} (hk : okR f2 f3 f5) (he : plE f2 f3 f5 so bm) (hX : apX f2 X s0) (hs : hsB f2 f3 f5 X most h dc) : ∀ (n : Nat) (p : Int) (S T : BQ), 0 ≤ p → p + n ≤ f2 0 → prB f2 f3 f5 X most h dc T → rQ (f2 0) S T → rQ (f2 0) (pF (lwC f2 so bm) (h * unS (f2 0)) (dc + 1) n p S) (pfM f2 f3 f5 most h n p T)
  | 0, _, _, _, _, _, _, hq => hq
  | n + 1, p, S, T, h1, h2, hr, hq => by
    rw [pF, pfM, if_pos (show T.2.2 h < most by rw [hr.2.1]; exact hs.2.2.1.2.1)]
    exact sim_pf hk he hX hs n (p + 1) _ _ (by omega) (by omega) (kf_ok hs ⟨h1, by omega⟩ 9 0 T (by omega) (by omega) hr).1 (sim_p1 hk he hX hs ⟨h1, by omega⟩ hr hq)
theorem gf_end {f2 f3 f5 : Int → Int} {most i : Int} {T : BQ} (h : ¬ i < T.2.1) : ∀ n : Nat, gfM f2 f3 f5 most n i T = T
  | 0 => rfl
  | n + 1 => by rw [gfM, if_neg h]
theorem gf_stop {f2 f3 f5 : Int → Int} {most : Int} {T : BQ} : ∀ (n : Nat) (i : Int), (∀ j : Int, i ≤ j → j < T.2.1 → ¬ T.2.2 (T.1 j) < most) → gfM f2 f3 f5 most n i T = T
  | 0, _, _ => rfl
  | n + 1, i, h => by
    rw [gfM]
    by_cases c : i < T.2.1
    · rw [if_pos c, pf_no (h i (Int.le_refl i) c)]
      exact gf_stop n (i + 1) (fun j h1 h2 => h j (by omega) h2)
    · rw [if_neg c]
theorem sim_go {f2 f3 f5 so bm : Int → Int} {X : Int → Prop} {most acts s0 : Int} (hk : okR f2 f3 f5) (he : plE f2 f3 f5 so bm) (hX : apX f2 X s0) (ha : acts = most ∨ (3394 ≤ acts ∧ 3394 ≤ most)) : ∀ (n m : Nat) (i : Int) (S T : BQ), i + n = 3394 → i + m = 6562 → 0 ≤ i → (∃ dc : Int, 0 ≤ dc ∧ invB f2 f3 f5 X most dc T ∧ (i < T.2.1 → dc ≤ T.2.2 (T.1 i))) → rQ (f2 0) S T → rQ (f2 0) (goF (lwC f2 so bm) (f2 0) acts n i S) (gfM f2 f3 f5 most m i T)
  | 0, m, i, S, T, h1, h2, h3, ⟨dc, d0, hi, d1⟩, hq => by
    have hb := invB_m hk.1 hX hi
    rw [goF, gf_end (by omega)]
    exact hq
  | n + 1, m, i, S, T, h1, h2, h3, ⟨dc, d0, hi, d1⟩, hq => by
    obtain ⟨m, rfl⟩ : ∃ x, m = x + 1 := ⟨m - 1, by omega⟩
    obtain ⟨q1, q2, q3⟩ := id hq
    by_cases c : i < T.2.1
    · obtain ⟨b1, b2, b3, b4⟩ := hi.1.2.1 i h3 c
      have h9 := pw9_rng (n := f2 0) hk.1.2
      have hne := ent_n hi.1 h3 c
      have hc := hc_rng hk.1 ⟨b1, b2⟩
      have hd : ftA S.2.2 (S.1 i) = T.2.2 (T.1 i) := by
        rw [q2 i h3 c]
        unfold ftA
        rw [if_pos hc]
        exact (q3 _ b1 b2).elim (fun z => absurd z.2 hne) (fun z => z.1)
      have hi2 := invB_dc (d1 c) hi
      rw [goF, if_pos (by rw [q1]; exact c), hd, q2 i h3 c]
      by_cases g : T.2.2 (T.1 i) < most
      · rw [if_neg (show ¬ acts ≤ T.2.2 (T.1 i) by omega), gfM, if_pos c]
        have hs : hsB f2 f3 f5 X most (T.1 i) (T.2.2 (T.1 i)) := ⟨hk.1, ⟨b1, b2⟩, ⟨b3, g, by omega⟩, (hi.2.2.2 _ b1 (by omega) hne).2.2.2.1⟩
        have hpr : prB f2 f3 f5 X most (T.1 i) (T.2.2 (T.1 i)) T := ⟨hi2, rfl, by omega⟩
        obtain ⟨a1, a2, -⟩ := pf_ok hs (f2 0).toNat 0 T (by omega) (by have := hk.1; omega) hpr
        exact sim_go hk he hX ha n m (i + 1) _ _ (by omega) (by omega) (by omega) ⟨T.2.2 (T.1 i), b3, a1.1, fun w => by
            have := a1.1.2.2.1 i (i + 1) h3 (by omega) w
            rw [a2.2.1 i h3 c, a1.2.1] at this
            exact this⟩ (sim_pf hk he hX hs (f2 0).toNat 0 S T (by omega) (by have := hk.1; omega) hpr hq)
      · rw [if_pos (show acts ≤ T.2.2 (T.1 i) by omega), gf_stop (m + 1) i (fun j j1 j2 z => by have := hi.2.2.1 i j h3 j1 j2; omega)]
        exact hq
    · rw [goF, if_neg (by rw [q1]; exact c), gf_end c]
      exact hq
/-- the reference's start in the class's order -/
def rsl (G : Int → Int) : Nat → Int → BQ → BQ
  | 0, _, T => T
  | n + 1, j, T => rsl G n (j + 1) (rcM (G j) 0 T)
def stR (P : Int) (G : Int → Int) (j : Int) (d : Int → Int) (T : BQ) : Prop := T.2.1 = j ∧ (∀ i : Int, 0 ≤ i → i < j → T.1 i = G i ∧ T.2.2 (G i) ≠ 9999) ∧ (∀ r : Int, T.2.2 r ≠ 9999 → ∃ i : Int, 0 ≤ i ∧ i < j ∧ G i = r) ∧ (∀ r : Int, 0 ≤ r → r < pw9 P → (d (r * unS P) = -9 ∧ T.2.2 r = 9999) ∨ (d (r * unS P) = T.2.2 r ∧ T.2.2 r ≠ 9999))
theorem rsl_ok {f2 f3 f5 F G : Int → Int} {X : Int → Prop} {most st : Int} (hP : 0 ≤ f2 0 ∧ f2 0 ≤ 4) (hF : ∀ j : Int, 0 ≤ j → j < st → F j = G j * unS (f2 0)) (hG : ∀ j : Int, 0 ≤ j → j < st → (0 ≤ G j ∧ G j < pw9 (f2 0)) ∧ X (G j)) (hn : ∀ a b : Int, 0 ≤ a → a < b → b < st → G a ≠ G b) : ∀ (n : Nat) (j : Int) (d : Int → Int) (T : BQ), 0 ≤ j → j + n = st → staB f2 f3 f5 X most T → stR (f2 0) G j d T → staB f2 f3 f5 X most (rsl G n j T) ∧ stR (f2 0) G st (stF F n j d) (rsl G n j T)
  | 0, j, d, T, h0, h1, hs, hr => by
    obtain rfl : j = st := by omega
    exact ⟨hs, hr⟩
  | n + 1, j, d, T, h0, h1, hs, ⟨r1, r2, r3, r4⟩ => by
    have hg := hG j h0 (by omega)
    have hf := hF j h0 (by omega)
    have hc := hc_rng hP hg.1
    have hfree : T.2.2 (G j) = 9999 := Classical.byContradiction (fun z => by
      obtain ⟨i, i1, i2, i3⟩ := r3 _ z
      exact hn i j i1 i2 (by omega) i3)
    have e : rcM (G j) 0 T = (zup T.1 T.2.1 (G j), T.2.1 + 1, zup T.2.2 (G j) 0) := if_pos hfree
    rw [rsl, stF, hf, if_pos hc]
    refine rsl_ok hP hF hG hn n (j + 1) _ _ (by omega) (by omega) (staB_rc hP hs hg.1 hg.2).1 ?_
    rw [e]
    refine ⟨by show T.2.1 + 1 = j + 1; omega, fun i i1 i2 => ?_, fun r hr => ?_, fun r s1 s2 => ?_⟩
    · show zup T.1 T.2.1 (G j) i = G i ∧ zup T.2.2 (G j) 0 (G i) ≠ 9999
      rw [r1]
      by_cases c : i = j
      · rw [c, zup_s, zup_s]; exact ⟨rfl, by decide⟩
      · have := r2 i i1 (by omega)
        rw [zup_n _ c, zup_n _ (hn i j i1 (by omega) (by omega))]; exact this
    · have hr : zup T.2.2 (G j) 0 r ≠ 9999 := hr
      by_cases c : r = G j
      · exact ⟨j, h0, by omega, c.symm⟩
      · rw [zup_n _ c] at hr
        obtain ⟨i, i1, i2, i3⟩ := r3 r hr
        exact ⟨i, i1, by omega, i3⟩
    · show (zup d (G j * unS (f2 0)) 0 (r * unS (f2 0)) = -9 ∧ zup T.2.2 (G j) 0 r = 9999) ∨ (zup d (G j * unS (f2 0)) 0 (r * unS (f2 0)) = zup T.2.2 (G j) 0 r ∧ zup T.2.2 (G j) 0 r ≠ 9999)
      by_cases c : r = G j
      · rw [c, zup_s, zup_s]; exact Or.inr ⟨rfl, by decide⟩
      · rw [zup_n T.2.2 c, zup_n d (fun z => c ((hc_inj hP).mp z))]; exact r4 r s1 s2
/-- a spread of the class, seen as one of the reference from the same houses in the same order -/
theorem sim_spr {f2 f3 f5 so bm F G F2 : Int → Int} {X : Int → Prop} {most acts s0 st : Int} (hk : okR f2 f3 f5) (he : plE f2 f3 f5 so bm) (hX : apX f2 X s0) (ha : acts = most ∨ (3394 ≤ acts ∧ 3394 ≤ most)) (hst : 0 ≤ st) (hF : ∀ j : Int, 0 ≤ j → j < st → F j = G j * unS (f2 0)) (hG : ∀ j : Int, 0 ≤ j → j < st → (0 ≤ G j ∧ G j < pw9 (f2 0)) ∧ X (G j)) (hn : ∀ a b : Int, 0 ≤ a → a < b → b < st → G a ≠ G b) :
    rQ (f2 0) (sprA (lwC f2 so bm) (f2 0) F st acts) (gfM f2 f3 f5 most 6562 0 (rsl G st.toNat 0 (F2, 0, fun _ => 9999))) ∧ staB f2 f3 f5 X most (rsl G st.toNat 0 (F2, 0, fun _ => 9999)) ∧ stR (f2 0) G st (stF F st.toNat 0 (fun _ => -9)) (rsl G st.toNat 0 (F2, 0, fun _ => 9999)) := by
  obtain ⟨r1, r2⟩ := rsl_ok (f3 := f3) (f5 := f5) (X := X) (most := most) hk.1 hF hG hn st.toNat 0 (fun _ => -9) (F2, 0, fun _ => 9999) (Int.le_refl 0) (by omega) (staB_0 f2 f3 f5 F2 X most)
    ⟨rfl, fun i i1 i2 => absurd i2 (by omega), fun r hr => absurd rfl hr, fun r _ _ => Or.inl ⟨rfl, rfl⟩⟩
  refine ⟨?_, r1, r2⟩
  unfold sprA
  refine sim_go hk he hX ha 3394 6562 0 _ _ (by omega) (by omega) (Int.le_refl 0) ⟨0, Int.le_refl 0, r1.1, fun w => (r1.1.1.2.1 0 (Int.le_refl 0) w).2.2.1⟩ ?_
  refine ⟨r2.1.symm, fun j j1 j2 => ?_, r2.2.2.2⟩
  rw [r2.1] at j2
  rw [(r2.2.1 j j1 j2).1]
  exact hF j j1 j2
/-- from one house -/
theorem sim_1 {f2 f3 f5 so bm F F2 : Int → Int} {most acts h : Int} (hk : okR f2 f3 f5) (he : plE f2 f3 f5 so bm) (ha : acts = most ∨ (3394 ≤ acts ∧ 3394 ≤ most)) (hh : 0 ≤ h ∧ h < pw9 (f2 0)) :
    rQ (f2 0) (sprA (lwC f2 so bm) (f2 0) (zup F 0 (h * unS (f2 0))) 1 acts) (gfM f2 f3 f5 most 6562 0 (rcM h 0 (F2, 0, fun _ => 9999))) ∧ staB f2 f3 f5 (fun r => r = h) most (rcM h 0 (F2, 0, fun _ => 9999)) ∧ (rcM h 0 (F2, 0, fun _ => 9999)).2.2 h ≠ 9999 := by
  have r := sim_spr (F := zup F 0 (h * unS (f2 0))) (G := fun _ => h) (F2 := F2) (X := fun r => r = h) (most := most) (acts := acts) (s0 := h) (st := 1) hk he (fun r hr => Or.inl hr) ha (by omega)
    (fun j h1 h2 => by obtain rfl : j = 0 := by omega
                       exact zup_s _ _ _) (fun j h1 h2 => ⟨hh, rfl⟩) (fun a b h1 h2 h3 => absurd h3 (by omega))
  exact ⟨r.1, r.2.1, (r.2.2.2.1 0 (Int.le_refl 0) (by omega)).2⟩
