/-! ===== the search, as numbers: a queue, how many stand in it, by how many acts each house is reached (-9: it is not) ===== -/
abbrev BQ : Type := (Int → Int) × Int × (Int → Int)
def rch (lw : Int → Int) (h n : Int) (S : BQ) : BQ := if ((0 ≤ h ∧ h < 6561) ∧ lw h = 1) ∧ S.2.2 h = -9 ∧ S.2.1 < 3394 then (zup S.1 S.2.1 h, S.2.1 + 1, zup S.2.2 h n) else S
def kF (lw : Int → Int) (h p n : Int) : Nat → Int → BQ → BQ
  | 0, _, S => S
  | j + 1, k, S => kF lw h p n j (k + 1) (rch lw (mv h p k) n S)
def pF (lw : Int → Int) (h n : Int) : Nat → Int → BQ → BQ
  | 0, _, S => S
  | j + 1, p, S => pF lw h n j (p + 1) (if pl h p = 8 then kF lw h p n 8 0 S else rch lw (mv h p 8) n S)
def oneA (lw : Int → Int) (P h n : Int) (S : BQ) : BQ := pF lw h n P.toNat 0 S
def ftA (d : Int → Int) (h : Int) : Int := if 0 ≤ h ∧ h < 6561 then d h else -9
def stF (F : Int → Int) : Nat → Int → (Int → Int) → (Int → Int)
  | 0, _, d => d
  | j + 1, i, d => stF F j (i + 1) (if 0 ≤ F i ∧ F i < 6561 then zup d (F i) 0 else d)
def goF (lw : Int → Int) (P acts : Int) : Nat → Int → BQ → BQ
  | 0, _, S => S
  | j + 1, i, S => if i < S.2.1 then (if acts ≤ ftA S.2.2 (S.1 i) then S else goF lw P acts j (i + 1) (oneA lw P (S.1 i) (ftA S.2.2 (S.1 i) + 1) S)) else S
def sprA (lw : Int → Int) (P : Int) (F : Int → Int) (st acts : Int) : BQ := goF lw P acts 3394 0 (F, st, stF F st.toNat 0 (fun _ => -9))
def qok (S : BQ) : Prop := (0 ≤ S.2.1 ∧ S.2.1 ≤ 3394) ∧ (∀ j : Int, 0 ≤ j → j < S.2.1 → 0 ≤ S.1 j ∧ S.1 j < 6561 ∧ 0 ≤ S.2.2 (S.1 j) ∧ S.2.2 (S.1 j) ≤ j) ∧ (∀ h : Int, 0 ≤ h → h < 6561 → -9 ≤ S.2.2 h ∧ S.2.2 h ≤ 3394)
theorem rch_qok {lw : Int → Int} {h n : Int} {S : BQ} (hq : qok S) (hn : 0 ≤ n ∧ n ≤ S.2.1) : qok (rch lw h n S) ∧ S.2.1 ≤ (rch lw h n S).2.1 := by
  unfold rch
  split
  · rename_i c
    obtain ⟨⟨hr, -⟩, hd, hm⟩ := c
    obtain ⟨h1, h2, h3⟩ := hq
    refine ⟨⟨by dsimp only; omega, ?_, ?_⟩, by dsimp only; omega⟩
    · intro j hj hj2
      dsimp only at hj2 ⊢
      by_cases e : j = S.2.1
      · rw [e, zup_s, zup_s]; omega
      · rw [zup_n _ e]
        have h4 := h2 j hj (by omega)
        have hne : S.1 j ≠ h := fun q => by rw [q, hd] at h4; omega
        rw [zup_n _ hne]
        exact h4
    · intro x hx hx2
      dsimp only
      by_cases e : x = h
      · rw [e, zup_s]; omega
      · rw [zup_n _ e]; exact h3 x hx hx2
  · exact ⟨hq, Int.le_refl _⟩
theorem kF_qok {lw : Int → Int} {h p n : Int} : ∀ (j : Nat) (k : Int) (S : BQ), qok S → 0 ≤ n ∧ n ≤ S.2.1 → qok (kF lw h p n j k S) ∧ S.2.1 ≤ (kF lw h p n j k S).2.1
  | 0, k, S, hq, hn => ⟨hq, Int.le_refl _⟩
  | j + 1, k, S, hq, hn => by
    unfold kF
    obtain ⟨a, b⟩ := rch_qok (lw := lw) (h := mv h p k) hq hn
    obtain ⟨c, d⟩ := kF_qok (lw := lw) (h := h) (p := p) j (k + 1) _ a ⟨hn.1, by omega⟩
    exact ⟨c, by omega⟩
theorem pF_qok {lw : Int → Int} {h n : Int} : ∀ (j : Nat) (p : Int) (S : BQ), qok S → 0 ≤ n ∧ n ≤ S.2.1 → qok (pF lw h n j p S) ∧ S.2.1 ≤ (pF lw h n j p S).2.1
  | 0, p, S, hq, hn => ⟨hq, Int.le_refl _⟩
  | j + 1, p, S, hq, hn => by
    unfold pF
    split
    · obtain ⟨a, b⟩ := kF_qok (lw := lw) (h := h) (p := p) 8 0 S hq hn
      obtain ⟨c, d⟩ := pF_qok (lw := lw) (h := h) j (p + 1) _ a ⟨hn.1, by omega⟩
      exact ⟨c, by omega⟩
    · obtain ⟨a, b⟩ := rch_qok (lw := lw) (h := mv h p 8) hq hn
      obtain ⟨c, d⟩ := pF_qok (lw := lw) (h := h) j (p + 1) _ a ⟨hn.1, by omega⟩
      exact ⟨c, by omega⟩
theorem oneA_qok {lw : Int → Int} {P h n : Int} {S : BQ} (hq : qok S) (hn : 0 ≤ n ∧ n ≤ S.2.1) : qok (oneA lw P h n S) ∧ S.2.1 ≤ (oneA lw P h n S).2.1 := pF_qok _ _ _ hq hn
theorem ftA_in {d : Int → Int} {h : Int} (hh : 0 ≤ h ∧ h < 6561) : ftA d h = d h := if_pos hh
theorem stF_rng (F : Int → Int) : ∀ (n : Nat) (i : Int) (d : Int → Int), (∀ h : Int, 0 ≤ h → h < 6561 → -9 ≤ d h ∧ d h ≤ 0) → ∀ h : Int, 0 ≤ h → h < 6561 → -9 ≤ stF F n i d h ∧ stF F n i d h ≤ 0
  | 0, i, d, hd => hd
  | n + 1, i, d, hd => by
    unfold stF
    apply stF_rng F n (i + 1)
    intro h h0 h1
    split
    · by_cases e : h = F i
      · rw [e, zup_s]; omega
      · rw [zup_n _ e]; exact hd h h0 h1
    · exact hd h h0 h1
theorem stF_keep (F : Int → Int) (h : Int) : ∀ (n : Nat) (i : Int) (d : Int → Int), d h = 0 → stF F n i d h = 0
  | 0, i, d, hd => hd
  | n + 1, i, d, hd => by
    unfold stF
    apply stF_keep F h n (i + 1)
    split
    · by_cases e : h = F i
      · rw [e, zup_s]
      · rw [zup_n _ e]; exact hd
    · exact hd
theorem stF_start (F : Int → Int) : ∀ (n : Nat) (i : Int) (d : Int → Int) (j : Int), i ≤ j → j < i + n → (0 ≤ F j ∧ F j < 6561) → stF F n i d (F j) = 0
  | 0, i, d, j, h1, h2, _ => by omega
  | n + 1, i, d, j, h1, h2, hF => by
    unfold stF
    by_cases e : j = i
    · subst e
      apply stF_keep
      rw [if_pos hF, zup_s]
    · exact stF_start F n (i + 1) _ j (by omega) (by omega) hF
theorem st_qok {F : Int → Int} {st : Int} (h0 : 0 ≤ st ∧ st ≤ 3394) (hF : ∀ j : Int, 0 ≤ j → j < st → 0 ≤ F j ∧ F j < 6561) : qok (F, st, stF F st.toNat 0 (fun _ => -9)) := by
  refine ⟨h0, ?_, ?_⟩
  · intro j hj hj2
    dsimp only at hj2 ⊢
    have h1 := hF j hj hj2
    rw [stF_start F st.toNat 0 _ j hj (by omega) h1]
    omega
  · intro h hh hh2
    have := stF_rng F st.toNat 0 (fun _ => -9) (fun _ _ _ => by omega) h hh hh2
    dsimp only
    omega
theorem goF_qok {lw : Int → Int} {P acts : Int} : ∀ (n : Nat) (i : Int) (S : BQ), 0 ≤ i → qok S → qok (goF lw P acts n i S)
  | 0, i, S, hi, hq => hq
  | n + 1, i, S, hi, hq => by
    unfold goF
    split
    · split
      · exact hq
      · rename_i c _
        have h1 := hq.2.1 i hi c
        have e := ftA_in (d := S.2.2) ⟨h1.1, h1.2.1⟩
        apply goF_qok n (i + 1) _ (by omega)
        exact (oneA_qok hq (by rw [e]; omega)).1
    · exact hq
theorem sprA_qok {lw : Int → Int} {P : Int} {F : Int → Int} {st acts : Int} (h0 : 0 ≤ st ∧ st ≤ 3394) (hF : ∀ j : Int, 0 ≤ j → j < st → 0 ≤ F j ∧ F j < 6561) : qok (sprA lw P F st acts) := goF_qok _ _ _ (Int.le_refl _) (st_qok h0 hF)
