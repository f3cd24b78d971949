/-! ===== the search, as numbers: a queue, how many stand in it, by how many acts each house is reached (-9: it is not) ===== -/
abbrev BQ : Type := (Int → Int) × Int × (Int → Int)
def rch (lw : Int → Int) (h n : Int) (S : BQ) : BQ := if ((0 ≤ h ∧ h < 6561) ∧ lw h = 1) ∧ S.2.2 h = -9 ∧ S.2.1 < 3394 then (zup S.1 S.2.1 h, S.2.1 + 1, zup S.2.2 h n) else S
def kF (lw : Int → Int) (h p n : Int) : Nat → Int → BQ → BQ
  | 0, _, S => S
  | j + 1, k, S => kF lw h p n j (k + 1) (rch lw (mv h p k) n S)
def pF (lw : Int → Int) (h n : Int) : Nat → Int → BQ → BQ
  | 0, _, S => S
  | j + 1, p, S => pF lw h n j (p + 1) (if pl h p = 8 then kF lw h p n 8 0 S else rch lw (mv h p 8) n S)
def oneA (lw : Int → Int) (P h n : Int) (S : BQ) : BQ := pF lw h n P.toNat 0 S
def ftA (d : Int → Int) (h : Int) : Int := if 0 ≤ h ∧ h < 6561 then d h else -9
def stF (F : Int → Int) : Nat → Int → (Int → Int) → (Int → Int)
  | 0, _, d => d
  | j + 1, i, d => stF F j (i + 1) (if 0 ≤ F i ∧ F i < 6561 then zup d (F i) 0 else d)
def goF (lw : Int → Int) (P acts : Int) : Nat → Int → BQ → BQ
  | 0, _, S => S
  | j + 1, i, S => if i < S.2.1 then (if acts ≤ ftA S.2.2 (S.1 i) then S else goF lw P acts j (i + 1) (oneA lw P (S.1 i) (ftA S.2.2 (S.1 i) + 1) S)) else S
def sprA (lw : Int → Int) (P : Int) (F : Int → Int) (st acts : Int) : BQ := goF lw P acts 3394 0 (F, st, stF F st.toNat 0 (fun _ => -9))
def qok (S : BQ) : Prop := (0 ≤ S.2.1 ∧ S.2.1 ≤ 3394) ∧ (∀ j : Int, 0 ≤ j → j < S.2.1 → 0 ≤ S.1 j ∧ S.1 j < 6561 ∧ 0 ≤ S.2.2 (S.1 j) ∧ S.2.2 (S.1 j) ≤ j) ∧ (∀ h : Int, 0 ≤ h → h < 6561 → -9 ≤ S.2.2 h ∧ S.2.2 h ≤ 3394)
theorem rch_qok {lw : Int → Int} {h n : Int} {S : BQ} (hq : qok S) (hn : 0 ≤ n ∧ n ≤ S.2.1) : qok (rch lw h n S) ∧ S.2.1 ≤ (rch lw h n S).2.1 := by
  unfold rch
  split
  · rename_i c
    obtain ⟨⟨hr, -⟩, hd, hm⟩ := c
    obtain ⟨h1, h2, h3⟩ := hq
    refine ⟨⟨by dsimp only; omega, ?_, ?_⟩, by dsimp only; omega⟩
    · intro j hj hj2
      dsimp only at hj2 ⊢
      by_cases e : j = S.2.1
      · rw [e, zup_s, zup_s]; omega
      · rw [zup_n _ e]
        have h4 := h2 j hj (by omega)
        have hne : S.1 j ≠ h := fun q => by rw [q, hd] at h4; omega
        rw [zup_n _ hne]
        exact h4
    · intro x hx hx2
      dsimp only
      by_cases e : x = h
      · rw [e, zup_s]; omega
      · rw [zup_n _ e]; exact h3 x hx hx2
  · exact ⟨hq, Int.le_refl _⟩
theorem kF_qok {lw : Int → Int} {h p n : Int} : ∀ (j : Nat) (k : Int) (S : BQ), qok S → 0 ≤ n ∧ n ≤ S.2.1 → qok (kF lw h p n j k S) ∧ S.2.1 ≤ (kF lw h p n j k S).2.1
  | 0, k, S, hq, hn => ⟨hq, Int.le_refl _⟩
  | j + 1, k, S, hq, hn => by
    unfold kF
    obtain ⟨a, b⟩ := rch_qok (lw := lw) (h := mv h p k) hq hn
    obtain ⟨c, d⟩ := kF_qok (lw := lw) (h := h) (p := p) j (k + 1) _ a ⟨hn.1, by omega⟩
    exact ⟨c, by omega⟩
theorem pF_qok {lw : Int → Int} {h n : Int} : ∀ (j : Nat) (p : Int) (S : BQ), qok S → 0 ≤ n ∧ n ≤ S.2.1 → qok (pF lw h n j p S) ∧ S.2.1 ≤ (pF lw h n j p S).2.1
  | 0, p, S, hq, hn => ⟨hq, Int.le_refl _⟩
  | j + 1, p, S, hq, hn => by
    unfold pF
    split
    · obtain ⟨a, b⟩ := kF_qok (lw := lw) (h := h) (p := p) 8 0 S hq hn
      obtain ⟨c, d⟩ := pF_qok (lw := lw) (h := h) j (p + 1) _ a ⟨hn.1, by omega⟩
      exact ⟨c, by omega⟩
    · obtain ⟨a, b⟩ := rch_qok (lw := lw) (h := mv h p 8) hq hn
      obtain ⟨c, d⟩ := pF_qok (lw := lw) (h := h) j (p + 1) _ a ⟨hn.1, by omega⟩
      exact ⟨c, by omega⟩
theorem oneA_qok {lw : Int → Int} {P h n : Int} {S : BQ} (hq : qok S) (hn : 0 ≤ n ∧ n ≤ S.2.1) : qok (oneA lw P h n S) ∧ S.2.1 ≤ (oneA lw P h n S).2.1 := pF_qok _ _ _ hq hn
theorem ftA_in {d : Int → Int} {h : Int} (hh : 0 ≤ h ∧ h < 6561) : ftA d h = d h := if_pos hh
theorem stF_rng (F : Int → Int) : ∀ (n : Nat) (i : Int) (d : Int → Int), (∀ h : Int, 0 ≤ h → h < 6561 → -9 ≤ d h ∧ d h ≤ 0) → ∀ h : Int, 0 ≤ h → h < 6561 → -9 ≤ stF F n i d h ∧ stF F n i d h ≤ 0
  | 0, i, d, hd => hd
  | n + 1, i, d, hd => by
    unfold stF
    apply stF_rng F n (i + 1)
    intro h h0 h1
    split
    · by_cases e : h = F i
      · rw [e, zup_s]; omega
      · rw [zup_n _ e]; exact hd h h0 h1
    · exact hd h h0 h1
theorem stF_keep (F : Int → Int) (h : Int) : ∀ (n : Nat) (i : Int) (d : Int → Int), d h = 0 → stF F n i d h = 0
  | 0, i, d, hd => hd
  | n + 1, i, d, hd => by
    unfold stF
    apply stF_keep F h n (i + 1)
    split
    · by_cases e : h = F i
      · rw [e, zup_s]
      · rw [zup_n _ e]; exact hd
    · exact hd
theorem stF_start (F : Int → Int) : ∀ (n : Nat) (i : Int) (d : Int → Int) (j : Int), i ≤ j → j < i + n → (0 ≤ F j ∧ F j < 6561) → stF F n i d (F j) = 0
  | 0, i, d, j, h1, h2, _ => by omega
  | n + 1, i, d, j, h1, h2, hF => by
    unfold stF
    by_cases e : j = i
    · subst e
      apply stF_keep
      rw [if_pos hF, zup_s]
    · exact stF_start F n (i + 1) _ j (by omega) (by omega) hF
theorem st_qok {F : Int → Int} {st : Int} (h0 : 0 ≤ st ∧ st ≤ 3394) (hF : ∀ j : Int, 0 ≤ j → j < st → 0 ≤ F j ∧ F j < 6561) : qok (F, st, stF F st.toNat 0 (fun _ => -9)) := by
  refine ⟨h0, ?_, ?_⟩
  · intro j hj hj2
    dsimp only at hj2 ⊢
    have h1 := hF j hj hj2
    rw [stF_start F st.toNat 0 _ j hj (by omega) h1]
    omega
  · intro h hh hh2
    have := stF_rng F st.toNat 0 (fun _ => -9) (fun _ _ _ => by omega) h hh hh2
    dsimp only
    omega
theorem goF_qok {lw : Int → Int} {P acts : Int} : ∀ (n : Nat) (i : Int) (S : BQ), 0 ≤ i → qok S → qok (goF lw P acts n i S)
  | 0, i, S, hi, hq => hq
  | n + 1, i, S, hi, hq => by
    unfold goF
    split
    · split
      · exact hq
      · rename_i c _
        have h1 := hq.2.1 i hi c
        have e := ftA_in (d := S.2.2) ⟨h1.1, h1.2.1⟩
        apply goF_qok n (i + 1) _ (by omega)
        exact (oneA_qok hq (by rw [e]; omega)).1
    · exact hq
theorem sprA_qok {lw : Int → Int} {P : Int} {F : Int → Int} {st acts : Int} (h0 : 0 ≤ st ∧ st ≤ 3394) (hF : ∀ j : Int, 0 ≤ j → j < st → 0 ≤ F j ∧ F j < 6561) : qok (sprA lw P F st acts) := goF_qok _ _ _ (Int.le_refl _) (st_qok h0 hF)
/-! ===== which numbers are lawful houses: what is noted of them ===== -/
def unS (P : Int) : Int := if P = 0 then 6561 else un (P - 1)
def lwOK (lw so bm : Int → Int) (P B dn : Int) : Prop := ∀ j : Int, 0 ≤ j → j < 6561 → lw j = if j % unS P = 0 ∧ alw (pl j) so bm P B dn = true then 1 else 0
def svAt (g so bm : Int → Int) (P B dn i : Int) : Prop := ∀ j : Int, 0 ≤ j → j < 6561 → g j = if j % unS P = 0 ∧ j < i * unS P ∧ alw (pl j) so bm P B dn = true then 1 else 0
theorem unS_cases {P : Int} (h : 0 ≤ P ∧ P ≤ 4) : unS P = 6561 ∨ unS P = 729 ∨ unS P = 81 ∨ unS P = 9 ∨ unS P = 1 := by
  unfold unS un
  repeat' split
  all_goals omega
theorem unS_rng {P : Int} (h : 0 ≤ P ∧ P ≤ 4) : 1 ≤ unS P ∧ unS P ≤ 6561 := by have := unS_cases h; omega
theorem unS_mul {P i : Int} (h : 0 ≤ P ∧ P ≤ 4) (hi : 0 ≤ i ∧ i ≤ 6561) : 0 ≤ i * unS P ∧ i * unS P ≤ 43046721 := by
  rcases unS_cases h with e | e | e | e | e <;> rw [e] <;> omega
theorem svAt_0 {g so bm : Int → Int} {P B dn : Int} (hz : ∀ j : Int, 0 ≤ j → j < 6561 → g j = 0) : svAt g so bm P B dn 0 := by
  intro j h0 h1
  rw [hz j h0 h1, if_neg]
  intro q
  have := q.2.1
  omega
theorem svAt_step {P i j : Int} (h : 0 ≤ P ∧ P ≤ 4) (hi : 0 ≤ i) (hj : 0 ≤ j) : (j % unS P = 0 ∧ j < (i + 1) * unS P) ↔ ((j % unS P = 0 ∧ j < i * unS P) ∨ j = i * unS P) := by
  rcases unS_cases h with e | e | e | e | e <;> rw [e] <;> omega
theorem svAt_skip {g so bm : Int → Int} {P B dn i : Int} (h : 0 ≤ P ∧ P ≤ 4) (hi : 0 ≤ i) (hg : svAt g so bm P B dn i) (hc : ¬ alw (pl (i * unS P)) so bm P B dn = true) : svAt g so bm P B dn (i + 1) := by
  intro j h0 h1
  rw [hg j h0 h1]
  have hs := svAt_step (P := P) (i := i) (j := j) h hi h0
  by_cases q : j % unS P = 0 ∧ j < i * unS P ∧ alw (pl j) so bm P B dn = true
  · rw [if_pos q, if_pos ⟨q.1, (hs.mpr (Or.inl ⟨q.1, q.2.1⟩)).2, q.2.2⟩]
  · rw [if_neg q, if_neg]
    intro w
    rcases hs.mp ⟨w.1, w.2.1⟩ with y | y
    · exact q ⟨y.1, y.2, w.2.2⟩
    · rw [y] at w; exact hc w.2.2
theorem svAt_set {g so bm : Int → Int} {P B dn i : Int} (h : 0 ≤ P ∧ P ≤ 4) (hi : 0 ≤ i) (hg : svAt g so bm P B dn i) (hc : alw (pl (i * unS P)) so bm P B dn = true) : svAt (zup g (i * unS P) 1) so bm P B dn (i + 1) := by
  intro j h0 h1
  have hs := svAt_step (P := P) (i := i) (j := j) h hi h0
  by_cases e : j = i * unS P
  · rw [e, zup_s, if_pos]
    have h2 := (svAt_step (P := P) (i := i) (j := i * unS P) h hi (by rw [← e]; exact h0)).mpr (Or.inr rfl)
    exact ⟨h2.1, h2.2, hc⟩
  · rw [zup_n _ e, hg j h0 h1]
    by_cases q : j % unS P = 0 ∧ j < i * unS P ∧ alw (pl j) so bm P B dn = true
    · rw [if_pos q, if_pos ⟨q.1, (hs.mpr (Or.inl ⟨q.1, q.2.1⟩)).2, q.2.2⟩]
    · rw [if_neg q, if_neg]
      intro w
      rcases hs.mp ⟨w.1, w.2.1⟩ with y | y
      · exact q ⟨y.1, y.2, w.2.2⟩
      · exact e y
theorem svAt_end {g so bm : Int → Int} {P B dn i : Int} (hg : svAt g so bm P B dn i) (hi : 6561 ≤ i * unS P) : lwOK g so bm P B dn := by
  intro j h0 h1
  rw [hg j h0 h1]
  by_cases q : j % unS P = 0 ∧ alw (pl j) so bm P B dn = true
  · rw [if_pos q, if_pos ⟨q.1, by omega, q.2⟩]
  · rw [if_neg q, if_neg (fun w => q ⟨w.1, w.2.2⟩)]
theorem unS_big {P i : Int} (h : 0 ≤ P ∧ P ≤ 4) (hi : 6561 ≤ i) : 6561 ≤ i * unS P := by
  rcases unS_cases h with e | e | e | e | e <;> rw [e] <;> omega
theorem lwOK_rng {lw so bm : Int → Int} {P B dn : Int} (h : lwOK lw so bm P B dn) : ∀ j : Int, 0 ≤ j → j < 6561 → 0 ≤ lw j ∧ lw j ≤ 1 := by
  intro j h0 h1
  rw [h j h0 h1]
  split <;> omega
theorem fill_step {g : Int → Int} {i v : Int} (h : ∀ j : Int, 0 ≤ j → j < i → g j = v) : ∀ j : Int, 0 ≤ j → j < i + 1 → zup g i v j = v := by
  intro j h0 h1
  by_cases e : j = i
  · rw [e, zup_s]
  · rw [zup_n _ e]; exact h j h0 (by omega)
def lwS (so bm : Int → Int) (P B dn : Int) : Int → Int := fun j => if j % unS P = 0 ∧ alw (pl j) so bm P B dn = true then 1 else 0
theorem lwS_rng (so bm : Int → Int) (P B dn : Int) : ∀ j : Int, 0 ≤ j → j < 6561 → 0 ≤ lwS so bm P B dn j ∧ lwS so bm P B dn j ≤ 1 := by
  intro j h0 h1
  unfold lwS
  split <;> omega
theorem goF_stop {lw : Int → Int} {P acts i : Int} {S : BQ} : ∀ n : Nat, ¬ i < S.2.1 → goF lw P acts n i S = S
  | 0, _ => rfl
  | n + 1, h => by unfold goF; rw [if_neg h]
/-- the first act: places k, k + 1, .. of panel p tried -/
def inF (d : Int → Int) (from_ p : Int) : Nat → Int → Int × Int → Int × Int
  | 0, _, s => s
  | n + 1, k, s => inF d from_ p n (k + 1) (if ftA d (mv from_ p k) ≠ -9 ∧ ftA d (mv from_ p k) < s.1 then (ftA d (mv from_ p k), 10 * p + k) else s)
def outF (d : Int → Int) (from_ : Int) : Nat → Int → Int × Int → Int × Int
  | 0, _, s => s
  | n + 1, p, s => outF d from_ n (p + 1) (if pl from_ p = 8 then inF d from_ p 8 0 s else inF d from_ p 1 8 s)
/-- of the queue the dry houses alone, moved to its front -/
def kdF (so : Int → Int) (P ra : Int) : Nat → Int → (Int → Int) × Int → (Int → Int) × Int
  | 0, _, s => s
  | n + 1, i, s => kdF so P ra n (i + 1) (if lkA (pl (s.1 i)) so P ra = 0 then (zup s.1 s.2 (s.1 i), s.2 + 1) else s)
def nyF (lw so : Int → Int) (P ra ha day to : Int) : Nat → Int → Int → BQ → Int
  | 0, _, _, _ => -9
  | n + 1, night, mo, S => if 999 < day + night then -9 else if ftA S.2.2 to ≠ -9 then night else
      if (kdF so P ra S.2.1.toNat 0 (S.1, 0)).2 = mo then -9 else
        nyF lw so P ra ha day to n (night + 1) (kdF so P ra S.2.1.toNat 0 (S.1, 0)).2 (sprA lw P (kdF so P ra S.2.1.toNat 0 (S.1, 0)).1 (kdF so P ra S.2.1.toNat 0 (S.1, 0)).2 ha)
def teF (so : Int → Int) (P slots : Int) (S : BQ) : Nat → Int → Int
  | 0, _ => -9
  | n + 1, i => if zband (msk (pl (S.1 i)) so 15 P) slots = 0 then ftA S.2.2 (S.1 i) else teF so P slots S n (i + 1)
def bhF (lw so : Int → Int) (P ra su vw no : Int) : Nat → Int → Int × Int → Int × Int
  | 0, _, s => s
  | n + 1, h, s => bhF lw so P ra su vw no n (h + 1) (if s.2 < (if lw h = 1 then woA (pl h) so P ra su vw no else -1000000) then (h, if lw h = 1 then woA (pl h) so P ra su vw no else -1000000) else s)
def fitA (f so : Int → Int) (P su li da : Int) : Prop := zbandn li (ltA f so P su) = 0 ∧ zband da (ltA f so P su) = 0
def cfF (lw so : Int → Int) (P su li da : Int) : Nat → Int → Int
  | 0, _ => 0
  | n + 1, h => (if lw h = 1 ∧ (zbandn li (ltA (pl h) so P su) = 0 ∧ zband da (ltA (pl h) so P su) = 0) then 1 else 0) + cfF lw so P su li da n (h + 1)
def spF (lw so : Int → Int) (P su li da p : Int) : Nat → Int → Int → Int
  | 0, _, a => a
  | n + 1, h, a => if lw h = 1 ∧ (zbandn li (ltA (pl h) so P su) = 0 ∧ zband da (ltA (pl h) so P su) = 0) then (if a ≠ -9 ∧ a ≠ pl h p then -9 else spF lw so P su li da p n (h + 1) (pl h p)) else spF lw so P su li da p n (h + 1) a
theorem cfF_rng (lw so : Int → Int) (P su li da : Int) : ∀ (n : Nat) (h : Int), 0 ≤ cfF lw so P su li da n h ∧ cfF lw so P su li da n h ≤ n
  | 0, h => by unfold cfF; omega
  | n + 1, h => by
    unfold cfF
    have := cfF_rng lw so P su li da n (h + 1)
    split <;> omega
theorem kdF_ok (so : Int → Int) (P ra : Int) : ∀ (n : Nat) (i : Int) (s : (Int → Int) × Int), 0 ≤ s.2 → s.2 ≤ i → (∀ j : Int, 0 ≤ j → j < i + n → 0 ≤ s.1 j ∧ s.1 j < 6561) →
    (0 ≤ (kdF so P ra n i s).2 ∧ (kdF so P ra n i s).2 ≤ i + n) ∧ ∀ j : Int, 0 ≤ j → j < i + n → 0 ≤ (kdF so P ra n i s).1 j ∧ (kdF so P ra n i s).1 j < 6561
  | 0, i, s, h1, h2, h3 => by unfold kdF; exact ⟨by omega, h3⟩
  | n + 1, i, s, h1, h2, h3 => by
    unfold kdF
    split
    · have ih := kdF_ok so P ra n (i + 1) (zup s.1 s.2 (s.1 i), s.2 + 1) (by dsimp only; omega) (by dsimp only; omega) (by
        intro j hj hj2
        dsimp only
        by_cases e : j = s.2
        · rw [e, zup_s]; exact h3 i (by omega) (by omega)
        · rw [zup_n _ e]; exact h3 j hj (by omega))
      refine ⟨by omega, fun j hj hj2 => ih.2 j hj (by omega)⟩
    · have ih := kdF_ok so P ra n (i + 1) s h1 (by omega) (fun j hj hj2 => h3 j hj (by omega))
      refine ⟨by omega, fun j hj hj2 => ih.2 j hj (by omega)⟩
theorem inF_rng {d : Int → Int} {from_ p : Int} (hd : ∀ h : Int, 0 ≤ h → h < 6561 → -9 ≤ d h ∧ d h ≤ 3394) (hp : 0 ≤ p ∧ p ≤ 4) : ∀ (n : Nat) (k : Int) (s : Int × Int), 0 ≤ k ∧ k + n ≤ 9 → (-9 ≤ s.1 ∧ s.1 ≤ 6561) ∧ (-9 ≤ s.2 ∧ s.2 ≤ 100) → (-9 ≤ (inF d from_ p n k s).1 ∧ (inF d from_ p n k s).1 ≤ 6561) ∧ (-9 ≤ (inF d from_ p n k s).2 ∧ (inF d from_ p n k s).2 ≤ 100)
  | 0, k, s, hk, hs => hs
  | n + 1, k, s, hk, hs => by
    unfold inF
    apply inF_rng hd hp n (k + 1) _ (by omega)
    split
    · dsimp only
      have h1 : -9 ≤ ftA d (mv from_ p k) ∧ ftA d (mv from_ p k) ≤ 3394 := by
        unfold ftA
        split
        · rename_i q; exact hd _ q.1 q.2
        · omega
      omega
    · exact hs
theorem ftA_rng {d : Int → Int} (hd : ∀ h : Int, 0 ≤ h → h < 6561 → -9 ≤ d h ∧ d h ≤ 3394) (h : Int) : -9 ≤ ftA d h ∧ ftA d h ≤ 3394 := by
  unfold ftA
  split
  · rename_i q; exact hd _ q.1 q.2
  · omega
def fsA (lw : Int → Int) (P : Int) (F : Int → Int) (h to : Int) : Int := if h = to ∨ ¬ ((0 ≤ to ∧ to < 6561) ∧ lw to = 1) then -9 else (outF (sprA lw P (zup F 0 to) 1 6561).2.2 h P.toNat 0 (6561, -9)).2
