/-! ===== the reference: what is reached ===== -/
def cntF (d : Int → Int) : Nat → Int → Int
  | 0, _ => 0
  | n + 1, i => (if d i ≠ 9999 then 1 else 0) + cntF d n (i + 1)
theorem cntF_rng (d : Int → Int) : ∀ (n : Nat) (i : Int), 0 ≤ cntF d n i ∧ cntF d n i ≤ n
  | 0, _ => by unfold cntF; omega
  | n + 1, i => by
    unfold cntF
    have ih := cntF_rng d n (i + 1)
    split <;> omega
theorem cntF_off {d : Int → Int} {h v : Int} : ∀ (n : Nat) (i : Int), h < i → cntF (zup d h v) n i = cntF d n i
  | 0, _, _ => rfl
  | n + 1, i, hi => by
    unfold cntF
    rw [zup_n d (show i ≠ h by omega), cntF_off n (i + 1) (by omega)]
theorem cntF_zup {d : Int → Int} {h v : Int} (hd : d h = 9999) (hv : v ≠ 9999) : ∀ (n : Nat) (i : Int), i ≤ h → h < i + n → cntF (zup d h v) n i = cntF d n i + 1
  | 0, _, h1, h2 => by omega
  | n + 1, i, h1, h2 => by
    unfold cntF
    by_cases e : i = h
    · subst e
      rw [zup_s, cntF_off n (i + 1) (by omega), if_pos hv, if_neg (fun q => q hd)]
      omega
    · rw [zup_n d e, cntF_zup hd hv n (i + 1) (by omega) (by omega)]
      omega
theorem cntF_lt {d : Int → Int} {h : Int} (hd : d h = 9999) : ∀ (n : Nat) (i : Int), i ≤ h → h < i + n → cntF d n i < n
  | 0, _, h1, h2 => by omega
  | n + 1, i, h1, h2 => by
    unfold cntF
    have hr := cntF_rng d n (i + 1)
    by_cases e : i = h
    · subst e
      rw [if_neg (fun q => q hd)]
      omega
    · have ih := cntF_lt hd n (i + 1) (by omega) (by omega)
      split <;> omega
theorem cntF_0 : ∀ (n : Nat) (i : Int), cntF (fun _ => 9999) n i = 0
  | 0, _ => rfl
  | n + 1, i => by
    unfold cntF
    rw [cntF_0 n (i + 1), if_neg (fun q => q rfl)]
    rfl
def rcM (h n : Int) (S : BQ) : BQ := if S.2.2 h = 9999 then (zup S.1 S.2.1 h, S.2.1 + 1, zup S.2.2 h n) else S
/-- what always holds of what is reached: P panels -/
def qkM (P : Int) (S : BQ) : Prop := S.2.1 = cntF S.2.2 6561 0 ∧ (∀ j : Int, 0 ≤ j → j < S.2.1 → 0 ≤ S.1 j ∧ S.1 j < pw9 P ∧ 0 ≤ S.2.2 (S.1 j) ∧ S.2.2 (S.1 j) ≤ j) ∧ (∀ h : Int, 0 ≤ h → h < 6561 → 0 ≤ S.2.2 h ∧ S.2.2 h ≤ 9999)
theorem qkM_m {P : Int} {S : BQ} (h : qkM P S) : 0 ≤ S.2.1 ∧ S.2.1 ≤ 6561 := by
  have := cntF_rng S.2.2 6561 0
  rw [h.1]
  omega
theorem qkM_lt {P : Int} {S : BQ} (h : qkM P S) {x : Int} (hx : 0 ≤ x ∧ x < 6561) (hd : S.2.2 x = 9999) : S.2.1 < 6561 := by
  have := cntF_lt hd 6561 0 hx.1 (by omega)
  rw [h.1]
  omega
theorem qkM_0 (P : Int) (F : Int → Int) : qkM P (F, 0, fun _ => 9999) :=
  ⟨(cntF_0 6561 0).symm, fun j h1 h2 => absurd h2 (by show ¬ j < 0; omega), fun h _ _ => ⟨by show (0 : Int) ≤ 9999; decide, by show (9999 : Int) ≤ 9999; decide⟩⟩
theorem rcM_ok {P h n : Int} {S : BQ} (hP : P ≤ 4) (hq : qkM P S) (hh : 0 ≤ h ∧ h < pw9 P) (hn : 0 ≤ n ∧ n ≤ S.2.1) : qkM P (rcM h n S) ∧ S.2.1 ≤ (rcM h n S).2.1 ∧ (∀ j : Int, j < S.2.1 → (rcM h n S).1 j = S.1 j) := by
  have h9 := pw9_rng hP
  have hm := qkM_m hq
  unfold rcM
  by_cases c : S.2.2 h = 9999
  · rw [if_pos c]
    have hlt := qkM_lt hq (x := h) (by omega) c
    refine ⟨⟨?_, ?_, ?_⟩, by show S.2.1 ≤ S.2.1 + 1; omega, fun j hj => zup_n _ (by omega)⟩
    · show S.2.1 + 1 = cntF (zup S.2.2 h n) 6561 0
      rw [cntF_zup c (by omega) 6561 0 hh.1 (by omega), ← hq.1]
    · intro j h1 h2
      have h2 : j < S.2.1 + 1 := h2
      show 0 ≤ zup S.1 S.2.1 h j ∧ zup S.1 S.2.1 h j < pw9 P ∧ 0 ≤ zup S.2.2 h n (zup S.1 S.2.1 h j) ∧ zup S.2.2 h n (zup S.1 S.2.1 h j) ≤ j
      by_cases e : j = S.2.1
      · subst e
        rw [zup_s, zup_s]
        omega
      · obtain ⟨a1, a2, a3, a4⟩ := hq.2.1 j h1 (by omega)
        rw [zup_n S.1 e, zup_n S.2.2 (show S.1 j ≠ h from fun q => by rw [q, c] at a4; omega)]
        exact ⟨a1, a2, a3, a4⟩
    · intro x h1 h2
      show 0 ≤ zup S.2.2 h n x ∧ zup S.2.2 h n x ≤ 9999
      by_cases e : x = h
      · subst e; rw [zup_s]; omega
      · rw [zup_n S.2.2 e]; exact hq.2.2 x h1 h2
  · rw [if_neg c]
    exact ⟨hq, Int.le_refl _, fun j _ => rfl⟩
abbrev moM (P h p k : Int) : Prop := if slI P h p = 8 then (k < 8 ∧ patF (slI P h) k P.toNat 0 = -9) else k = 8
theorem moM_l {P h p k : Int} (c : slI P h p = 8) : moM P h p k ↔ (k < 8 ∧ patF (slI P h) k P.toNat 0 = -9) := by unfold moM; rw [if_pos c]
theorem moM_s {P h p k : Int} (c : slI P h p ≠ 8) : moM P h p k ↔ k = 8 := by unfold moM; rw [if_neg c]

def kfM (f2 f3 f5 : Int → Int) (h p : Int) : Nat → Int → BQ → BQ
  | 0, _, S => S
  | n + 1, k, S => kfM f2 f3 f5 h p n (k + 1) (if moM (f2 0) h p k ∧ lwM f2 f3 f5 (wtI (f2 0) h p k) = true then rcM (wtI (f2 0) h p k) (S.2.2 h + 1) S else S)
def pfM (f2 f3 f5 : Int → Int) (most h : Int) : Nat → Int → BQ → BQ
  | 0, _, S => S
  | n + 1, p, S => if S.2.2 h < most then pfM f2 f3 f5 most h n (p + 1) (kfM f2 f3 f5 h p 9 0 S) else S
def gfM (f2 f3 f5 : Int → Int) (most : Int) : Nat → Int → BQ → BQ
  | 0, _, S => S
  | n + 1, i, S => if i < S.2.1 then gfM f2 f3 f5 most n (i + 1) (pfM f2 f3 f5 most (S.1 i) (f2 0).toNat 0 S) else S
