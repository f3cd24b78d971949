/-! ===== what acts reach: how many at most ===== -/
def gN (r : Nat) : Bool :=
  (!(Nat.beq (r / 729 % 9) (r / 81 % 9)) || Nat.beq (r / 729 % 9) 8) && (!(Nat.beq (r / 729 % 9) (r / 9 % 9)) || Nat.beq (r / 729 % 9) 8) && (!(Nat.beq (r / 729 % 9) (r % 9)) || Nat.beq (r / 729 % 9) 8) && (!(Nat.beq (r / 81 % 9) (r / 9 % 9)) || Nat.beq (r / 81 % 9) 8) && (!(Nat.beq (r / 81 % 9) (r % 9)) || Nat.beq (r / 81 % 9) 8) && (!(Nat.beq (r / 9 % 9) (r % 9)) || Nat.beq (r / 9 % 9) 8)
def cN (g : Nat → Bool) : Nat → Nat → Nat
  | 0, _ => 0
  | n + 1, i => (if g i = true then 1 else 0) + cN g n (i + 1)
def bN (g : Nat → Bool) (w : Nat) : Nat → Nat → Nat
  | 0, _ => 0
  | n + 1, i => cN g w i + bN g w n (i + w)
theorem cN_add (g : Nat → Bool) : ∀ (n m i : Nat), cN g (n + m) i = cN g n i + cN g m (i + n)
  | 0, m, i => by rw [Nat.zero_add, cN, Nat.zero_add, Nat.add_zero]
  | n + 1, m, i => by
    rw [show n + 1 + m = (n + m) + 1 by omega, cN, cN, cN_add g n m (i + 1), show i + 1 + n = i + (n + 1) by omega, Nat.add_assoc]
theorem cN_mul (g : Nat → Bool) (w : Nat) : ∀ (n i : Nat), cN g (n * w) i = bN g w n i
  | 0, i => by rw [Nat.zero_mul, cN, bN]
  | n + 1, i => by rw [Nat.succ_mul, Nat.add_comm, cN_add, cN_mul g w n, bN]
theorem bN_4 : bN gN 81 81 0 = 3393 := by decide +kernel
theorem cN_4 : cN gN 6561 0 = 3393 := by rw [show 6561 = 81 * 81 from rfl, cN_mul]; exact bN_4
theorem cN_lt (k : Nat) : ∀ (n i : Nat), cN (fun r => decide (r < k)) n i ≤ k - i
  | 0, i => Nat.zero_le _
  | n + 1, i => by
    have ih := cN_lt k n (i + 1)
    rw [cN]
    by_cases c : i < k
    · rw [if_pos (by simpa using c)]; omega
    · rw [if_neg (by simpa using c)]; omega
theorem cnt_le {d : Int → Int} {g : Nat → Bool} {s0 : Int} : ∀ (n i : Nat), (∀ r : Nat, i ≤ r → r < i + n → d r ≠ 9999 → (r : Int) = s0 ∨ g r = true) → cntF d n i ≤ (cN g n i : Int) + (if (i : Int) ≤ s0 ∧ s0 < (i : Int) + n then 1 else 0)
  | 0, i, _ => by rw [cntF, cN]; split <;> omega
  | n + 1, i, h => by
    have ih := cnt_le (d := d) (g := g) (s0 := s0) n (i + 1) (fun r h1 h2 => h r (by omega) (by omega))
    rw [show ((i + 1 : Nat) : Int) = (i : Int) + 1 from rfl] at ih
    rw [cntF, cN]
    by_cases c : d i ≠ 9999
    · rw [if_pos c]
      rcases h i (Nat.le_refl i) (by omega) c with e | e
      · rw [if_neg (by omega)] at ih
        rw [if_pos (show (i : Int) ≤ s0 ∧ s0 < (i : Int) + (n + 1 : Nat) by omega)]
        split <;> omega
      · rw [if_pos e]
        by_cases q : (i : Int) + 1 ≤ s0 ∧ s0 < (i : Int) + 1 + n
        · rw [if_pos q] at ih
          rw [if_pos (show (i : Int) ≤ s0 ∧ s0 < (i : Int) + (n + 1 : Nat) by omega)]
          omega
        · rw [if_neg q] at ih
          split <;> omega
    · rw [if_neg c]
      by_cases q : (i : Int) + 1 ≤ s0 ∧ s0 < (i : Int) + 1 + n
      · rw [if_pos q] at ih
        rw [if_pos (show (i : Int) ≤ s0 ∧ s0 < (i : Int) + (n + 1 : Nat) by omega)]
        omega
      · rw [if_neg q] at ih
        split <;> omega
theorem gp_1 {a b : Nat} (h : a = b → a = 8) : (!(Nat.beq a b) || Nat.beq a 8) = true := by
  by_cases e : a = b
  · have e8 := h e
    subst e
    subst e8
    rfl
  · cases hb : Nat.beq a b with
    | true => exact absurd (Nat.eq_of_beq_eq_true hb) e
    | false => rfl
theorem g4_of {r : Nat} (h : dsF (slI 4 (r : Int)) 4 0 0 = true) : gN r = true := by
  have hp := (ds_pair (slI_r (P := 4) (r := (r : Int)) (by omega)) 4 0 0 h).2
  have e0 : slI 4 (r : Int) 0 = ((r / 729 % 9 : Nat) : Int) := by unfold slI; rw [show pw9 (4 - 1 - 0) = 729 from rfl]; omega
  have e1 : slI 4 (r : Int) 1 = ((r / 81 % 9 : Nat) : Int) := by unfold slI; rw [show pw9 (4 - 1 - 1) = 81 from rfl]; omega
  have e2 : slI 4 (r : Int) 2 = ((r / 9 % 9 : Nat) : Int) := by unfold slI; rw [show pw9 (4 - 1 - 2) = 9 from rfl]; omega
  have e3 : slI 4 (r : Int) 3 = ((r % 9 : Nat) : Int) := by unfold slI; rw [show pw9 (4 - 1 - 3) = 1 from rfl]; omega
  have p1 := hp 0 1 (by omega) (by omega) (by omega)
  have p2 := hp 0 2 (by omega) (by omega) (by omega)
  have p3 := hp 0 3 (by omega) (by omega) (by omega)
  have p4 := hp 1 2 (by omega) (by omega) (by omega)
  have p5 := hp 1 3 (by omega) (by omega) (by omega)
  have p6 := hp 2 3 (by omega) (by omega) (by omega)
  rw [e0, e1] at p1
  rw [e0, e2] at p2
  rw [e0, e3] at p3
  rw [e1, e2] at p4
  rw [e1, e3] at p5
  rw [e2, e3] at p6
  unfold gN
  rw [gp_1 (fun w => by have := p1 (by rw [w]); omega), gp_1 (fun w => by have := p2 (by rw [w]); omega), gp_1 (fun w => by have := p3 (by rw [w]); omega), gp_1 (fun w => by have := p4 (by rw [w]); omega), gp_1 (fun w => by have := p5 (by rw [w]); omega), gp_1 (fun w => by have := p6 (by rw [w]); omega)]
  rfl
theorem lq_m {P s0 : Int} {S : BQ} (hP : 0 ≤ P ∧ P ≤ 4) (hq : qkM P S) (h : ∀ r : Int, 0 ≤ r → r < 6561 → S.2.2 r ≠ 9999 → r = s0 ∨ (r < pw9 P ∧ dsF (slI P r) P.toNat 0 0 = true)) : S.2.1 ≤ 3394 := by
  rw [hq.1]
  by_cases c : P = 4
  · subst c
    have e := cnt_le (d := S.2.2) (g := gN) (s0 := s0) 6561 0 (fun r h1 h2 h3 => (h r (by omega) (by omega) h3).elim Or.inl (fun w => Or.inr (g4_of w.2)))
    rw [cN_4] at e
    have e2 : cntF S.2.2 6561 ((0 : Nat) : Int) = cntF S.2.2 6561 0 := rfl
    rw [e2] at e
    split at e <;> omega
  · have hp9 : pw9 P ≤ 729 := by
      obtain ⟨b0, b1, b2, b3, b4⟩ := pw9_v
      rcases (show P = 0 ∨ P = 1 ∨ P = 2 ∨ P = 3 by omega) with rfl | rfl | rfl | rfl <;> omega
    have e := cnt_le (d := S.2.2) (g := fun r => decide (r < 729)) (s0 := s0) 6561 0 (fun r h1 h2 h3 => (h r (by omega) (by omega) h3).elim Or.inl (fun w => Or.inr (by have := w.1; simp; omega)))
    have e3 := cN_lt 729 6561 0
    have e2 : cntF S.2.2 6561 ((0 : Nat) : Int) = cntF S.2.2 6561 0 := rfl
    rw [e2] at e
    split at e <;> omega
/-! ===== what acts reach: the reference's search ===== -/
def stp (f2 f3 f5 : Int → Int) (a b : Int) : Prop := ∃ p k : Int, (0 ≤ p ∧ p < f2 0) ∧ (0 ≤ k ∧ k ≤ 8) ∧ moM (f2 0) a p k ∧ lwM f2 f3 f5 b = true ∧ b = wtI (f2 0) a p k
def clo (f2 f3 f5 : Int → Int) (X : Int → Prop) : Nat → Int → Prop
  | 0, r => X r
  | n + 1, r => clo f2 f3 f5 X n r ∨ ∃ a : Int, clo f2 f3 f5 X n a ∧ stp f2 f3 f5 a r
theorem clo_mono {f2 f3 f5 : Int → Int} {X : Int → Prop} {r : Int} : ∀ (m n : Nat), clo f2 f3 f5 X n r → clo f2 f3 f5 X (n + m) r
  | 0, _, h => h
  | m + 1, n, h => Or.inl (clo_mono m n h)
theorem clo_le {f2 f3 f5 : Int → Int} {X : Int → Prop} {r : Int} {n m : Nat} (h : n ≤ m) (hc : clo f2 f3 f5 X n r) : clo f2 f3 f5 X m r := by
  obtain ⟨k, rfl⟩ : ∃ k, m = n + k := ⟨m - n, by omega⟩
  exact clo_mono k n hc
theorem clo_rng {f2 f3 f5 : Int → Int} {X : Int → Prop} (hP : 0 ≤ f2 0 ∧ f2 0 ≤ 4) (hX : ∀ r : Int, X r → 0 ≤ r ∧ r < pw9 (f2 0)) : ∀ (n : Nat) (r : Int), clo f2 f3 f5 X n r → 0 ≤ r ∧ r < pw9 (f2 0)
  | 0, r, h => hX r h
  | n + 1, r, h => by
    rcases h with h | ⟨a, ha, p, k, hp, hk, -, -, rfl⟩
    · exact clo_rng hP hX n r h
    · exact wtI_rng hP.2 (clo_rng hP hX n a ha) hp hk
theorem clo_ind {f2 f3 f5 : Int → Int} {X Y : Int → Prop} (h : ∀ r : Int, X r → Y r) : ∀ (n : Nat) (r : Int), clo f2 f3 f5 X n r → clo f2 f3 f5 Y n r
  | 0, r, w => h r w
  | n + 1, r, w => w.elim (fun w => Or.inl (clo_ind h n r w)) (fun ⟨a, ha, hs⟩ => Or.inr ⟨a, clo_ind h n a ha, hs⟩)
def ext (S T : BQ) : Prop := S.2.1 ≤ T.2.1 ∧ (∀ j : Int, 0 ≤ j → j < S.2.1 → T.1 j = S.1 j) ∧ (∀ r : Int, S.2.2 r ≠ 9999 → T.2.2 r = S.2.2 r)
theorem ext_rfl (S : BQ) : ext S S := ⟨Int.le_refl _, fun _ _ _ => rfl, fun _ _ => rfl⟩
theorem ext_trans {S T U : BQ} (h : ext S T) (g : ext T U) : ext S U :=
  ⟨Int.le_trans h.1 g.1, fun j h1 h2 => by rw [g.2.1 j h1 (Int.lt_of_lt_of_le h2 h.1), h.2.1 j h1 h2], fun r hr => by rw [g.2.2 r (by rw [h.2.2 r hr]; exact hr), h.2.2 r hr]⟩
theorem rcM_ext (h n : Int) (S : BQ) : ext S (rcM h n S) := by
  unfold rcM
  by_cases c : S.2.2 h = 9999
  · rw [if_pos c]
    exact ⟨by show S.2.1 ≤ S.2.1 + 1; omega, fun j h1 h2 => zup_n _ (by omega), fun r hr => zup_n _ (fun w => hr (by rw [w]; exact c))⟩
  · rw [if_neg c]; exact ext_rfl S
def invB (f2 f3 f5 : Int → Int) (X : Int → Prop) (most dc : Int) (S : BQ) : Prop :=
  qkM (f2 0) S ∧
  (∀ a b : Int, 0 ≤ a → a < b → b < S.2.1 → S.1 a ≠ S.1 b) ∧
  (∀ a b : Int, 0 ≤ a → a ≤ b → b < S.2.1 → S.2.2 (S.1 a) ≤ S.2.2 (S.1 b)) ∧
  (∀ r : Int, 0 ≤ r → r < 6561 → S.2.2 r ≠ 9999 → (r < pw9 (f2 0) ∧ ∃ j : Int, 0 ≤ j ∧ j < S.2.1 ∧ S.1 j = r) ∧ S.2.2 r ≤ dc + 1 ∧ (S.2.2 r).toNat ≤ most.toNat ∧ clo f2 f3 f5 X (S.2.2 r).toNat r ∧ (X r ∨ lwM f2 f3 f5 r = true))
theorem invB_dc {f2 f3 f5 : Int → Int} {X : Int → Prop} {most dc de : Int} {S : BQ} (h : dc ≤ de) (hi : invB f2 f3 f5 X most dc S) : invB f2 f3 f5 X most de S :=
  ⟨hi.1, hi.2.1, hi.2.2.1, fun r h1 h2 h3 => ⟨(hi.2.2.2 r h1 h2 h3).1, by have := (hi.2.2.2 r h1 h2 h3).2.1; omega, (hi.2.2.2 r h1 h2 h3).2.2⟩⟩
/-- an entry's distance is no 9999 -/
theorem ent_n {P : Int} {S : BQ} (hq : qkM P S) {j : Int} (h1 : 0 ≤ j) (h2 : j < S.2.1) : S.2.2 (S.1 j) ≠ 9999 := by
  have := hq.2.1 j h1 h2
  have hm := qkM_m hq
  omega
theorem invB_rc {f2 f3 f5 : Int → Int} {X : Int → Prop} {most dc h n : Int} {S : BQ} (hP : 0 ≤ f2 0 ∧ f2 0 ≤ 4) (hi : invB f2 f3 f5 X most dc S) (hh : 0 ≤ h ∧ h < pw9 (f2 0)) (hall : ∀ r : Int, 0 ≤ r → r < 6561 → S.2.2 r ≠ 9999 → S.2.2 r ≤ n) (hn : 0 ≤ n ∧ n ≤ S.2.1) (hn1 : n ≤ dc + 1) (hnm : n.toNat ≤ most.toNat) (hc : clo f2 f3 f5 X n.toNat h) (hx : X h ∨ lwM f2 f3 f5 h = true) : invB f2 f3 f5 X most dc (rcM h n S) ∧ (rcM h n S).2.2 h ≠ 9999 ∧ (∀ r : Int, 0 ≤ r → r < 6561 → (rcM h n S).2.2 r ≠ 9999 → (rcM h n S).2.2 r ≤ n) := by
  have h9 := pw9_rng (n := f2 0) hP.2
  have hm := qkM_m hi.1
  have hok := rcM_ok hP.2 hi.1 hh hn
  by_cases c : S.2.2 h = 9999
  · have hlt := qkM_lt hi.1 (x := h) (by omega) c
    have eS : rcM h n S = (zup S.1 S.2.1 h, S.2.1 + 1, zup S.2.2 h n) := if_pos c
    rw [eS] at hok ⊢
    have e1 : ∀ j : Int, j < S.2.1 → zup S.1 S.2.1 h j = S.1 j := fun j hj => zup_n _ (by omega)
    have e3 : zup S.2.2 h n h = n := zup_s _ _ _
    have e4 : ∀ r : Int, r ≠ h → zup S.2.2 h n r = S.2.2 r := fun r hr => zup_n _ hr
    have e5 : ∀ j : Int, 0 ≤ j → j < S.2.1 → S.1 j ≠ h := fun j h1 h2 w => ent_n hi.1 h1 h2 (by rw [w]; exact c)
    refine ⟨⟨hok.1, ?_, ?_, ?_⟩, ?_, ?_⟩
    · intro a b h1 h2 h3
      have h3 : b < S.2.1 + 1 := h3
      show zup S.1 S.2.1 h a ≠ zup S.1 S.2.1 h b
      rw [e1 a (by omega)]
      by_cases e : b = S.2.1
      · rw [e, zup_s]; exact e5 a h1 (by omega)
      · rw [e1 b (by omega)]; exact hi.2.1 a b h1 h2 (by omega)
    · intro a b h1 h2 h3
      have h3 : b < S.2.1 + 1 := h3
      show zup S.2.2 h n (zup S.1 S.2.1 h a) ≤ zup S.2.2 h n (zup S.1 S.2.1 h b)
      by_cases e : b = S.2.1
      · rw [e, zup_s, e3]
        by_cases e2 : a = S.2.1
        · rw [e2, zup_s, e3]; exact Int.le_refl _
        · rw [e1 a (by omega), e4 _ (e5 a h1 (by omega))]
          have := hi.1.2.1 a h1 (by omega)
          exact hall _ (by omega) (by omega) (ent_n hi.1 h1 (by omega))
      · rw [e1 a (by omega), e1 b (by omega), e4 _ (e5 a h1 (by omega)), e4 _ (e5 b (by omega) (by omega))]
        exact hi.2.2.1 a b h1 h2 (by omega)
    · intro r h1 h2 h3
      have h3 : zup S.2.2 h n r ≠ 9999 := h3
      show (r < pw9 (f2 0) ∧ ∃ j : Int, 0 ≤ j ∧ j < S.2.1 + 1 ∧ zup S.1 S.2.1 h j = r) ∧ zup S.2.2 h n r ≤ dc + 1 ∧ (zup S.2.2 h n r).toNat ≤ most.toNat ∧ clo f2 f3 f5 X (zup S.2.2 h n r).toNat r ∧ (X r ∨ lwM f2 f3 f5 r = true)
      by_cases e : r = h
      · rw [e, e3]
        exact ⟨⟨hh.2, S.2.1, hm.1, by omega, zup_s _ _ _⟩, hn1, hnm, hc, hx⟩
      · rw [e4 r e] at h3 ⊢
        obtain ⟨⟨w1, j, w2, w3, w4⟩, w5⟩ := hi.2.2.2 r h1 h2 h3
        exact ⟨⟨w1, j, w2, by omega, by rw [e1 j w3]; exact w4⟩, w5⟩
    · show zup S.2.2 h n h ≠ 9999
      rw [e3]; omega
    · intro r h1 h2 h3
      have h3 : zup S.2.2 h n r ≠ 9999 := h3
      show zup S.2.2 h n r ≤ n
      by_cases e : r = h
      · rw [e, e3]; exact Int.le_refl _
      · rw [e4 r e] at h3 ⊢
        exact hall r h1 h2 h3
  · have eS : rcM h n S = S := if_neg c
    rw [eS]
    exact ⟨hi, c, hall⟩
/-- while house h is spread from -/
def prB (f2 f3 f5 : Int → Int) (X : Int → Prop) (most h dc : Int) (S : BQ) : Prop := invB f2 f3 f5 X most dc S ∧ S.2.2 h = dc ∧ dc + 1 ≤ S.2.1
def k1M (f2 f3 f5 : Int → Int) (h p k : Int) (S : BQ) : BQ := if moM (f2 0) h p k ∧ lwM f2 f3 f5 (wtI (f2 0) h p k) = true then rcM (wtI (f2 0) h p k) (S.2.2 h + 1) S else S
theorem kfM_s {f2 f3 f5 : Int → Int} {h p k : Int} {n : Nat} {S : BQ} : kfM f2 f3 f5 h p (n + 1) k S = kfM f2 f3 f5 h p n (k + 1) (k1M f2 f3 f5 h p k S) := rfl
/-- what stays while h is spread from -/
def hsB (f2 f3 f5 : Int → Int) (X : Int → Prop) (most h dc : Int) : Prop := (0 ≤ f2 0 ∧ f2 0 ≤ 4) ∧ (0 ≤ h ∧ h < pw9 (f2 0)) ∧ (0 ≤ dc ∧ dc < most ∧ dc < 9998) ∧ clo f2 f3 f5 X dc.toNat h
theorem k1_ok {f2 f3 f5 : Int → Int} {X : Int → Prop} {most h dc p k : Int} {S : BQ} (hs : hsB f2 f3 f5 X most h dc) (hp : 0 ≤ p ∧ p < f2 0) (hk : 0 ≤ k ∧ k ≤ 8) (hr : prB f2 f3 f5 X most h dc S) : prB f2 f3 f5 X most h dc (k1M f2 f3 f5 h p k S) ∧ ext S (k1M f2 f3 f5 h p k S) ∧ (moM (f2 0) h p k → lwM f2 f3 f5 (wtI (f2 0) h p k) = true → (k1M f2 f3 f5 h p k S).2.2 (wtI (f2 0) h p k) ≠ 9999) := by
  obtain ⟨hP, hh, hdc, hcl⟩ := hs
  obtain ⟨hi, hd, hm⟩ := hr
  unfold k1M
  by_cases c : moM (f2 0) h p k ∧ lwM f2 f3 f5 (wtI (f2 0) h p k) = true
  · rw [if_pos c, hd]
    have hw := wtI_rng (k := k) hP.2 hh hp hk
    have he := rcM_ext (wtI (f2 0) h p k) (dc + 1) S
    obtain ⟨r1, r2, -⟩ := invB_rc (n := dc + 1) hP hi hw (fun r h1 h2 h3 => (hi.2.2.2 r h1 h2 h3).2.1) ⟨by omega, hm⟩ (Int.le_refl _) (by omega)
      (by rw [show (dc + 1).toNat = dc.toNat + 1 by omega]; exact Or.inr ⟨h, hcl, p, k, hp, hk, c.1, c.2, rfl⟩) (Or.inr c.2)
    exact ⟨⟨r1, by rw [he.2.2 h (by omega)]; exact hd, Int.le_trans hm he.1⟩, he, fun _ _ => r2⟩
  · rw [if_neg c]
    exact ⟨⟨hi, hd, hm⟩, ext_rfl S, fun a b => absurd ⟨a, b⟩ c⟩
theorem kf_ok {f2 f3 f5 : Int → Int} {X : Int → Prop} {most h dc p : Int} (hs : hsB f2 f3 f5 X most h dc) (hp : 0 ≤ p ∧ p < f2 0) : ∀ (n : Nat) (k : Int) (S : BQ), 0 ≤ k → k + n ≤ 9 → prB f2 f3 f5 X most h dc S → prB f2 f3 f5 X most h dc (kfM f2 f3 f5 h p n k S) ∧ ext S (kfM f2 f3 f5 h p n k S) ∧ (∀ j : Int, k ≤ j → j < k + n → moM (f2 0) h p j → lwM f2 f3 f5 (wtI (f2 0) h p j) = true → (kfM f2 f3 f5 h p n k S).2.2 (wtI (f2 0) h p j) ≠ 9999)
  | 0, k, S, _, _, hr => ⟨hr, ext_rfl S, fun j h1 h2 => absurd h2 (by omega)⟩
  | n + 1, k, S, h1, h2, hr => by
    obtain ⟨a1, a2, a3⟩ := k1_ok hs hp (k := k) ⟨h1, by omega⟩ hr
    obtain ⟨b1, b2, b3⟩ := kf_ok hs hp n (k + 1) _ (by omega) (by omega) a1
    rw [kfM_s]
    refine ⟨b1, ext_trans a2 b2, fun j j1 j2 j3 j4 => ?_⟩
    by_cases e : j = k
    · subst e
      have := a3 j3 j4
      rw [b2.2.2 _ this]
      exact this
    · exact b3 j (by omega) (by omega) j3 j4
theorem pf_ok {f2 f3 f5 : Int → Int} {X : Int → Prop} {most h dc : Int} (hs : hsB f2 f3 f5 X most h dc) : ∀ (n : Nat) (p : Int) (S : BQ), 0 ≤ p → p + n ≤ f2 0 → prB f2 f3 f5 X most h dc S → prB f2 f3 f5 X most h dc (pfM f2 f3 f5 most h n p S) ∧ ext S (pfM f2 f3 f5 most h n p S) ∧ (∀ q j : Int, p ≤ q → q < p + n → 0 ≤ j → j ≤ 8 → moM (f2 0) h q j → lwM f2 f3 f5 (wtI (f2 0) h q j) = true → (pfM f2 f3 f5 most h n p S).2.2 (wtI (f2 0) h q j) ≠ 9999)
  | 0, p, S, _, _, hr => ⟨hr, ext_rfl S, fun q j h1 h2 => absurd h2 (by omega)⟩
  | n + 1, p, S, h1, h2, hr => by
    rw [pfM, if_pos (by rw [hr.2.1]; exact hs.2.2.1.2.1)]
    obtain ⟨a1, a2, a3⟩ := kf_ok hs (p := p) ⟨h1, by omega⟩ 9 0 S (by omega) (by omega) hr
    obtain ⟨b1, b2, b3⟩ := pf_ok hs n (p + 1) _ (by omega) (by omega) a1
    refine ⟨b1, ext_trans a2 b2, fun q j q1 q2 j1 j2 j3 j4 => ?_⟩
    by_cases e : q = p
    · subst e
      have := a3 j j1 (by omega) j3 j4
      rw [b2.2.2 _ this]
      exact this
    · exact b3 q j (by omega) (by omega) j1 j2 j3 j4
theorem pf_no {f2 f3 f5 : Int → Int} {most h : Int} {S : BQ} (hn : ¬ S.2.2 h < most) : ∀ (n : Nat) (p : Int), pfM f2 f3 f5 most h n p S = S
  | 0, _ => rfl
  | n + 1, p => by rw [pfM, if_neg hn]
def donB (f2 f3 f5 : Int → Int) (most i : Int) (S : BQ) : Prop := ∀ j : Int, 0 ≤ j → j < i → S.2.2 (S.1 j) < most → ∀ b : Int, stp f2 f3 f5 (S.1 j) b → S.2.2 b ≠ 9999 ∧ S.2.2 b ≤ S.2.2 (S.1 j) + 1
theorem gf_ok {f2 f3 f5 : Int → Int} {X : Int → Prop} {most : Int} (hP : 0 ≤ f2 0 ∧ f2 0 ≤ 4) : ∀ (n : Nat) (i : Int) (S : BQ), i + n = 6562 → 0 ≤ i → (∃ dc : Int, 0 ≤ dc ∧ invB f2 f3 f5 X most dc S ∧ (i < S.2.1 → dc ≤ S.2.2 (S.1 i))) → donB f2 f3 f5 most i S →
    (∃ dc : Int, 0 ≤ dc ∧ invB f2 f3 f5 X most dc (gfM f2 f3 f5 most n i S)) ∧ ext S (gfM f2 f3 f5 most n i S) ∧ donB f2 f3 f5 most (gfM f2 f3 f5 most n i S).2.1 (gfM f2 f3 f5 most n i S)
  | 0, i, S, h1, h2, ⟨dc, d0, hi, d1⟩, hd => by
    have hm := qkM_m hi.1
    exact ⟨⟨dc, d0, hi⟩, ext_rfl S, fun j j1 j2 => hd j j1 (by have j2 : j < S.2.1 := j2; omega)⟩
  | n + 1, i, S, h1, h2, ⟨dc, d0, hi, d1⟩, hd => by
    have hm := qkM_m hi.1
    by_cases c : i < S.2.1
    · rw [gfM, if_pos c]
      obtain ⟨q1, q2, q3, q4⟩ := hi.1.2.1 i h2 c
      have h9 := pw9_rng (n := f2 0) hP.2
      have hi2 := invB_dc (d1 c) hi
      by_cases g : S.2.2 (S.1 i) < most
      · have hs : hsB f2 f3 f5 X most (S.1 i) (S.2.2 (S.1 i)) := ⟨hP, ⟨q1, q2⟩, ⟨q3, g, by omega⟩, (hi.2.2.2 _ q1 (by omega) (ent_n hi.1 h2 c)).2.2.2.1⟩
        obtain ⟨a1, a2, a3⟩ := pf_ok hs (f2 0).toNat 0 S (by omega) (by omega) ⟨hi2, rfl, by omega⟩
        have eF : (pfM f2 f3 f5 most (S.1 i) (f2 0).toNat 0 S).1 i = S.1 i := a2.2.1 i h2 c
        have hlt : i < (pfM f2 f3 f5 most (S.1 i) (f2 0).toNat 0 S).2.1 := Int.lt_of_lt_of_le c a2.1
        have r := gf_ok hP n (i + 1) (pfM f2 f3 f5 most (S.1 i) (f2 0).toNat 0 S) (by omega) (by omega) ⟨S.2.2 (S.1 i), q3, a1.1, fun w => by
            have := a1.1.2.2.1 i (i + 1) h2 (by omega) w
            rw [eF, a1.2.1] at this
            exact this⟩ (fun j j1 j2 j3 b hb => by
            by_cases e : j = i
            · subst e
              rw [eF, a1.2.1]
              rw [eF] at hb
              obtain ⟨p, k, p1, p2, p3, p4, rfl⟩ := hb
              have w := a3 p k p1.1 (by omega) p2.1 p2.2 p3 p4
              have hw := wtI_rng (k := k) hP.2 ⟨q1, q2⟩ p1 p2
              exact ⟨w, (a1.1.2.2.2 _ hw.1 (by omega) w).2.1⟩
            · have e1 := a2.2.1 j j1 (by omega)
              rw [e1] at j3 hb ⊢
              have e2 := a2.2.2 _ (ent_n hi.1 j1 (by omega))
              rw [e2] at j3 ⊢
              obtain ⟨w1, w2⟩ := hd j j1 (by omega) j3 b hb
              rw [a2.2.2 b w1]
              exact ⟨w1, w2⟩)
        exact ⟨r.1, ext_trans a2 r.2.1, r.2.2⟩
      · rw [pf_no g]
        exact gf_ok hP n (i + 1) S (by omega) (by omega) ⟨S.2.2 (S.1 i), q3, hi2, fun w => hi.2.2.1 i (i + 1) h2 (by omega) w⟩ (fun j j1 j2 j3 b hb => by
          by_cases e : j = i
          · subst e; exact absurd j3 g
          · exact hd j j1 (by omega) j3 b hb)
    · rw [gfM, if_neg c]
      exact ⟨⟨dc, d0, hi⟩, ext_rfl S, fun j j1 j2 => hd j j1 (by omega)⟩
/-- a start: houses at distance 0 -/
def staB (f2 f3 f5 : Int → Int) (X : Int → Prop) (most : Int) (S : BQ) : Prop := invB f2 f3 f5 X most 0 S ∧ (∀ r : Int, 0 ≤ r → r < 6561 → S.2.2 r ≠ 9999 → S.2.2 r ≤ 0)
theorem staB_0 (f2 f3 f5 F : Int → Int) (X : Int → Prop) (most : Int) : staB f2 f3 f5 X most (F, 0, fun _ => 9999) :=
  ⟨⟨qkM_0 (f2 0) F, fun a b h1 h2 h3 => absurd h3 (by show ¬ b < 0; omega), fun a b h1 h2 h3 => absurd h3 (by show ¬ b < 0; omega), fun r _ _ w => absurd rfl w⟩, fun r _ _ w => absurd rfl w⟩
theorem staB_rc {f2 f3 f5 : Int → Int} {X : Int → Prop} {most h : Int} {S : BQ} (hP : 0 ≤ f2 0 ∧ f2 0 ≤ 4) (hs : staB f2 f3 f5 X most S) (hh : 0 ≤ h ∧ h < pw9 (f2 0)) (hx : X h) : staB f2 f3 f5 X most (rcM h 0 S) ∧ (rcM h 0 S).2.2 h ≠ 9999 := by
  obtain ⟨r1, r2, r3⟩ := invB_rc (n := 0) hP hs.1 hh hs.2 ⟨Int.le_refl 0, (qkM_m hs.1.1).1⟩ (by omega) (by omega) hx (Or.inl hx)
  exact ⟨⟨r1, r3⟩, r2⟩
theorem bfs_ok {f2 f3 f5 : Int → Int} {X : Int → Prop} {most : Int} {S : BQ} (hP : 0 ≤ f2 0 ∧ f2 0 ≤ 4) (hs : staB f2 f3 f5 X most S) : (∃ dc : Int, 0 ≤ dc ∧ invB f2 f3 f5 X most dc (gfM f2 f3 f5 most 6562 0 S)) ∧ ext S (gfM f2 f3 f5 most 6562 0 S) ∧ donB f2 f3 f5 most (gfM f2 f3 f5 most 6562 0 S).2.1 (gfM f2 f3 f5 most 6562 0 S) :=
  gf_ok hP 6562 0 S (by omega) (by omega) ⟨0, Int.le_refl 0, hs.1, fun w => (hs.1.1.2.1 0 (Int.le_refl 0) w).2.2.1⟩ (fun j j1 j2 => absurd j2 (by omega))
/-- what is reached: what so many acts make out of the start -/
theorem bfs_set {f2 f3 f5 : Int → Int} {X : Int → Prop} {most : Int} {S : BQ} (hP : 0 ≤ f2 0 ∧ f2 0 ≤ 4) (hs : staB f2 f3 f5 X most S) (hX : ∀ r : Int, X r → 0 ≤ r ∧ r < pw9 (f2 0)) (hx : ∀ r : Int, X r → S.2.2 r ≠ 9999) {r : Int} (hr : 0 ≤ r ∧ r < pw9 (f2 0)) : (gfM f2 f3 f5 most 6562 0 S).2.2 r ≠ 9999 ↔ clo f2 f3 f5 X most.toNat r := by
  obtain ⟨⟨dc, d0, hi⟩, he, hd⟩ := bfs_ok hP hs
  have h9 := pw9_rng (n := f2 0) hP.2
  constructor
  · intro w
    obtain ⟨-, -, w3, w4, -⟩ := hi.2.2.2 r hr.1 (by omega) w
    exact clo_le w3 w4
  · have key : ∀ (n : Nat) (r : Int), n ≤ most.toNat → clo f2 f3 f5 X n r → (gfM f2 f3 f5 most 6562 0 S).2.2 r ≠ 9999 ∧ (gfM f2 f3 f5 most 6562 0 S).2.2 r ≤ n := by
      intro n
      induction n with
      | zero =>
        intro r _ hc
        have hr2 := hX r hc
        have e := he.2.2 r (hx r hc)
        rw [e]
        exact ⟨hx r hc, hs.2 r hr2.1 (by omega) (hx r hc)⟩
      | succ n ih =>
        intro r hn hc
        rcases hc with hc | ⟨a, ha, hst⟩
        · obtain ⟨i1, i2⟩ := ih r (by omega) hc
          exact ⟨i1, by omega⟩
        · obtain ⟨i1, i2⟩ := ih a (by omega) ha
          have hra := clo_rng hP hX n a ha
          obtain ⟨⟨-, j, j1, j2, j3⟩, -⟩ := hi.2.2.2 a hra.1 (by omega) i1
          have w := hd j j1 j2 (by rw [j3]; omega) r (by rw [j3]; exact hst)
          rw [j3] at w
          exact ⟨w.1, by omega⟩
    exact fun w => (key most.toNat r (Nat.le_refl _) w).1
