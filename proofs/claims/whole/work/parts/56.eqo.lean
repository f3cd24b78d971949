/-! ===== both sides: best, fit, sure ===== -/
def gF {α : Type} (st : Int → α → α) : Nat → Int → α → α
  | 0, _, s => s
  | n + 1, h, s => gF st n (h + 1) (st h s)
theorem gF_add {α : Type} {st : Int → α → α} : ∀ (n m : Nat) (h : Int) (s : α), gF st (n + m) h s = gF st m (h + n) (gF st n h s)
  | 0, m, h, s => by rw [Nat.zero_add, gF, show h + ((0 : Nat) : Int) = h by omega]
  | n + 1, m, h, s => by
    rw [show n + 1 + m = (n + m) + 1 by omega, gF, gF, gF_add n m (h + 1), show h + 1 + (n : Int) = h + ((n + 1 : Nat) : Int) by omega]
theorem gF_skip {α : Type} {st : Int → α → α} {s : α} : ∀ (n : Nat) (h : Int), (∀ j : Int, h ≤ j → j < h + n → st j s = s) → gF st n h s = s
  | 0, _, _ => rfl
  | n + 1, h, hs => by
    rw [gF, hs h (Int.le_refl h) (by omega)]
    exact gF_skip n (h + 1) (fun j h1 h2 => hs j (by omega) (by omega))
theorem mod_ne {P r t : Int} (hP : 0 ≤ P ∧ P ≤ 4) (ht : 0 < t ∧ t < unS P) : (r * unS P + t) % unS P ≠ 0 := by
  obtain ⟨a0, a1, a2, a3, a4⟩ := unS_v
  rcases P5 hP with rfl | rfl | rfl | rfl | rfl
  · rw [a0] at ht ⊢; omega
  · rw [a1] at ht ⊢; omega
  · rw [a2] at ht ⊢; omega
  · rw [a3] at ht ⊢; omega
  · rw [a4] at ht ⊢; omega
theorem gF_blk {α : Type} {st : Int → α → α} {I : α → Prop} {P : Int} (hP : 0 ≤ P ∧ P ≤ 4) (hs : ∀ (j : Int) (s : α), I s → j % unS P ≠ 0 → st j s = s) (hp : ∀ (j : Int) (s : α), I s → I (st j s)) : ∀ (n : Nat) (r : Int) (s : α), I s → gF st (n * (unS P).toNat) (r * unS P) s = gF (fun r => st (r * unS P)) n r s
  | 0, r, s, _ => by rw [Nat.zero_mul]; rfl
  | n + 1, r, s, hi => by
    have hu := unS_pos hP
    obtain ⟨U, hU⟩ : ∃ U : Nat, (unS P).toNat = 1 + U := ⟨(unS P).toNat - 1, by omega⟩
    rw [Nat.succ_mul, Nat.add_comm, gF_add, hU, gF_add 1 U, show gF st 1 (r * unS P) s = st (r * unS P) s from rfl, gF_skip U _ (fun j h1 h2 => hs j _ (hp _ _ hi) (by
      have e : j = r * unS P + (j - r * unS P) := by omega
      rw [e]
      exact mod_ne hP (by omega))), ← hU, gF, show r * unS P + ((unS P).toNat : Int) = (r + 1) * unS P by rw [Int.add_mul]; omega]
    exact gF_blk hP hs hp n (r + 1) _ (hp _ _ hi)
theorem u_6561 {P : Int} (hP : 0 ≤ P ∧ P ≤ 4) : 6561 = (pw9 P).toNat * (unS P).toNat := by
  rcases P5 hP with rfl | rfl | rfl | rfl | rfl <;> decide
theorem lwS_mod {so bm : Int → Int} {P B dn j : Int} (h : lwS so bm P B dn j = 1) : j % unS P = 0 := by
  unfold lwS at h
  by_cases c : j % unS P = 0 ∧ alw (pl j) so bm P B dn = true
  · exact c.1
  · rw [if_neg c] at h; exact absurd h (by decide)
/-! best -/
def stB (lw so : Int → Int) (P ra su vw no h : Int) (s : Int × Int) : Int × Int := if s.2 < (if lw h = 1 then woA (pl h) so P ra su vw no else -1000000) then (h, if lw h = 1 then woA (pl h) so P ra su vw no else -1000000) else s
theorem bhF_g {lw so : Int → Int} {P ra su vw no : Int} : ∀ (n : Nat) (h : Int) (s : Int × Int), bhF lw so P ra su vw no n h s = gF (stB lw so P ra su vw no) n h s
  | 0, _, _ => rfl
  | n + 1, h, s => by rw [bhF, gF, bhF_g n]; rfl
def bsR (f2 f3 f5 : Int → Int) (c r : Int × Int) : Prop := c.2 = r.2 ∧ -1000000 ≤ r.2 ∧ ((r.1 = -9 ∧ c.1 = -9 ∧ r.2 = -1000000) ∨ ((0 ≤ r.1 ∧ r.1 < pw9 (f2 0)) ∧ c.1 = r.1 * unS (f2 0) ∧ r.2 = wrM f2 f3 r.1 ∧ lwM f2 f3 f5 r.1 = true))
theorem bs_e {f2 f3 f5 so bm : Int → Int} (hk : okR f2 f3 f5) (he : plE f2 f3 f5 so bm) : ∀ (n : Nat) (h : Int) (c r : Int × Int), 0 ≤ h → h + n = pw9 (f2 0) → bsR f2 f3 f5 c r → bsR f2 f3 f5 (gF (fun r => stB (lwC f2 so bm) so (f2 0) (f2 2) (f2 3) (f2 4) (f2 5) (r * unS (f2 0))) n h c) (bsM f2 f3 f5 n h r)
  | 0, _, _, _, _, _, hr => hr
  | n + 1, h, c, r, h0, hn, hr => by
    rw [gF, bsM]
    refine bs_e hk he n (h + 1) _ _ (by omega) (by omega) ?_
    have hh : 0 ≤ h ∧ h < pw9 (f2 0) := ⟨h0, by omega⟩
    obtain ⟨r1, r2, r3⟩ := id hr
    unfold stB
    have hl := lwS_1 hk he hh
    by_cases g : lwM f2 f3 f5 h = true
    · rw [if_pos (hl.mpr g), wo_e hk he hh (lw_ds g)]
      by_cases q : r.2 < wrM f2 f3 h
      · rw [if_pos (show c.2 < woM (slI (f2 0) h) f3 (f2 0) (f2 2) (f2 3) (f2 4) (f2 5) by rw [r1]; exact q), if_pos ⟨g, q⟩]
        exact ⟨rfl, by show -1000000 ≤ wrM f2 f3 h; omega, Or.inr ⟨hh, rfl, rfl, g⟩⟩
      · rw [if_neg (show ¬ c.2 < woM (slI (f2 0) h) f3 (f2 0) (f2 2) (f2 3) (f2 4) (f2 5) by rw [r1]; exact q), if_neg (fun w => q w.2)]
        exact hr
    · rw [if_neg (fun w => g (hl.mp w)), if_neg (show ¬ c.2 < -1000000 by omega), if_neg (fun w => g w.1)]
      exact hr
theorem bst_e {f2 f3 f5 so bm : Int → Int} (hk : okR f2 f3 f5) (he : plE f2 f3 f5 so bm) : bsR f2 f3 f5 (bhF (lwC f2 so bm) so (f2 0) (f2 2) (f2 3) (f2 4) (f2 5) 6561 0 (-9, -1000000)) (bsM f2 f3 f5 (pw9 (f2 0)).toNat 0 (-9, -1000000)) := by
  have h9 := pw9_rng (n := f2 0) hk.1.2
  rw [bhF_g, u_6561 hk.1]
  have hb := gF_blk (st := stB (lwC f2 so bm) so (f2 0) (f2 2) (f2 3) (f2 4) (f2 5)) (I := fun s => -1000000 ≤ s.2) hk.1 (fun j s hi hj => by
    unfold stB
    rw [if_neg (show ¬ lwC f2 so bm j = 1 from fun w => hj (lwS_mod w)), if_neg (show ¬ s.2 < -1000000 by omega)]) (fun j s hi => by
    unfold stB
    have hi : -1000000 ≤ s.2 := hi
    by_cases c : s.2 < (if lwC f2 so bm j = 1 then woA (pl j) so (f2 0) (f2 2) (f2 3) (f2 4) (f2 5) else -1000000)
    · rw [if_pos c]
      exact Int.le_of_lt (Int.lt_of_le_of_lt hi c)
    · rw [if_neg c]; exact hi) (pw9 (f2 0)).toNat 0 (-9, -1000000) (by show (-1000000 : Int) ≤ -1000000; decide)
  rw [Int.zero_mul] at hb
  rw [hb]
  exact bs_e hk he _ 0 _ _ (Int.le_refl 0) (by omega) ⟨rfl, by decide, Or.inl ⟨rfl, rfl, rfl⟩⟩
/-! a letter -/
theorem zbandn_ne {a b : Int} (ha : 0 ≤ a ∧ a < 256) : zbandn a b ≠ 0 ↔ ∃ k : Int, (0 ≤ k ∧ k < 8) ∧ ztb a k = true ∧ ztb b k = false := by
  constructor
  · intro h
    refine Classical.byContradiction fun q => h ?_
    unfold zbandn
    have e : a.toNat ^^^ (a.toNat &&& b.toNat) = 0 := by
      apply Nat.eq_of_testBit_eq
      intro i
      rw [Nat.testBit_xor, Nat.testBit_and, Nat.zero_testBit]
      by_cases hi : i < 8
      · cases h1 : a.toNat.testBit i with
        | false => rfl
        | true =>
          cases h2 : b.toNat.testBit i with
          | true => rfl
          | false => exact absurd ⟨(i : Int), ⟨by omega, by omega⟩, by unfold ztb; simpa using h1, by unfold ztb; simpa using h2⟩ q
      · have : a.toNat.testBit i = false := Nat.testBit_lt_two_pow (Nat.lt_of_lt_of_le (show a.toNat < 2 ^ 8 by omega) (Nat.pow_le_pow_right (by decide) (by omega)))
        rw [this]; rfl
    rw [e]
    rfl
  · rintro ⟨k, hk, h1, h2⟩ h
    have e : ztb (zbandn a b) k = true := by rw [ztb_bandn, h1, h2]; rfl
    rw [h, ztb_0] at e
    exact absurd e (by decide)
/-- the letter's clues on both sides -/
def leE (f6 : Int → Int) (li da : Int) : Prop := (0 ≤ li ∧ li < 256) ∧ (0 ≤ da ∧ da < 256) ∧ (∀ h : Int, 0 ≤ h → h < 8 → (ztb li h = true ↔ ∃ j : Int, 0 ≤ j ∧ j < f6 4 ∧ f6 (5 + 2 * j) = h ∧ f6 (5 + 2 * j + 1) = 1)) ∧ (∀ h : Int, 0 ≤ h → h < 8 → (ztb da h = true ↔ ∃ j : Int, 0 ≤ j ∧ j < f6 4 ∧ f6 (5 + 2 * j) = h ∧ f6 (5 + 2 * j + 1) = 0))
theorem cuM_iff {f2 f3 f6 : Int → Int} {h : Int} : ∀ (n : Nat) (k : Int), cuM f2 f3 f6 h n k = true ↔ ∀ j : Int, k ≤ j → j < k + n → (liM (slI (f2 0) h) f3 (f2 0) (f2 3) (f6 (5 + 2 * j)) ↔ f6 (5 + 2 * j + 1) = 1)
  | 0, k => ⟨fun _ j h1 h2 => absurd h2 (by omega), fun _ => rfl⟩
  | n + 1, k => by
    rw [cuM, Bool.and_eq_true, decide_eq_true_iff, cuM_iff n (k + 1)]
    constructor
    · rintro ⟨a, b⟩ j h1 h2
      by_cases e : j = k
      · rw [e]; exact a
      · exact b j (by omega) (by omega)
    · exact fun w => ⟨w k (Int.le_refl k) (by omega), fun j h1 h2 => w j (by omega) (by omega)⟩
abbrev fitC (lw so : Int → Int) (P su li da h : Int) : Prop := lw h = 1 ∧ (zbandn li (ltA (pl h) so P su) = 0 ∧ zband da (ltA (pl h) so P su) = 0)
theorem zband_comm (a b : Int) : zband a b = zband b a := by unfold zband; rw [Nat.and_comm]
theorem fit_e {f2 f3 f5 f6 so bm : Int → Int} {li da r : Int} (hk : okR f2 f3 f5) (hn : okN f2 f6) (he : plE f2 f3 f5 so bm) (hl : leE f6 li da) (hr : 0 ≤ r ∧ r < pw9 (f2 0)) : fitC (lwC f2 so bm) so (f2 0) (f2 3) li da (r * unS (f2 0)) ↔ ftM f2 f3 f5 f6 r = true := by
  obtain ⟨l1, l2, l3, l4⟩ := hl
  obtain ⟨-, -, -, -, n5, n6⟩ := hn
  unfold fitC ftM
  rw [Bool.and_eq_true, lwS_1 hk he hr]
  refine and_congr_right fun g => ?_
  have hli := fun k (hk8 : 0 ≤ k ∧ k < 8) => li_e (k := k) hk he hr (lw_ds g) hk8
  rw [cuM_iff]
  constructor
  · rintro ⟨a, b⟩ j j1 j2
    obtain ⟨m1, m2⟩ := n6 j j1 (by omega)
    rw [hli _ m1]
    constructor
    · intro w
      refine m2.elim (fun z => ?_) (fun z => z)
      have hb : ztb da (f6 (5 + 2 * j)) = true := (l4 _ m1.1 m1.2).mpr ⟨j, j1, by omega, rfl, z⟩
      exact absurd b (by rw [zband_comm]; exact (zband_ne l2).mpr ⟨f6 (5 + 2 * j), m1, w, hb⟩)
    · intro w
      have hb : ztb li (f6 (5 + 2 * j)) = true := (l3 _ m1.1 m1.2).mpr ⟨j, j1, by omega, rfl, w⟩
      cases hz : ztb (ltA (pl (r * unS (f2 0))) so (f2 0) (f2 3)) (f6 (5 + 2 * j)) with
      | true => rfl
      | false => exact absurd a ((zbandn_ne l1).mpr ⟨f6 (5 + 2 * j), m1, hb, hz⟩)
  · intro w
    constructor
    · refine Classical.byContradiction fun z => ?_
      obtain ⟨k, k1, k2, k3⟩ := (zbandn_ne l1).mp z
      obtain ⟨j, j1, j2, j3, j4⟩ := (l3 k k1.1 k1.2).mp k2
      have h1 := (w j j1 (by omega)).mpr j4
      rw [j3, hli k k1, k3] at h1
      exact absurd h1 (by decide)
    · refine Classical.byContradiction fun z => ?_
      rw [zband_comm] at z
      obtain ⟨k, k1, k2, k3⟩ := (zband_ne l2).mp z
      obtain ⟨j, j1, j2, j3, j4⟩ := (l4 k k1.1 k1.2).mp k3
      have h1 := (w j j1 (by omega)).mp (by rw [j3]; exact (hli k k1).mpr k2)
      omega
theorem cfF_g {lw so : Int → Int} {P su li da : Int} : ∀ (n : Nat) (h a : Int), gF (fun h a => (if fitC lw so P su li da h then 1 else 0) + a) n h a = cfF lw so P su li da n h + a
  | 0, _, _ => by rw [gF, cfF]; omega
  | n + 1, h, a => by rw [gF, cfF, cfF_g n]; omega
theorem fc_e {f2 f3 f5 f6 so bm : Int → Int} {li da : Int} (hk : okR f2 f3 f5) (hn : okN f2 f6) (he : plE f2 f3 f5 so bm) (hl : leE f6 li da) : ∀ (n : Nat) (h a : Int), 0 ≤ h → h + n = pw9 (f2 0) → gF (fun r a => (if fitC (lwC f2 so bm) so (f2 0) (f2 3) li da (r * unS (f2 0)) then 1 else 0) + a) n h a = fcM f2 f3 f5 f6 n h + a
  | 0, _, _, _, _ => by rw [gF, fcM]; omega
  | n + 1, h, a, h0, h1 => by
    rw [gF, fcM, fc_e hk hn he hl n (h + 1) _ (by omega) (by omega)]
    have hf := fit_e hk hn he hl ⟨h0, by omega⟩
    by_cases c : ftM f2 f3 f5 f6 h = true
    · rw [if_pos c, if_pos (hf.mpr c)]; omega
    · rw [if_neg c, if_neg (fun w => c (hf.mp w))]; omega
theorem cf_e {f2 f3 f5 f6 so bm : Int → Int} {li da : Int} (hk : okR f2 f3 f5) (hn : okN f2 f6) (he : plE f2 f3 f5 so bm) (hl : leE f6 li da) : cfF (lwC f2 so bm) so (f2 0) (f2 3) li da 6561 0 = fcM f2 f3 f5 f6 (pw9 (f2 0)).toNat 0 := by
  have h9 := pw9_rng (n := f2 0) hk.1.2
  have h1 := cfF_g (lw := lwC f2 so bm) (so := so) (P := f2 0) (su := f2 3) (li := li) (da := da) 6561 0 0
  have hb := gF_blk (st := fun h (a : Int) => (if fitC (lwC f2 so bm) so (f2 0) (f2 3) li da h then 1 else 0) + a) (I := fun _ => True) hk.1 (fun j s _ hj => by
    show (if fitC (lwC f2 so bm) so (f2 0) (f2 3) li da j then 1 else 0) + s = s
    rw [if_neg (fun w => hj (lwS_mod w.1))]; omega) (fun _ _ _ => trivial) (pw9 (f2 0)).toNat 0 0 trivial
  rw [← u_6561 hk.1, Int.zero_mul, h1, fc_e hk hn he hl _ 0 0 (Int.le_refl 0) (by omega)] at hb
  omega
/-! sure -/
def stS (lw so : Int → Int) (P su li da p h : Int) (s : Bool × Int) : Bool × Int := if s.1 = true then s else if fitC lw so P su li da h then (if s.2 ≠ -9 ∧ s.2 ≠ pl h p then (true, -9) else (false, pl h p)) else s
theorem stS_t {lw so : Int → Int} {P su li da p : Int} {a : Int} : ∀ (n : Nat) (h : Int), gF (stS lw so P su li da p) n h (true, a) = (true, a)
  | 0, _ => rfl
  | n + 1, h => by rw [gF, show stS lw so P su li da p h (true, a) = (true, a) from if_pos rfl, stS_t n]
theorem spF_g {lw so : Int → Int} {P su li da p : Int} : ∀ (n : Nat) (h a : Int), (gF (stS lw so P su li da p) n h (false, a)).2 = spF lw so P su li da p n h a
  | 0, _, _ => rfl
  | n + 1, h, a => by
    rw [gF, spF]
    have e0 : stS lw so P su li da p h (false, a) = if fitC lw so P su li da h then (if a ≠ -9 ∧ a ≠ pl h p then (true, -9) else (false, pl h p)) else (false, a) := if_neg (show ¬ (false = true) by decide)
    rw [e0]
    by_cases c : fitC lw so P su li da h
    · rw [if_pos c, if_pos c]
      by_cases g : a ≠ -9 ∧ a ≠ pl h p
      · rw [if_pos g, if_pos g, stS_t]
      · rw [if_neg g, if_neg g]; exact spF_g n (h + 1) _
    · rw [if_neg c, if_neg c]; exact spF_g n (h + 1) _
def suR (s : Bool × Int) (t : Int) : Prop := 0 ≤ t ∧ ((s.1 = false ∧ s.2 = -9 ∧ t = 0) ∨ (s.1 = false ∧ (0 ≤ s.2 ∧ s.2 ≤ 8) ∧ t = zpw s.2) ∨ (s.1 = true ∧ s.2 = -9 ∧ ∃ x y : Int, (0 ≤ x ∧ 0 ≤ y ∧ x ≠ y) ∧ ztb t x = true ∧ ztb t y = true))
theorem zbor_self (a : Int) (h : 0 ≤ a) : zbor a a = a := by unfold zbor; rw [Nat.or_self, Int.toNat_of_nonneg h]
theorem zbor_0l {a : Int} (h : 0 ≤ a) : zbor 0 a = a := by unfold zbor; rw [Int.toNat_zero, Nat.zero_or, Int.toNat_of_nonneg h]
theorem su_e {f2 f3 f5 f6 so bm : Int → Int} {li da p : Int} (hk : okR f2 f3 f5) (hn : okN f2 f6) (he : plE f2 f3 f5 so bm) (hl : leE f6 li da) (hp : 0 ≤ p ∧ p < f2 0) : ∀ (n : Nat) (h t : Int) (s : Bool × Int), 0 ≤ h → h + n = pw9 (f2 0) → suR s t → suR (gF (fun r => stS (lwC f2 so bm) so (f2 0) (f2 3) li da p (r * unS (f2 0))) n h s) (suM f2 f3 f5 f6 p n h t)
  | 0, _, _, _, _, _, hr => hr
  | n + 1, h, t, s, h0, h1, hr => by
    rw [gF, suM]
    refine su_e hk hn he hl hp n (h + 1) _ _ (by omega) (by omega) ?_
    have hh : 0 ≤ h ∧ h < pw9 (f2 0) := ⟨h0, by omega⟩
    have hf := fit_e hk hn he hl hh
    have hsl := slI_rng (f2 0) p h0
    obtain ⟨r0, r1⟩ := id hr
    unfold stS
    rw [pl_hc hk.1 hh hp]
    by_cases c : ftM f2 f3 f5 f6 h = true
    · rw [if_pos c, if_pos (hf.mpr c)]
      refine ⟨zbor_nn _ _, ?_⟩
      rcases r1 with ⟨a1, a2, a3⟩ | ⟨a1, a2, a3⟩ | ⟨a1, a2, x, y, a3, a4, a5⟩
      · rw [if_neg (by rw [a1]; decide), if_neg (fun w => w.1 a2), a3, zbor_0l (zpw_nn _)]
        exact Or.inr (Or.inl ⟨rfl, hsl, rfl⟩)
      · rw [if_neg (by rw [a1]; decide)]
        by_cases g : s.2 = slI (f2 0) h p
        · rw [if_neg (fun w => w.2 g), a3, g, zbor_self _ (zpw_nn _)]
          exact Or.inr (Or.inl ⟨rfl, hsl, rfl⟩)
        · rw [if_pos ⟨by omega, g⟩]
          refine Or.inr (Or.inr ⟨rfl, rfl, s.2, slI (f2 0) h p, ⟨a2.1, hsl.1, g⟩, ?_, ?_⟩)
          · rw [ztb_bor, a3, ztb_pw a2.1 a2.1, decide_eq_true rfl, Bool.true_or]
          · rw [ztb_bor, ztb_pw hsl.1 hsl.1, decide_eq_true rfl, Bool.or_true]
      · rw [if_pos a1]
        exact Or.inr (Or.inr ⟨a1, a2, x, y, a3, by rw [ztb_bor, a4, Bool.true_or], by rw [ztb_bor, a5, Bool.true_or]⟩)
    · rw [if_neg c, zbor_z r0]
      by_cases g : s.1 = true
      · rw [if_pos g]; exact hr
      · rw [if_neg g, if_neg (fun w => c (hf.mp w))]; exact hr
theorem skM_no {t : Int} : ∀ (n : Nat) (k a : Int), (∀ j : Int, k ≤ j → j < k + n → t ≠ zpw j) → skM t n k a = a
  | 0, _, _, _ => rfl
  | n + 1, k, a, h => by
    rw [skM, if_neg (h k (Int.le_refl k) (by omega))]
    exact skM_no n (k + 1) a (fun j h1 h2 => h j (by omega) (by omega))
theorem zpw_inj {a b : Int} (ha : 0 ≤ a) (hb : 0 ≤ b) (h : zpw a = zpw b) : a = b := by
  have e := ztb_pw ha ha
  rw [h, ztb_pw hb ha, decide_eq_true rfl, decide_eq_true_iff] at e
  exact e.symm
theorem skM_yes {v : Int} : ∀ (n : Nat) (k a : Int), 0 ≤ k → k ≤ v → v < k + n → skM (zpw v) n k a = v
  | 0, k, a, h0, h1, h2 => absurd h2 (by omega)
  | n + 1, k, a, h0, h1, h2 => by
    rw [skM]
    by_cases e : v = k
    · rw [if_pos (by rw [e])]
      rw [skM_no n (k + 1) k (fun j j1 j2 w => by have := zpw_inj (by omega) (by omega) w; omega)]
      exact e.symm
    · exact skM_yes n (k + 1) _ (by omega) (by omega) (by omega)
theorem sp_e {f2 f3 f5 f6 so bm : Int → Int} {li da p : Int} (hk : okR f2 f3 f5) (hn : okN f2 f6) (he : plE f2 f3 f5 so bm) (hl : leE f6 li da) (hp : 0 ≤ p ∧ p < f2 0) : spF (lwC f2 so bm) so (f2 0) (f2 3) li da p 6561 0 (-9) = skM (suM f2 f3 f5 f6 p (pw9 (f2 0)).toNat 0 0) 9 0 (-9) := by
  have h9 := pw9_rng (n := f2 0) hk.1.2
  have hb := gF_blk (st := stS (lwC f2 so bm) so (f2 0) (f2 3) li da p) (I := fun _ => True) hk.1 (fun j s _ hj => by
    unfold stS
    by_cases g : s.1 = true
    · rw [if_pos g]
    · rw [if_neg g, if_neg (fun w => hj (lwS_mod w.1))]) (fun _ _ _ => trivial) (pw9 (f2 0)).toNat 0 (false, -9) trivial
  rw [← u_6561 hk.1, Int.zero_mul] at hb
  rw [← spF_g, hb]
  have hr := su_e hk hn he hl hp (pw9 (f2 0)).toNat 0 0 (false, -9) (Int.le_refl 0) (by omega) ⟨Int.le_refl 0, Or.inl ⟨rfl, rfl, rfl⟩⟩
  generalize gF (fun r => stS (lwC f2 so bm) so (f2 0) (f2 3) li da p (r * unS (f2 0))) (pw9 (f2 0)).toNat 0 (false, -9) = s at hr ⊢
  generalize suM f2 f3 f5 f6 p (pw9 (f2 0)).toNat 0 0 = t at hr ⊢
  obtain ⟨r0, r1⟩ := hr
  rcases r1 with ⟨a1, a2, a3⟩ | ⟨a1, a2, a3⟩ | ⟨a1, a2, x, y, a3, a4, a5⟩
  · rw [a2, skM_no]
    intro j j1 j2 w
    have e := ztb_pw j1 j1
    rw [← w, a3, ztb_0, decide_eq_true rfl] at e
    exact absurd e (by decide)
  · rw [a3, skM_yes 9 0 (-9) (Int.le_refl 0) a2.1 (by omega)]
  · rw [a2, skM_no]
    intro j j1 j2 w
    rw [w, ztb_pw j1 a3.1, decide_eq_true_iff] at a4
    rw [w, ztb_pw j1 a3.2.1, decide_eq_true_iff] at a5
    exact a3.2.2 (by omega)
