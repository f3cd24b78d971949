/-! ===== both sides: items ===== -/
abbrev dusT (s : DUS) : TKS := (s.1, s.2.1, s.2.2.1, s.2.2.2.1)
def tokS (t : TKS) (s : DUS) : Prop := tokR t (dusT s) ∧ s.2.2.2.2 = -9
theorem du_y {tx : Int → Int} {ln v : Int} {t : TKS} {s : DUS} {p : Prop} [Decidable p] (hk : 0 ≤ t.1 ∧ t.1 ≤ ln) (hs : tokS t s) (hp : p) : tokS (ntA (btA tx ln) t.1 v) (duM (btA tx ln) p s) := by
  rw [duM_y hs.2 hp]
  have e : t.1 = s.1 := hs.1.1
  refine ⟨?_, hs.2⟩
  rw [e] at hk ⊢
  exact nt_e hk
theorem du_f {b : Int → Int} {t : TKS} {s : DUS} {p : Prop} [Decidable p] (hs : tokS t s) (hp : ¬ p) : (duM b p s).2.2.2.2 = t.2.1 := by
  rw [duM_f hs.2 hp]
  exact hs.1.2.1.symm
theorem tok_2 {t : TKS} {s : DUS} (hs : tokS t s) : t.2.2.1 = 2 ↔ s.2.2.1 = 12 := by
  have h : (t.2.2.1 = 0 ∧ s.2.2.1 = 11) ∨ (t.2.2.1 = 1 ∧ s.2.2.1 = t.2.2.2 ∧ 0 ≤ t.2.2.2 ∧ t.2.2.2 ≤ 10) ∨ (t.2.2.1 = 2 ∧ s.2.2.1 = 12 ∧ t.2.2.2 = s.2.2.2.1 ∧ 0 ≤ s.2.2.2.1 ∧ s.2.2.2.1 ≤ 99) ∨ (t.2.2.1 = 3 ∧ s.2.2.1 = 13) ∨ (t.2.2.1 = 4 ∧ s.2.2.1 = 14) := hs.1.2.2
  omega
theorem tok_v {t : TKS} {s : DUS} (hs : tokS t s) (h2 : t.2.2.1 = 2) : t.2.2.2 = s.2.2.2.1 ∧ 0 ≤ s.2.2.2.1 ∧ s.2.2.2.1 ≤ 99 := by
  have h : (t.2.2.1 = 0 ∧ s.2.2.1 = 11) ∨ (t.2.2.1 = 1 ∧ s.2.2.1 = t.2.2.2 ∧ 0 ≤ t.2.2.2 ∧ t.2.2.2 ≤ 10) ∨ (t.2.2.1 = 2 ∧ s.2.2.1 = 12 ∧ t.2.2.2 = s.2.2.2.1 ∧ 0 ≤ s.2.2.2.1 ∧ s.2.2.2.1 ≤ 99) ∨ (t.2.2.1 = 3 ∧ s.2.2.1 = 13) ∨ (t.2.2.1 = 4 ∧ s.2.2.1 = 14) := hs.1.2.2
  omega
theorem tok_3 {t : TKS} {s : DUS} (hs : tokS t s) : t.2.2.1 = 3 ↔ s.2.2.1 = 13 := by
  have h : (t.2.2.1 = 0 ∧ s.2.2.1 = 11) ∨ (t.2.2.1 = 1 ∧ s.2.2.1 = t.2.2.2 ∧ 0 ≤ t.2.2.2 ∧ t.2.2.2 ≤ 10) ∨ (t.2.2.1 = 2 ∧ s.2.2.1 = 12 ∧ t.2.2.2 = s.2.2.2.1 ∧ 0 ≤ s.2.2.2.1 ∧ s.2.2.2.1 ≤ 99) ∨ (t.2.2.1 = 3 ∧ s.2.2.1 = 13) ∨ (t.2.2.1 = 4 ∧ s.2.2.1 = 14) := hs.1.2.2
  omega
theorem tok_1 {t : TKS} {s : DUS} (hs : tokS t s) (h1 : t.2.2.1 = 1) : s.2.2.1 = t.2.2.2 ∧ 0 ≤ t.2.2.2 ∧ t.2.2.2 ≤ 10 := by
  have h : (t.2.2.1 = 0 ∧ s.2.2.1 = 11) ∨ (t.2.2.1 = 1 ∧ s.2.2.1 = t.2.2.2 ∧ 0 ≤ t.2.2.2 ∧ t.2.2.2 ≤ 10) ∨ (t.2.2.1 = 2 ∧ s.2.2.1 = 12 ∧ t.2.2.2 = s.2.2.2.1 ∧ 0 ≤ s.2.2.2.1 ∧ s.2.2.2.1 ≤ 99) ∨ (t.2.2.1 = 3 ∧ s.2.2.1 = 13) ∨ (t.2.2.1 = 4 ∧ s.2.2.1 = 14) := hs.1.2.2
  omega
theorem tok_n {t : TKS} {s : DUS} (hs : tokS t s) (h1 : t.2.2.1 ≠ 1) : 11 ≤ s.2.2.1 := by
  have h : (t.2.2.1 = 0 ∧ s.2.2.1 = 11) ∨ (t.2.2.1 = 1 ∧ s.2.2.1 = t.2.2.2 ∧ 0 ≤ t.2.2.2 ∧ t.2.2.2 ≤ 10) ∨ (t.2.2.1 = 2 ∧ s.2.2.1 = 12 ∧ t.2.2.2 = s.2.2.2.1 ∧ 0 ≤ s.2.2.2.1 ∧ s.2.2.2.1 ≤ 99) ∨ (t.2.2.1 = 3 ∧ s.2.2.1 = 13) ∨ (t.2.2.1 = 4 ∧ s.2.2.1 = 14) := hs.1.2.2
  omega
theorem tok_0 {t : TKS} {s : DUS} (hs : tokS t s) : t.2.2.1 = 0 ↔ s.2.2.1 = 11 := by
  have h : (t.2.2.1 = 0 ∧ s.2.2.1 = 11) ∨ (t.2.2.1 = 1 ∧ s.2.2.1 = t.2.2.2 ∧ 0 ≤ t.2.2.2 ∧ t.2.2.2 ≤ 10) ∨ (t.2.2.1 = 2 ∧ s.2.2.1 = 12 ∧ t.2.2.2 = s.2.2.2.1 ∧ 0 ≤ s.2.2.2.1 ∧ s.2.2.2.1 ≤ 99) ∨ (t.2.2.1 = 3 ∧ s.2.2.1 = 13) ∨ (t.2.2.1 = 4 ∧ s.2.2.1 = 14) := hs.1.2.2
  omega
/-- the plan that is being told, on both sides -/
def jP (dt ht : Int) (so bm : Int → Int) (P TH B ra su vw no dn ha tl : Int) (f2 f3 f4 f5 : Int → Int) : Prop :=
  (f2 8 = P ∧ f2 9 = B ∧ f2 10 = ra ∧ f2 11 = su ∧ f2 12 = vw ∧ f2 13 = no ∧ f2 14 = dn ∧ f2 15 = ha) ∧ (∀ j : Int, 0 ≤ j → j < P → so j = f3 (4 + j) ∧ pl TH j = f4 (4 + j)) ∧ (∀ j : Int, 0 ≤ j → j < B → bm j = f5 (2 + j)) ∧
  ((ztb tl 7 = true ↔ vw ≠ -9) ∧ (ztb tl 8 = true ↔ no ≠ -9) ∧ (ztb tl 9 = true ↔ dt = 1) ∧ (ztb tl 10 = true ↔ ht = 1)) ∧ (∀ a b : Int, 0 ≤ a → a < b → b < P → pl TH a = pl TH b → pl TH a = 8) ∧ 0 ≤ tl
def jQ (q : Int × Int × PLS) (tl : Int) (f2 f3 f4 f5 : Int → Int) : Prop := jP q.1 q.2.1 q.2.2.1 q.2.2.2.1 q.2.2.2.2.1 q.2.2.2.2.2.1 q.2.2.2.2.2.2.1 q.2.2.2.2.2.2.2.1 q.2.2.2.2.2.2.2.2.1 q.2.2.2.2.2.2.2.2.2.1 q.2.2.2.2.2.2.2.2.2.2.1 q.2.2.2.2.2.2.2.2.2.2.2.1 q.2.2.2.2.2.2.2.2.2.2.2.2 tl f2 f3 f4 f5
theorem zb_ne (c : Prop) [Decidable c] : zb c ≠ 0 ↔ c := ⟨zb_t, fun h => by rw [zb_1 h]; decide⟩
theorem my_e {dt ht P TH B ra su vw no dn ha tl w : Int} {so bm f2 f3 f4 f5 : Int → Int} (hj : jP dt ht so bm P TH B ra su vw no dn ha tl f2 f3 f4 f5) (hd : 0 ≤ dt ∧ dt ≤ 1) (hh : 0 ≤ ht ∧ ht ≤ 1) (hw : 0 ≤ w ∧ w ≤ 10) : mbA w P B vw no dt ht ≠ 0 ↔ myP f2 tl w := by
  obtain ⟨⟨p0, p1, p2, p3, p4, p5, p6, p7⟩, -, -, ⟨t7, t8, t9, t10⟩, -, -⟩ := hj
  have hb : ∀ k : Int, ztb tl k = false ↔ ¬ ztb tl k = true := fun k => by cases ztb tl k <;> simp
  unfold mbA myP
  by_cases c4 : w = 4
  · rw [if_pos c4, zb_ne]
    exact ⟨fun z => Or.inr (Or.inl ⟨c4, by omega⟩), fun z => by rcases z with q | q | q | ⟨q, -⟩ <;> omega⟩
  · rw [if_neg c4]
    by_cases c5 : w = 5
    · rw [if_pos c5]
      exact ⟨fun _ => Or.inr (Or.inr (Or.inl (by omega))), fun _ => by decide⟩
    · rw [if_neg c5]
      by_cases c6 : w = 6
      · rw [if_pos c6]
        exact ⟨fun _ => Or.inr (Or.inr (Or.inl (by omega))), fun _ => by decide⟩
      · rw [if_neg c6]
        by_cases c7 : w = 7
        · rw [if_pos c7, zb_ne, c7, hb, t7]
          exact ⟨fun z => Or.inr (Or.inr (Or.inr ⟨by omega, by omega⟩)), fun z => by omega⟩
        · rw [if_neg c7]
          by_cases c8 : w = 8
          · rw [if_pos c8, zb_ne, c8, hb, t8]
            exact ⟨fun z => Or.inr (Or.inr (Or.inr ⟨by omega, by omega⟩)), fun z => by omega⟩
          · rw [if_neg c8]
            by_cases c9 : w = 9
            · rw [if_pos c9, zb_ne, c9, hb, t9]
              exact ⟨fun z => Or.inr (Or.inr (Or.inr ⟨by omega, by omega⟩)), fun z => by omega⟩
            · rw [if_neg c9]
              by_cases c10 : w = 10
              · rw [if_pos c10, zb_ne, c10, hb, t10]
                exact ⟨fun z => Or.inr (Or.inr (Or.inr ⟨by omega, by omega⟩)), fun z => by omega⟩
              · rw [if_neg c10, zb_ne]
                exact ⟨fun z => Or.inl ⟨by omega, by omega⟩, fun z => by rcases z with q | q | q | ⟨q, -⟩ <;> omega⟩
theorem sdF_iff {f4 : Int → Int} {k : Int} : ∀ (n : Nat) (i : Int), sdF f4 k n i = true ↔ ∃ j : Int, i ≤ j ∧ j < i + n ∧ k < 8 ∧ f4 (4 + j) = k
  | 0, i => ⟨fun h => absurd h (by simp [sdF]), fun ⟨j, h1, h2, _⟩ => absurd h2 (by omega)⟩
  | n + 1, i => by
    unfold sdF
    rw [Bool.or_eq_true, decide_eq_true_iff, sdF_iff n (i + 1)]
    constructor
    · rintro (h | ⟨j, h1, h2, h3⟩)
      · exact ⟨i, Int.le_refl i, by omega, h⟩
      · exact ⟨j, by omega, by omega, h3⟩
    · rintro ⟨j, h1, h2, h3⟩
      by_cases e : j = i
      · subst e; exact Or.inl h3
      · exact Or.inr ⟨j, by omega, by omega, h3⟩
theorem mf_p {P TH w n : Int} {f2 f4 : Int → Int} (hw : ¬ (4 ≤ w ∧ w ≤ 10)) (hP : f2 8 = P) (h4 : ∀ j : Int, 0 ≤ j → j < P → pl TH j = f4 (4 + j)) : mfA w n P TH ≠ 0 ↔ ((0 ≤ n ∧ n ≤ 8) ∧ sdF f4 n (f2 8).toNat 0 = false) := by
  unfold mfA
  rw [if_neg (by omega), if_neg (by omega), if_neg (by omega), zb_ne, hP]
  have hb : sdF f4 n P.toNat 0 = false ↔ ¬ sdF f4 n P.toNat 0 = true := by cases sdF f4 n P.toNat 0 <;> simp
  rw [hb, sdF_iff, pat_neg _ _ (Int.le_refl 0)]
  constructor
  · rintro (e | ⟨e1, e2⟩)
    · exact ⟨by omega, fun ⟨j, _, _, q, _⟩ => by omega⟩
    · exact ⟨by omega, fun ⟨j, j1, j2, _, j4⟩ => e2 j j1 j2 (by rw [h4 j j1 (by omega)]; exact j4)⟩
  · rintro ⟨e1, e2⟩
    by_cases c : n = 8
    · exact Or.inl c
    · exact Or.inr ⟨by omega, fun j j1 j2 j3 => e2 ⟨j, j1, j2, by omega, by rw [← h4 j j1 (by omega)]; exact j3⟩⟩
theorem mf_s {P TH w n : Int} (hw : 4 ≤ w ∧ w ≤ 8) : mfA w n P TH ≠ 0 ↔ (0 ≤ n ∧ n < 8) := by unfold mfA; rw [if_pos hw, zb_ne]
theorem mf_h {P TH w n lo hi : Int} (hw : 7 ≤ w ∧ w ≤ 10) (hlo : lo = if w = 10 then 1 else 0) (hhi : hi = if w < 9 then 7 else if w = 9 then 4 else 9) : mfA w n P TH ≠ 0 ↔ (lo ≤ n ∧ n ≤ hi) := by
  subst hlo hhi
  rcases (show w = 7 ∨ w = 8 ∨ w = 9 ∨ w = 10 by omega) with rfl | rfl | rfl | rfl
  · rw [mf_s (by omega), if_neg (by omega), if_pos (by omega)]; omega
  · rw [mf_s (by omega), if_neg (by omega), if_pos (by omega)]; omega
  · unfold mfA; rw [if_neg (by omega), if_pos rfl, zb_ne, if_neg (by omega), if_neg (by omega), if_pos rfl]
  · unfold mfA; rw [if_neg (by omega), if_neg (by omega), if_pos rfl, zb_ne, if_pos rfl, if_neg (by omega), if_neg (by omega)]
theorem pl_add {P TH n j : Int} (hP : 0 ≤ P ∧ P < 4) (hT : 0 ≤ TH ∧ TH < 6561 ∧ TH % unS P = 0) (hn : 0 ≤ n ∧ n ≤ 8) (hj : 0 ≤ j ∧ j ≤ P) : pl (TH + n * un P) j = if j = P then n else pl TH j := by
  obtain ⟨a0, a1, a2, a3, a4⟩ := unS_v
  unfold pl
  rcases (show P = 0 ∨ P = 1 ∨ P = 2 ∨ P = 3 by omega) with rfl | rfl | rfl | rfl
  · rw [a0] at hT
    obtain rfl : j = 0 := by omega
    rw [if_pos rfl, if_pos rfl, show un 0 = 729 from rfl]; omega
  · rw [a1] at hT
    rw [show un 1 = 81 from rfl]
    rcases (show j = 0 ∨ j = 1 by omega) with rfl | rfl
    · rw [if_pos rfl, if_neg (by decide), if_pos rfl]; omega
    · rw [if_neg (by decide), if_pos rfl, if_pos rfl]; omega
  · rw [a2] at hT
    rw [show un 2 = 9 from rfl]
    rcases (show j = 0 ∨ j = 1 ∨ j = 2 by omega) with rfl | rfl | rfl
    · rw [if_pos rfl, if_neg (by decide), if_pos rfl]; omega
    · rw [if_neg (by decide), if_pos rfl, if_neg (by decide), if_neg (by decide), if_pos rfl]; omega
    · rw [if_neg (by decide), if_neg (by decide), if_pos rfl, if_pos rfl]; omega
  · rw [a3] at hT
    rw [show un 3 = 1 from rfl]
    rcases (show j = 0 ∨ j = 1 ∨ j = 2 ∨ j = 3 by omega) with rfl | rfl | rfl | rfl
    · rw [if_pos rfl, if_neg (by decide), if_pos rfl]; omega
    · rw [if_neg (by decide), if_pos rfl, if_neg (by decide), if_neg (by decide), if_pos rfl]; omega
    · rw [if_neg (by decide), if_neg (by decide), if_pos rfl, if_neg (by decide), if_neg (by decide), if_neg (by decide), if_pos rfl]; omega
    · rw [if_neg (by decide), if_neg (by decide), if_neg (by decide), if_pos rfl]; omega
theorem tb_new {tl w k : Int} (hw : 0 ≤ w) (hk : 0 ≤ k) (h : w ≠ k) : ztb (zbor tl (zpw w)) k = ztb tl k := by rw [ztb_bor, ztb_pw hw hk, decide_eq_false h, Bool.or_false]
theorem tb_set {tl w : Int} (hw : 0 ≤ w) : ztb (zbor tl (zpw w)) w = true := by rw [ztb_bor, ztb_pw hw hw, decide_eq_true rfl, Bool.or_true]
section APE
variable {dt ht P TH B ra su vw no dn ha tl w n sz : Int} {so bm f2 f3 f4 f5 : Int → Int}
theorem ap_p (hj : jP dt ht so bm P TH B ra su vw no dn ha tl f2 f3 f4 f5) (hw : 0 ≤ w ∧ w < 4) (hP : 0 ≤ P ∧ P < 4) (hT : 0 ≤ TH ∧ TH < 6561 ∧ TH % unS P = 0) (hn : 0 ≤ n ∧ n ≤ 8) (hs : sdF f4 n (f2 8).toNat 0 = false) : jQ (apA w n sz dt ht so bm P TH B ra su vw no dn ha) (zbor tl (zpw w)) (zup f2 8 (f2 8 + 1)) (zup f3 (4 + f2 8) w) (zup f4 (4 + f2 8) n) f5 := by
  obtain ⟨⟨p0, p1, p2, p3, p4, p5, p6, p7⟩, j1, j2, ⟨t7, t8, t9, t10⟩, j3, j4⟩ := hj
  have e : apA w n sz dt ht so bm P TH B ra su vw no dn ha = (dt, ht, zup so P w, bm, P + 1, TH + n * un P, B, ra, su, vw, no, dn, ha) := by
    unfold apA
    rw [if_neg (by omega), if_neg (by omega), if_neg (by omega), if_neg (by omega), if_neg (by omega), if_neg (by omega), if_neg (by omega)]
  rw [e]
  have hfree : ∀ a : Int, 0 ≤ a → a < P → n ≠ 8 → pl TH a ≠ n := fun a a1 a2 a3 a4 => by
    have : sdF f4 n (f2 8).toNat 0 = true := (sdF_iff _ _).mpr ⟨a, a1, by omega, by omega, by rw [← (j1 a a1 a2).2]; exact a4⟩
    rw [this] at hs; exact absurd hs (by decide)
  refine ⟨⟨?_, ?_, ?_, ?_, ?_, ?_, ?_, ?_⟩, fun j a1 a2 => ⟨?_, ?_⟩, j2, ⟨?_, ?_, ?_, ?_⟩, fun a b a1 a2 a3 a4 => ?_, zbor_nn _ _⟩
  · show zup f2 8 (f2 8 + 1) 8 = P + 1
    rw [zup_s, p0]
  · show zup f2 8 (f2 8 + 1) 9 = B
    rw [zup_n _ (by omega)]; exact p1
  · show zup f2 8 (f2 8 + 1) 10 = ra
    rw [zup_n _ (by omega)]; exact p2
  · show zup f2 8 (f2 8 + 1) 11 = su
    rw [zup_n _ (by omega)]; exact p3
  · show zup f2 8 (f2 8 + 1) 12 = vw
    rw [zup_n _ (by omega)]; exact p4
  · show zup f2 8 (f2 8 + 1) 13 = no
    rw [zup_n _ (by omega)]; exact p5
  · show zup f2 8 (f2 8 + 1) 14 = dn
    rw [zup_n _ (by omega)]; exact p6
  · show zup f2 8 (f2 8 + 1) 15 = ha
    rw [zup_n _ (by omega)]; exact p7
  · have a2 : j < P + 1 := a2
    show zup so P w j = zup f3 (4 + f2 8) w (4 + j)
    rw [p0]
    by_cases c : j = P
    · rw [c, zup_s, zup_s]
    · rw [zup_n _ c, zup_n _ (by omega)]; exact (j1 j a1 (by omega)).1
  · have a2 : j < P + 1 := a2
    show pl (TH + n * un P) j = zup f4 (4 + f2 8) n (4 + j)
    rw [p0, pl_add hP hT hn ⟨a1, by omega⟩]
    by_cases c : j = P
    · rw [if_pos c, c, zup_s]
    · rw [if_neg c, zup_n _ (by omega)]; exact (j1 j a1 (by omega)).2
  · show ztb (zbor tl (zpw w)) 7 = true ↔ vw ≠ -9
    rw [tb_new hw.1 (by omega) (by omega)]; exact t7
  · show ztb (zbor tl (zpw w)) 8 = true ↔ no ≠ -9
    rw [tb_new hw.1 (by omega) (by omega)]; exact t8
  · show ztb (zbor tl (zpw w)) 9 = true ↔ dt = 1
    rw [tb_new hw.1 (by omega) (by omega)]; exact t9
  · show ztb (zbor tl (zpw w)) 10 = true ↔ ht = 1
    rw [tb_new hw.1 (by omega) (by omega)]; exact t10
  · have a3 : b < P + 1 := a3
    have a4 : pl (TH + n * un P) a = pl (TH + n * un P) b := a4
    show pl (TH + n * un P) a = 8
    rw [pl_add hP hT hn ⟨a1, by omega⟩, if_neg (show ¬ a = P by omega)] at a4 ⊢
    rw [pl_add hP hT hn ⟨by omega, by omega⟩] at a4
    by_cases c : b = P
    · rw [if_pos c] at a4
      by_cases g : n = 8
      · omega
      · exact absurd a4 (hfree a a1 (by omega) g)
    · rw [if_neg c] at a4
      exact j3 a b a1 a2 (by omega) a4
theorem ap_b (hj : jP dt ht so bm P TH B ra su vw no dn ha tl f2 f3 f4 f5) (hw : w = 4) : jQ (apA w n sz dt ht so bm P TH B ra su vw no dn ha) (zbor tl (zpw w)) (zup f2 9 (f2 9 + 1)) f3 f4 (zup f5 (2 + f2 9) (sfF n sz.toNat 0 0)) := by
  obtain ⟨⟨p0, p1, p2, p3, p4, p5, p6, p7⟩, j1, j2, ⟨t7, t8, t9, t10⟩, j3, j4⟩ := hj
  subst hw
  refine ⟨⟨?_, ?_, ?_, ?_, ?_, ?_, ?_, ?_⟩, j1, fun j a1 a2 => ?_, ⟨?_, ?_, ?_, ?_⟩, j3, zbor_nn _ _⟩
  · show zup f2 9 (f2 9 + 1) 8 = P
    rw [zup_n _ (by omega)]; exact p0
  · show zup f2 9 (f2 9 + 1) 9 = B + 1
    rw [zup_s, p1]
  · show zup f2 9 (f2 9 + 1) 10 = ra
    rw [zup_n _ (by omega)]; exact p2
  · show zup f2 9 (f2 9 + 1) 11 = su
    rw [zup_n _ (by omega)]; exact p3
  · show zup f2 9 (f2 9 + 1) 12 = vw
    rw [zup_n _ (by omega)]; exact p4
  · show zup f2 9 (f2 9 + 1) 13 = no
    rw [zup_n _ (by omega)]; exact p5
  · show zup f2 9 (f2 9 + 1) 14 = dn
    rw [zup_n _ (by omega)]; exact p6
  · show zup f2 9 (f2 9 + 1) 15 = ha
    rw [zup_n _ (by omega)]; exact p7
  · have a2 : j < B + 1 := a2
    show zup bm B (sfF n sz.toNat 0 0) j = zup f5 (2 + f2 9) (sfF n sz.toNat 0 0) (2 + j)
    rw [p1]
    by_cases c : j = B
    · rw [c, zup_s, zup_s]
    · rw [zup_n _ c, zup_n _ (by omega)]; exact j2 j a1 (by omega)
  · show ztb (zbor tl (zpw 4)) 7 = true ↔ vw ≠ -9
    rw [tb_new (by omega) (by omega) (by omega)]; exact t7
  · show ztb (zbor tl (zpw 4)) 8 = true ↔ no ≠ -9
    rw [tb_new (by omega) (by omega) (by omega)]; exact t8
  · show ztb (zbor tl (zpw 4)) 9 = true ↔ dt = 1
    rw [tb_new (by omega) (by omega) (by omega)]; exact t9
  · show ztb (zbor tl (zpw 4)) 10 = true ↔ ht = 1
    rw [tb_new (by omega) (by omega) (by omega)]; exact t10
theorem ap_r (hj : jP dt ht so bm P TH B ra su vw no dn ha tl f2 f3 f4 f5) (hw : w = 5 ∨ w = 6) : jQ (apA w n sz dt ht so bm P TH B ra su vw no dn ha) (zbor tl (zpw w)) (zup f2 (10 + w - 5) (zbor (f2 (10 + w - 5)) (sfF n sz.toNat 0 0))) f3 f4 f5 := by
  obtain ⟨⟨p0, p1, p2, p3, p4, p5, p6, p7⟩, j1, j2, ⟨t7, t8, t9, t10⟩, j3, j4⟩ := hj
  have hz : ∀ k : Int, k ≠ 10 + w - 5 → zup f2 (10 + w - 5) (zbor (f2 (10 + w - 5)) (sfF n sz.toNat 0 0)) k = f2 k := fun k h => zup_n _ h
  have ht : ∀ k : Int, 7 ≤ k → ztb (zbor tl (zpw w)) k = ztb tl k := fun k h => tb_new (by omega) (by omega) (by omega)
  rcases hw with rfl | rfl
  · refine ⟨⟨(hz 8 (by omega)).trans p0, (hz 9 (by omega)).trans p1, ?_, (hz 11 (by omega)).trans p3, (hz 12 (by omega)).trans p4, (hz 13 (by omega)).trans p5, (hz 14 (by omega)).trans p6, (hz 15 (by omega)).trans p7⟩, j1, j2, ⟨by rw [ht 7 (by omega)]; exact t7, by rw [ht 8 (by omega)]; exact t8, by rw [ht 9 (by omega)]; exact t9, by rw [ht 10 (by omega)]; exact t10⟩, j3, zbor_nn _ _⟩
    show zup f2 (10 + 5 - 5) (zbor (f2 (10 + 5 - 5)) (sfF n sz.toNat 0 0)) 10 = zbor ra (sfF n sz.toNat 0 0)
    rw [show (10 : Int) + 5 - 5 = 10 from rfl, zup_s, p2]
  · refine ⟨⟨(hz 8 (by omega)).trans p0, (hz 9 (by omega)).trans p1, (hz 10 (by omega)).trans p2, ?_, (hz 12 (by omega)).trans p4, (hz 13 (by omega)).trans p5, (hz 14 (by omega)).trans p6, (hz 15 (by omega)).trans p7⟩, j1, j2, ⟨by rw [ht 7 (by omega)]; exact t7, by rw [ht 8 (by omega)]; exact t8, by rw [ht 9 (by omega)]; exact t9, by rw [ht 10 (by omega)]; exact t10⟩, j3, zbor_nn _ _⟩
    show zup f2 (10 + 6 - 5) (zbor (f2 (10 + 6 - 5)) (sfF n sz.toNat 0 0)) 11 = zbor su (sfF n sz.toNat 0 0)
    rw [show (10 : Int) + 6 - 5 = 11 from rfl, zup_s, p3]
theorem ap_n (hj : jP dt ht so bm P TH B ra su vw no dn ha tl f2 f3 f4 f5) (hw : 7 ≤ w ∧ w ≤ 10) (hn : 0 ≤ n) : jQ (apA w n sz dt ht so bm P TH B ra su vw no dn ha) (zbor tl (zpw w)) (zup f2 (12 + w - 7) n) f3 f4 f5 := by
  obtain ⟨⟨p0, p1, p2, p3, p4, p5, p6, p7⟩, j1, j2, ⟨t7, t8, t9, t10⟩, j3, j4⟩ := hj
  have hz : ∀ k : Int, k ≠ 12 + w - 7 → zup f2 (12 + w - 7) n k = f2 k := fun k h => zup_n _ h
  have hs : zup f2 (12 + w - 7) n (12 + w - 7) = n := zup_s _ _ _
  have ht : ∀ k : Int, 7 ≤ k → w ≠ k → ztb (zbor tl (zpw w)) k = ztb tl k := fun k h h2 => tb_new (by omega) (by omega) h2
  have hset : ztb (zbor tl (zpw w)) w = true := tb_set (by omega)
  rcases (show w = 7 ∨ w = 8 ∨ w = 9 ∨ w = 10 by omega) with rfl | rfl | rfl | rfl
  · exact ⟨⟨(hz 8 (by omega)).trans p0, (hz 9 (by omega)).trans p1, (hz 10 (by omega)).trans p2, (hz 11 (by omega)).trans p3, hs, (hz 13 (by omega)).trans p5, (hz 14 (by omega)).trans p6, (hz 15 (by omega)).trans p7⟩, j1, j2, ⟨⟨fun _ => (show n ≠ -9 by omega), fun _ => hset⟩, by rw [ht 8 (by omega) (by omega)]; exact t8, by rw [ht 9 (by omega) (by omega)]; exact t9, by rw [ht 10 (by omega) (by omega)]; exact t10⟩, j3, zbor_nn _ _⟩
  · exact ⟨⟨(hz 8 (by omega)).trans p0, (hz 9 (by omega)).trans p1, (hz 10 (by omega)).trans p2, (hz 11 (by omega)).trans p3, (hz 12 (by omega)).trans p4, hs, (hz 14 (by omega)).trans p6, (hz 15 (by omega)).trans p7⟩, j1, j2, ⟨by rw [ht 7 (by omega) (by omega)]; exact t7, ⟨fun _ => (show n ≠ -9 by omega), fun _ => hset⟩, by rw [ht 9 (by omega) (by omega)]; exact t9, by rw [ht 10 (by omega) (by omega)]; exact t10⟩, j3, zbor_nn _ _⟩
  · exact ⟨⟨(hz 8 (by omega)).trans p0, (hz 9 (by omega)).trans p1, (hz 10 (by omega)).trans p2, (hz 11 (by omega)).trans p3, (hz 12 (by omega)).trans p4, (hz 13 (by omega)).trans p5, hs, (hz 15 (by omega)).trans p7⟩, j1, j2, ⟨by rw [ht 7 (by omega) (by omega)]; exact t7, by rw [ht 8 (by omega) (by omega)]; exact t8, ⟨fun _ => rfl, fun _ => hset⟩, by rw [ht 10 (by omega) (by omega)]; exact t10⟩, j3, zbor_nn _ _⟩
  · exact ⟨⟨(hz 8 (by omega)).trans p0, (hz 9 (by omega)).trans p1, (hz 10 (by omega)).trans p2, (hz 11 (by omega)).trans p3, (hz 12 (by omega)).trans p4, (hz 13 (by omega)).trans p5, (hz 14 (by omega)).trans p6, hs⟩, j1, j2, ⟨by rw [ht 7 (by omega) (by omega)]; exact t7, by rw [ht 8 (by omega) (by omega)]; exact t8, by rw [ht 9 (by omega) (by omega)]; exact t9, ⟨fun _ => rfl, fun _ => hset⟩⟩, j3, zbor_nn _ _⟩
end APE
theorem du_n {b : Int → Int} {s : DUS} {v : Int} {p : Prop} [Decidable p] (h : s.2.2.2.2 = v) (h0 : 0 ≤ v) : (duM b p s).2.2.2.2 = v := by
  rw [duM_n (by rw [h]; omega)]; exact h
/-- what an item brings on both sides -/
def itR (b : Int → Int) (r : Bool × TLS) (R : RIS) : Prop := (r.1 = true → tokS (ntA b r.2.1.1 r.2.1.2.2.2) R.1 ∧ jQ r.2.2 R.2.1 R.2.2.1 R.2.2.2.1 R.2.2.2.2.1 R.2.2.2.2.2) ∧ (r.1 = false → R.1.2.2.2.2 = r.2.1.2.1 ∧ R.1.2.2.2.2 ≠ -9)
theorem itR_f {b : Int → Int} {t : TKS} {q : Int × Int × PLS} {R : RIS} (h : R.1.2.2.2.2 = t.2.1) (h0 : 0 ≤ t.2.1) : itR b (false, t, q) R := ⟨fun w => absurd (show false = true from w) (by decide), fun _ => ⟨h, by rw [h]; omega⟩⟩
theorem it_e {tx : Int → Int} {ln ax ts tk vl dt ht P TH B ra su vw no dn ha tl : Int} {so bm f2 f3 f4 f5 : Int → Int} {s : DUS} (hok : okT ln ((ax, ts, tk, vl), dt, ht, so, bm, P, TH, B, ra, su, vw, no, dn, ha)) (hs : tokS (ax, ts, tk, vl) s) (hj : jP dt ht so bm P TH B ra su vw no dn ha tl f2 f3 f4 f5) :
    itR (btA tx ln) (itA (btA tx ln) ax ts tk vl dt ht so bm P TH B ra su vw no dn ha) (riM (btA tx ln) s tl f2 f3 f4 f5) := by
  obtain ⟨⟨k1, k2, k3, k4, k5, k6⟩, ⟨⟨hdt1, hht1⟩, hP4, hTH, hB2, hra, hsu, hvw, hno, hdn, hha, hso, hbm⟩⟩ := id hok
  dsimp only at k1 k2 k3 k4 k5 k6 hdt1 hht1 hP4 hTH hB2 hra hsu hvw hno hdn hha hso hbm
  unfold itA
  by_cases c1 : tk = 1 ∧ mbA vl P B vw no dt ht ≠ 0
  · rw [if_pos c1]
    obtain ⟨e1, e2, e3⟩ := tok_1 hs c1.1
    have e1 : s.2.2.1 = vl := e1
    have hmy : myP f2 tl s.2.2.1 := by rw [e1]; exact (my_e hj hdt1 hht1 ⟨e2, e3⟩).mp c1.2
    have hs1 : tokS (ntA (btA tx ln) ax vl) (duM (btA tx ln) (myP f2 tl s.2.2.1) s) := du_y (t := (ax, ts, tk, vl)) k1 hs hmy
    have o1 := ntA_ok (tx := tx) (ln := ln) (ax := ax) (vl := vl) k1 k4
    rw [riM_y hs1.2]
    rw [e1] at hmy hs1 ⊢
    generalize ntA (btA tx ln) ax vl = t1 at hs1 o1 ⊢
    generalize duM (btA tx ln) (myP f2 tl vl) s = s1 at hs1 ⊢
    have o2 := ntA_ok (tx := tx) (ln := ln) (ax := t1.1) (vl := t1.2.2.2) o1.1 o1.2.2.2.1
    by_cases q4 : vl < 4
    · rw [riN_4 q4]
      have hpn : (t1.2.2.1 = 2 ∧ mfA vl t1.2.2.2 P TH ≠ 0) ↔ pnP s1 f2 f4 := by
        rw [tok_2 hs1]
        refine and_congr_right fun z => ?_
        obtain ⟨v1, -, -⟩ := tok_v hs1 ((tok_2 hs1).mpr z)
        rw [v1]
        exact mf_p (by omega) hj.1.1 (fun j j1 j2 => (hj.2.1 j j1 j2).2)
      by_cases c2 : t1.2.2.1 = 2 ∧ mfA vl t1.2.2.2 P TH ≠ 0
      · rw [if_pos c2, if_neg (by omega)]
        have hp := hpn.mp c2
        have hs2 := du_y (tx := tx) (v := t1.2.2.2) o1.1 hs1 hp
        obtain ⟨v1, -, -⟩ := tok_v hs1 c2.1
        have hap := ap_p (sz := 1) hj ⟨e2, q4⟩ ⟨hP4.1, mbA_p (by omega) c1.2⟩ hTH hp.2.1 hp.2.2
        rw [show apA vl s1.2.2.2.1 1 = apA vl t1.2.2.2 1 by rw [v1]] at hap
        generalize ntA (btA tx ln) t1.1 t1.2.2.2 = t2 at hs2 o2 ⊢
        generalize duM (btA tx ln) (pnP s1 f2 f4) s1 = s2 at hs2 ⊢
        by_cases c3 : t2.2.2.1 = 3
        · rw [if_pos c3]
          exact ⟨fun _ => ⟨du_y o2.1 hs2 ((tok_3 hs2).mp c3), hap⟩, fun w => absurd (show true = false from w) (by decide)⟩
        · rw [if_neg c3]
          exact itR_f (du_f hs2 (fun w => c3 ((tok_3 hs2).mpr w))) o2.2.1.1
      · rw [if_neg c2]
        have hf := du_f (b := btA tx ln) hs1 (fun w => c2 (hpn.mpr w))
        refine itR_f ?_ o1.2.1.1
        show (stM (btA tx ln) (duM (btA tx ln) (pnP s1 f2 f4) s1)).2.2.2.2 = t1.2.1
        exact du_n hf o1.2.1.1
    · by_cases q7 : vl < 7
      · have hnum : (t1.2.2.1 = 2 ∧ mfA vl t1.2.2.2 P TH ≠ 0) ↔ (s1.2.2.1 = 12 ∧ 0 ≤ s1.2.2.2.1 ∧ s1.2.2.2.1 ≤ 7) := by
          rw [tok_2 hs1]
          refine and_congr_right fun z => ?_
          obtain ⟨v1, -, -⟩ := tok_v hs1 ((tok_2 hs1).mpr z)
          rw [v1, mf_s (by omega)]
          omega
        by_cases c2 : t1.2.2.1 = 2 ∧ mfA vl t1.2.2.2 P TH ≠ 0
        · rw [if_pos c2, if_pos (show vl = 4 ∨ vl = 5 ∨ vl = 6 by omega)]
          have hs2 : tokS (ntA (btA tx ln) t1.1 t1.2.2.2) (nbM (btA tx ln) 0 7 s1) := du_y (tx := tx) (v := t1.2.2.2) o1.1 hs1 (hnum.mp c2)
          obtain ⟨v1, -, -⟩ := tok_v hs1 c2.1
          have o3 := ntA_ok (tx := tx) (ln := ln) (ax := (ntA (btA tx ln) t1.1 t1.2.2.2).1) (vl := (ntA (btA tx ln) t1.1 t1.2.2.2).2.2.2) o2.1 o2.2.2.2.1
          have hro : roM (btA tx ln) s1 = ((if (nbM (btA tx ln) 1 8 (nbM (btA tx ln) 0 7 s1)).2.2.2.2 = -9 then sfF s1.2.2.2.1 (nbM (btA tx ln) 0 7 s1).2.2.2.1.toNat 0 0 else 0), nbM (btA tx ln) 1 8 (nbM (btA tx ln) 0 7 s1)) := rfl
          have hfin : ∀ (f2' f5' : Int → Int), riN (btA tx ln) vl s1 (zbor tl (zpw vl)) f2 f3 f4 f5 = (stM (btA tx ln) (roM (btA tx ln) s1).2, zbor tl (zpw vl), f2', f3, f4, f5') →
              ((roM (btA tx ln) s1).2.2.2.2.2 = -9 → ∀ sz : Int, (roM (btA tx ln) s1).1 = sfF t1.2.2.2 sz.toNat 0 0 → jQ (apA vl t1.2.2.2 sz dt ht so bm P TH B ra su vw no dn ha) (zbor tl (zpw vl)) f2' f3 f4 f5') →
              itR (btA tx ln) (if (ntA (btA tx ln) t1.1 t1.2.2.2).2.2.1 = 2 ∧ 1 ≤ (ntA (btA tx ln) t1.1 t1.2.2.2).2.2.2 ∧ (ntA (btA tx ln) t1.1 t1.2.2.2).2.2.2 ≤ 8 then (if (ntA (btA tx ln) (ntA (btA tx ln) t1.1 t1.2.2.2).1 (ntA (btA tx ln) t1.1 t1.2.2.2).2.2.2).2.2.1 = 3 then (true, ntA (btA tx ln) (ntA (btA tx ln) t1.1 t1.2.2.2).1 (ntA (btA tx ln) t1.1 t1.2.2.2).2.2.2, apA vl t1.2.2.2 (ntA (btA tx ln) t1.1 t1.2.2.2).2.2.2 dt ht so bm P TH B ra su vw no dn ha) else (false, ntA (btA tx ln) (ntA (btA tx ln) t1.1 t1.2.2.2).1 (ntA (btA tx ln) t1.1 t1.2.2.2).2.2.2, dt, ht, so, bm, P, TH, B, ra, su, vw, no, dn, ha)) else (false, ntA (btA tx ln) t1.1 t1.2.2.2, dt, ht, so, bm, P, TH, B, ra, su, vw, no, dn, ha)) (riN (btA tx ln) vl s1 (zbor tl (zpw vl)) f2 f3 f4 f5) := by
            intro f2' f5' hR hA
            rw [hR]
            rw [hro] at hA ⊢
            generalize ntA (btA tx ln) t1.1 t1.2.2.2 = t2 at hs2 o2 o3 hA ⊢
            generalize nbM (btA tx ln) 0 7 s1 = s2 at hs2 hA ⊢
            have hnum2 : (t2.2.2.1 = 2 ∧ 1 ≤ t2.2.2.2 ∧ t2.2.2.2 ≤ 8) ↔ (s2.2.2.1 = 12 ∧ 1 ≤ s2.2.2.2.1 ∧ s2.2.2.2.1 ≤ 8) := by
              rw [tok_2 hs2]
              refine and_congr_right fun z => ?_
              obtain ⟨v2, -, -⟩ := tok_v hs2 ((tok_2 hs2).mpr z)
              rw [v2]
            by_cases c3 : t2.2.2.1 = 2 ∧ 1 ≤ t2.2.2.2 ∧ t2.2.2.2 ≤ 8
            · rw [if_pos c3]
              have hs3 : tokS (ntA (btA tx ln) t2.1 t2.2.2.2) (nbM (btA tx ln) 1 8 s2) := du_y (tx := tx) (v := t2.2.2.2) o2.1 hs2 (hnum2.mp c3)
              obtain ⟨v2, -, -⟩ := tok_v hs2 c3.1
              have hA := hA hs3.2 t2.2.2.2 (by dsimp only; rw [if_pos hs3.2, v1, v2])
              generalize ntA (btA tx ln) t2.1 t2.2.2.2 = t3 at hs3 o3 ⊢
              generalize nbM (btA tx ln) 1 8 s2 = s3 at hs3 ⊢
              by_cases c5 : t3.2.2.1 = 3
              · rw [if_pos c5]
                exact ⟨fun _ => ⟨du_y o3.1 hs3 ((tok_3 hs3).mp c5), hA⟩, fun w => absurd (show true = false from w) (by decide)⟩
              · rw [if_neg c5]
                exact itR_f (du_f hs3 (fun w => c5 ((tok_3 hs3).mpr w))) o3.2.1.1
            · rw [if_neg c3]
              have hf := du_f (b := btA tx ln) hs2 (fun w => c3 (hnum2.mpr w))
              refine itR_f ?_ o2.2.1.1
              show (stM (btA tx ln) (nbM (btA tx ln) 1 8 s2)).2.2.2.2 = t2.2.1
              exact du_n hf o2.2.1.1
          by_cases q : vl = 4
          · refine hfin _ _ (riN_b q) (fun _ sz hz => ?_)
            rw [hz]; exact ap_b hj q
          · refine hfin _ _ (riN_r (by omega)) (fun _ sz hz => ?_)
            rw [hz]; exact ap_r hj (by omega)
        · rw [if_neg c2]
          have hf := du_f (b := btA tx ln) hs1 (fun w => c2 (hnum.mpr w))
          have h0 := o1.2.1.1
          have hf2 : (roM (btA tx ln) s1).2.2.2.2.2 = t1.2.1 := by
            show (nbM (btA tx ln) 1 8 (nbM (btA tx ln) 0 7 s1)).2.2.2.2 = t1.2.1
            exact du_n hf h0
          have hf3 : (stM (btA tx ln) (roM (btA tx ln) s1).2).2.2.2.2 = t1.2.1 := du_n hf2 h0
          by_cases q : vl = 4
          · rw [riN_b q]; exact itR_f hf3 h0
          · rw [riN_r (by omega)]; exact itR_f hf3 h0
      · rw [riN_n (by omega) rfl rfl]
        have hnum : (t1.2.2.1 = 2 ∧ mfA vl t1.2.2.2 P TH ≠ 0) ↔ (s1.2.2.1 = 12 ∧ (if vl = 10 then 1 else 0) ≤ s1.2.2.2.1 ∧ s1.2.2.2.1 ≤ (if vl < 9 then 7 else if vl = 9 then 4 else 9)) := by
          rw [tok_2 hs1]
          refine and_congr_right fun z => ?_
          obtain ⟨v1, -, -⟩ := tok_v hs1 ((tok_2 hs1).mpr z)
          rw [v1]
          exact mf_h ⟨by omega, e3⟩ rfl rfl
        by_cases c2 : t1.2.2.1 = 2 ∧ mfA vl t1.2.2.2 P TH ≠ 0
        · rw [if_pos c2, if_neg (show ¬ (vl = 4 ∨ vl = 5 ∨ vl = 6) by omega)]
          have hp := hnum.mp c2
          have hs2 : tokS (ntA (btA tx ln) t1.1 t1.2.2.2) (nbM (btA tx ln) (if vl = 10 then 1 else 0) (if vl < 9 then 7 else if vl = 9 then 4 else 9) s1) := du_y (tx := tx) (v := t1.2.2.2) o1.1 hs1 hp
          obtain ⟨v1, v2, -⟩ := tok_v hs1 c2.1
          have hap := ap_n (n := s1.2.2.2.1) (sz := 1) hj ⟨show 7 ≤ vl by omega, e3⟩ v2
          rw [show apA vl s1.2.2.2.1 1 = apA vl t1.2.2.2 1 by rw [v1]] at hap
          generalize ntA (btA tx ln) t1.1 t1.2.2.2 = t2 at hs2 o2 ⊢
          generalize nbM (btA tx ln) (if vl = 10 then 1 else 0) (if vl < 9 then 7 else if vl = 9 then 4 else 9) s1 = s2 at hs2 ⊢
          by_cases c3 : t2.2.2.1 = 3
          · rw [if_pos c3]
            exact ⟨fun _ => ⟨du_y o2.1 hs2 ((tok_3 hs2).mp c3), hap⟩, fun w => absurd (show true = false from w) (by decide)⟩
          · rw [if_neg c3]
            exact itR_f (du_f hs2 (fun w => c3 ((tok_3 hs2).mpr w))) o2.2.1.1
        · rw [if_neg c2]
          have hf := du_f (b := btA tx ln) hs1 (fun w => c2 (hnum.mpr w))
          refine itR_f ?_ o1.2.1.1
          show (stM (btA tx ln) (nbM (btA tx ln) (if vl = 10 then 1 else 0) (if vl < 9 then 7 else if vl = 9 then 4 else 9) s1)).2.2.2.2 = t1.2.1
          exact du_n hf o1.2.1.1
  · rw [if_neg c1]
    have hmy : ¬ myP f2 tl s.2.2.1 := fun w => by
      by_cases z : tk = 1
      · obtain ⟨e1, e2, e3⟩ := tok_1 hs z
        have e1 : s.2.2.1 = vl := e1
        rw [e1] at w
        exact c1 ⟨z, (my_e hj hdt1 hht1 ⟨e2, e3⟩).mpr w⟩
      · have := tok_n hs z
        have := my_w w
        omega
    have hf := du_f (b := btA tx ln) hs hmy
    have h0 : 0 ≤ ts := k2.1
    rw [riM_n (by rw [hf]; show ts ≠ -9; omega)]
    exact itR_f (t := (ax, ts, tk, vl)) hf h0
