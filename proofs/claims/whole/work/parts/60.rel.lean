/-! ===== class and reference in one state ===== -/
def relP (so bm : Int → Int) (P TH B ra su vw no dn ha : Int) (f2 f3 f5 : Int → Int) : Prop :=
  okP so bm P TH B ra su vw no dn ha ∧ (P = f2 0 ∧ B = f2 1 ∧ ra = f2 2 ∧ su = f2 3 ∧ vw = f2 4 ∧ no = f2 5 ∧ dn = f2 6 ∧ ha = f2 7) ∧ okR f2 f3 f5 ∧ plE f2 f3 f5 so bm
def moS (f2 g : Int → Int) (K hm dy ac lk cl li da : Int) : Prop :=
  okN f2 g ∧ (hm = g 0 * unS (f2 0) ∧ dy = g 1 ∧ ac = g 2 ∧ lk = g 3 ∧ cl = g 4) ∧ (g 1 ≤ K ∧ g 2 ≤ f2 7 ∧ 0 ≤ g 3 ∧ g 3 ≤ 8 * K) ∧ dsF (slI (f2 0) (g 0)) (f2 0).toNat 0 0 = true ∧ leE g li da
theorem moS_M {so bm f2 f3 f5 g : Int → Int} {P TH B ra su vw no dn ha K hm dy ac lk cl li da kp : Int} (hA : relP so bm P TH B ra su vw no dn ha f2 f3 f5) (hB : moS f2 g K hm dy ac lk cl li da) (hK : K ≤ 900) (hk : 0 ≤ kp ∧ kp ≤ 1) : okM hm dy ac lk cl li da kp := by
  obtain ⟨-, -, hr, -⟩ := hA
  obtain ⟨n, ⟨rfl, rfl, rfl, rfl, rfl⟩, m, -, l⟩ := hB
  obtain ⟨n0, n1, n2, n3, n4, n5⟩ := n
  exact ⟨hc_rng hr.1 n0, by omega, n2, by omega, n4, l.1, l.2.1, hk⟩
theorem moS_K {f2 g : Int → Int} {K L hm dy ac lk cl li da : Int} (h : K ≤ L) (hB : moS f2 g K hm dy ac lk cl li da) : moS f2 g L hm dy ac lk cl li da :=
  ⟨hB.1, hB.2.1, ⟨by have := hB.2.2.1; omega, hB.2.2.1.2.1, hB.2.2.1.2.2.1, by have := hB.2.2.1; omega⟩, hB.2.2.2⟩
theorem moS_c {f2 g k : Int → Int} {K hm dy ac lk cl li da : Int} (h : ∀ x : Int, 0 ≤ x → x < 21 → g x = k x) (hB : moS f2 g K hm dy ac lk cl li da) : moS f2 k K hm dy ac lk cl li da := by
  obtain ⟨⟨n0, n1, n2, n3, n4, n5⟩, ⟨e0, e1, e2, e3, e4⟩, ⟨m1, m2, m3, m4⟩, d, ⟨l1, l2, l3, l4⟩⟩ := hB
  have h0 := h 0 (by omega) (by omega)
  have h1 := h 1 (by omega) (by omega)
  have h2 := h 2 (by omega) (by omega)
  have h3 := h 3 (by omega) (by omega)
  have h4 := h 4 (by omega) (by omega)
  rw [h0] at n0 e0 d
  rw [h1] at n1 e1 m1
  rw [h2] at n2 e2 m2
  rw [h3] at n3 e3 m3 m4
  rw [h4] at e4
  have n4' := n4
  rw [h4] at n4'
  refine ⟨⟨n0, n1, n2, n3, n4', fun j j1 j2 => ?_⟩, ⟨e0, e1, e2, e3, e4⟩, ⟨m1, m2, m3, m4⟩, d, l1, l2, fun x x1 x2 => ?_, fun x x1 x2 => ?_⟩
  · have := n5 j j1 (by omega)
    rw [h _ (by omega) (by omega), h _ (by omega) (by omega)] at this
    exact this
  · rw [l3 x x1 x2]
    constructor
    · rintro ⟨j, j1, j2, j3, j4⟩
      rw [h _ (by omega) (by omega)] at j3 j4
      exact ⟨j, j1, by omega, j3, j4⟩
    · rintro ⟨j, j1, j2, j3, j4⟩
      rw [← h _ (by omega) (by omega)] at j3 j4
      exact ⟨j, j1, by omega, j3, j4⟩
  · rw [l4 x x1 x2]
    constructor
    · rintro ⟨j, j1, j2, j3, j4⟩
      rw [h _ (by omega) (by omega)] at j3 j4
      exact ⟨j, j1, by omega, j3, j4⟩
    · rintro ⟨j, j1, j2, j3, j4⟩
      rw [← h _ (by omega) (by omega)] at j3 j4
      exact ⟨j, j1, by omega, j3, j4⟩
def relI (f2 f6 f7 : Int → Int) (K i hm dy ac lk cl li da kp : Int) : Prop :=
  okM hm dy ac lk cl li da kp ∧ kp = f7 i ∧ (f7 i = 0 ∨ f7 i = 1) ∧ (f7 i = 1 → moS f2 (fun x => f6 (21 * (1 + i) + x)) K hm dy ac lk cl li da)
theorem relI_K {f2 f6 f7 : Int → Int} {K L i hm dy ac lk cl li da kp : Int} (h : K ≤ L) (hI : relI f2 f6 f7 K i hm dy ac lk cl li da kp) : relI f2 f6 f7 L i hm dy ac lk cl li da kp :=
  ⟨hI.1, hI.2.1, hI.2.2.1, fun w => moS_K h (hI.2.2.2 w)⟩
theorem relI_c {f2 f6 g6 f7 : Int → Int} {K i hm dy ac lk cl li da kp : Int} (hi : 0 ≤ i) (h : ∀ x : Int, 21 ≤ x → g6 x = f6 x) (hI : relI f2 f6 f7 K i hm dy ac lk cl li da kp) : relI f2 g6 f7 K i hm dy ac lk cl li da kp :=
  ⟨hI.1, hI.2.1, hI.2.2.1, fun w => moS_c (fun x x1 x2 => (h _ (by omega)).symm) (hI.2.2.2 w)⟩
def relX (tx : Int → Int) (ln : Int) (f1 : Int → Int) (td : Int) : Prop := ln = td ∧ (0 ≤ ln ∧ ln ≤ 200) ∧ (∀ i : Int, 0 ≤ i → i < 200 → 0 ≤ tx i ∧ tx i ≤ 255) ∧ (∀ i : Int, 0 ≤ i → i < 200 → 0 ≤ f1 i ∧ f1 i ≤ 255) ∧ (∀ i : Int, 0 ≤ i → i < ln → tx i = f1 i)
def relD (vl : Int) (qso qbm f3 f4 f5 : Int → Int) : Prop := (0 ≤ vl ∧ vl ≤ 100) ∧ (∀ i : Int, 0 ≤ i → i < 4 → 0 ≤ qso i ∧ qso i ≤ 3) ∧ (∀ i : Int, 0 ≤ i → i < 2 → 0 ≤ qbm i ∧ qbm i < 256) ∧ (∀ i : Int, 0 ≤ i → i < 8 → 0 ≤ f3 i ∧ f3 i ≤ 3) ∧ (∀ i : Int, 0 ≤ i → i < 8 → 0 ≤ f4 i ∧ f4 i ≤ 999) ∧ (∀ i : Int, 0 ≤ i → i < 4 → 0 ≤ f5 i ∧ f5 i < 256)
section AN
variable {so bm f1 f2 f3 f4 f5 f6 f7 f9 tx F : Int → Int} {P TH B ra su vw no dn ha K hm dy ac lk cl li da ln td : Int}
theorem an_panel (hA : relP so bm P TH B ra su vw no dn ha f2 f3 f5) (hB : moS f2 f6 K hm dy ac lk cl li da) (p wh : Int) : (if 0 ≤ p ∧ p < P then (if wh = 0 then so p else if wh = 1 then pl hm p else -1) else -1) = (if (0 ≤ p ∧ p < f2 0) ∧ (0 ≤ wh ∧ wh ≤ 1) then (if wh = 0 then f3 p else slI (f2 0) (f6 0) p) else -1) := by
  obtain ⟨hok, ⟨rfl, rfl, rfl, rfl, rfl, rfl, rfl, rfl⟩, hr, he⟩ := hA
  obtain ⟨n, ⟨rfl, rfl, rfl, rfl, rfl⟩, m, d, l⟩ := hB
  by_cases c : 0 ≤ p ∧ p < f2 0
  · rw [if_pos c]
    by_cases w0 : wh = 0
    · rw [if_pos w0, if_pos ⟨c, by omega⟩, if_pos w0]; exact he.1 p c.1 c.2
    · rw [if_neg w0]
      by_cases w1 : wh = 1
      · rw [if_pos w1, if_pos ⟨c, by omega⟩, if_neg w0, pl_hc hr.1 n.1 c]
      · rw [if_neg w1, if_neg (fun w => by omega)]
  · rw [if_neg c, if_neg (fun w => c w.1)]
theorem an_slot (hA : relP so bm P TH B ra su vw no dn ha f2 f3 f5) (hB : moS f2 f6 K hm dy ac lk cl li da) (k wh : Int) : (if 0 ≤ k ∧ k < 8 then (if wh = 0 then patF (pl hm) k P.toNat 0 else if wh = 1 then zbit ra k else if wh = 2 then zbit su k else -1) else -1) = (if (0 ≤ k ∧ k ≤ 7) ∧ (0 ≤ wh ∧ wh ≤ 2) then (if wh = 0 then patF (slI (f2 0) (f6 0)) k (f2 0).toNat 0 else zbit (f2 (2 + wh - 1)) k) else -1) := by
  obtain ⟨hok, ⟨rfl, rfl, rfl, rfl, rfl, rfl, rfl, rfl⟩, hr, he⟩ := hA
  obtain ⟨n, ⟨rfl, rfl, rfl, rfl, rfl⟩, m, d, l⟩ := hB
  by_cases c : 0 ≤ k ∧ k < 8
  · rw [if_pos c]
    by_cases w0 : wh = 0
    · rw [if_pos w0, if_pos ⟨by omega, by omega⟩, if_pos w0, pat_e hr n.1]
    · rw [if_neg w0]
      by_cases w1 : wh = 1
      · rw [if_pos w1, if_pos ⟨by omega, by omega⟩, if_neg w0, w1]; rfl
      · rw [if_neg w1]
        by_cases w2 : wh = 2
        · rw [if_pos w2, if_pos ⟨by omega, by omega⟩, if_neg w0, w2]; rfl
        · rw [if_neg w2, if_neg (fun w => by omega)]
  · rw [if_neg c, if_neg (fun w => by omega)]
theorem an_told (hA : relP so bm P TH B ra su vw no dn ha f2 f3 f5) (wh : Int) : (if wh = 0 then vw else if wh = 1 then no else if wh = 2 then dn else if wh = 3 then ha else -1) = (if 0 ≤ wh ∧ wh ≤ 3 then f2 (4 + wh) else -1) := by
  obtain ⟨hok, ⟨rfl, rfl, rfl, rfl, rfl, rfl, rfl, rfl⟩, hr, he⟩ := hA
  by_cases w0 : wh = 0
  · rw [if_pos w0, if_pos (by omega), w0]; rfl
  · rw [if_neg w0]
    by_cases w1 : wh = 1
    · rw [if_pos w1, if_pos (by omega), w1]; rfl
    · rw [if_neg w1]
      by_cases w2 : wh = 2
      · rw [if_pos w2, if_pos (by omega), w2]; rfl
      · rw [if_neg w2]
        by_cases w3 : wh = 3
        · rw [if_pos w3, if_pos (by omega), w3]; rfl
        · rw [if_neg w3, if_neg (by omega)]
theorem an_beam (hA : relP so bm P TH B ra su vw no dn ha f2 f3 f5) (hB : moS f2 f6 K hm dy ac lk cl li da) (k : Int) : (if 0 ≤ k ∧ k < B then zb (zband (msk (pl hm) so 1 P) (bm k) ≠ 0) else -1) = (if 0 ≤ k ∧ k < f2 1 then zb (boF (slI (f2 0) (f6 0)) f3 (f5 k) (f2 0).toNat 0 = true) else -1) := by
  obtain ⟨hok, ⟨rfl, rfl, rfl, rfl, rfl, rfl, rfl, rfl⟩, hr, he⟩ := hA
  obtain ⟨n, ⟨rfl, rfl, rfl, rfl, rfl⟩, m, d, l⟩ := hB
  by_cases c : 0 ≤ k ∧ k < f2 1
  · rw [if_pos c, if_pos c, bo_e hr he n.1 c]
  · rw [if_neg c, if_neg c]
/-- an act on both sides -/
theorem act_e (hA : relP so bm P TH B ra su vw no dn ha f2 f3 f5) (hB : moS f2 f6 K hm dy ac lk cl li da) {p k : Int} (hp : 0 ≤ p ∧ p < f2 0) (hk : 0 ≤ k ∧ k ≤ 8) :
    (actA hm ac p k so bm P B dn ha).1 = (acM f2 f3 f5 f6 (wtI (f2 0) (f6 0) p k)).1 ∧ moS f2 (acM f2 f3 f5 f6 (wtI (f2 0) (f6 0) p k)).2 K (actA hm ac p k so bm P B dn ha).2.1 dy (actA hm ac p k so bm P B dn ha).2.2 lk cl li da ∧ (∀ x : Int, 21 ≤ x → (acM f2 f3 f5 f6 (wtI (f2 0) (f6 0) p k)).2 x = f6 x) := by
  obtain ⟨hok, ⟨rfl, rfl, rfl, rfl, rfl, rfl, rfl, rfl⟩, hr, he⟩ := hA
  have hB2 := hB
  obtain ⟨n, ⟨rfl, rfl, rfl, rfl, rfl⟩, m, d, l⟩ := hB
  have hw := wtI_rng (k := k) hr.1.2 n.1 hp hk
  unfold actA acM
  rw [mv_hc hr.1 n.1 hp, al_e hr he hw, ly_e hr hw]
  by_cases c : f6 2 < f2 7 ∧ lwM f2 f3 f5 (wtI (f2 0) (f6 0) p k) = true
  · rw [if_pos c, if_neg (show ¬ (f6 2 = f2 7 ∨ ¬ mlw (slI (f2 0) (wtI (f2 0) (f6 0) p k)) f3 f5 (f2 0) (f2 1) (f2 6) = true) from fun w => w.elim (fun w => by omega) (fun w => w c.2))]
    obtain ⟨n0, n1, n2, n3, n4, n5⟩ := n
    have z : ∀ x : Int, x ≠ 0 → x ≠ 2 → zup (zup f6 0 (wtI (f2 0) (f6 0) p k)) 2 (zup f6 0 (wtI (f2 0) (f6 0) p k) 2 + 1) x = f6 x := fun x x0 x2 => by rw [zup_n _ x2, zup_n _ x0]
    have z0 : zup (zup f6 0 (wtI (f2 0) (f6 0) p k)) 2 (zup f6 0 (wtI (f2 0) (f6 0) p k) 2 + 1) 0 = wtI (f2 0) (f6 0) p k := by rw [zup_n _ (by decide), zup_s]
    have z2 : zup (zup f6 0 (wtI (f2 0) (f6 0) p k)) 2 (zup f6 0 (wtI (f2 0) (f6 0) p k) 2 + 1) 2 = f6 2 + 1 := by rw [zup_s, zup_n _ (by decide)]
    refine ⟨rfl, ?_, fun x hx => z x (by omega) (by omega)⟩
    have hg := hr.2.2.2.2.2.2.2.1
    show moS f2 (zup (zup f6 0 (wtI (f2 0) (f6 0) p k)) 2 (zup f6 0 (wtI (f2 0) (f6 0) p k) 2 + 1)) K (wtI (f2 0) (f6 0) p k * unS (f2 0)) (f6 1) (f6 2 + 1) (f6 3) (f6 4) li da
    generalize zup (zup f6 0 (wtI (f2 0) (f6 0) p k)) 2 (zup f6 0 (wtI (f2 0) (f6 0) p k) 2 + 1) = g at z z0 z2 ⊢
    have z1 := z 1 (by omega) (by omega)
    have z3 := z 3 (by omega) (by omega)
    have z4 := z 4 (by omega) (by omega)
    obtain ⟨l1, l2, l3, l4⟩ := l
    refine ⟨⟨by rw [z0]; exact hw, by rw [z1]; exact n1, by rw [z2]; omega, by rw [z3]; exact n3, by rw [z4]; exact n4, fun j j1 j2 => ?_⟩, ⟨by rw [z0], z1.symm, z2.symm, z3.symm, z4.symm⟩, ⟨by rw [z1]; exact m.1, by rw [z2]; omega, by rw [z3]; exact m.2.2.1, by rw [z3]; exact m.2.2.2⟩, by rw [z0]; exact lw_ds c.2, l1, l2, fun x x1 x2 => ?_, fun x x1 x2 => ?_⟩
    · rw [z _ (by omega) (by omega), z _ (by omega) (by omega)]
      exact n5 j j1 (by rw [z4] at j2; exact j2)
    · rw [l3 x x1 x2, z4]
      constructor
      · rintro ⟨j, j1, j2, j3, j4⟩
        exact ⟨j, j1, j2, by rw [z _ (by omega) (by omega)]; exact j3, by rw [z _ (by omega) (by omega)]; exact j4⟩
      · rintro ⟨j, j1, j2, j3, j4⟩
        rw [z _ (by omega) (by omega)] at j3 j4
        exact ⟨j, j1, j2, j3, j4⟩
    · rw [l4 x x1 x2, z4]
      constructor
      · rintro ⟨j, j1, j2, j3, j4⟩
        exact ⟨j, j1, j2, by rw [z _ (by omega) (by omega)]; exact j3, by rw [z _ (by omega) (by omega)]; exact j4⟩
      · rintro ⟨j, j1, j2, j3, j4⟩
        rw [z _ (by omega) (by omega)] at j3 j4
        exact ⟨j, j1, j2, j3, j4⟩
  · rw [if_neg c, if_pos (show (f6 2 = f2 7 ∨ ¬ mlw (slI (f2 0) (wtI (f2 0) (f6 0) p k)) f3 f5 (f2 0) (f2 1) (f2 6) = true) from by
      by_cases q : f6 2 < f2 7
      · exact Or.inr (fun w => c ⟨q, w⟩)
      · exact Or.inl (by omega))]
    exact ⟨rfl, hB2, fun _ _ => rfl⟩
theorem an_down (hA : relP so bm P TH B ra su vw no dn ha f2 f3 f5) (hB : moS f2 f6 K hm dy ac lk cl li da) (p : Int) :
    (dnA hm ac p so bm P B dn ha).1 = (dnM f2 f3 f5 f6 p).1 ∧ moS f2 (dnM f2 f3 f5 f6 p).2 K (dnA hm ac p so bm P B dn ha).2.1 dy (dnA hm ac p so bm P B dn ha).2.2 lk cl li da ∧ (∀ x : Int, 21 ≤ x → (dnM f2 f3 f5 f6 p).2 x = f6 x) := by
  have hPe : P = f2 0 := hA.2.1.1
  have hhm : hm = f6 0 * unS (f2 0) := hB.2.1.1
  unfold dnA dnM
  rw [hPe]
  by_cases c : 0 ≤ p ∧ p < f2 0
  · rw [if_pos c, if_pos c, hhm, pl_hc hA.2.2.1.1 hB.1.1 c]
    by_cases e : slI (f2 0) (f6 0) p = 8
    · rw [if_pos e, if_pos e]; exact ⟨rfl, by rw [← hhm]; exact hB, fun _ _ => rfl⟩
    · rw [if_neg e, if_neg e, ← hhm, ← hPe]
      have := act_e hA hB (p := p) (k := 8) c ⟨by omega, by omega⟩
      rw [← hPe] at this
      exact this
  · rw [if_neg c, if_neg c]; exact ⟨rfl, hB, fun _ _ => rfl⟩
theorem an_up (hA : relP so bm P TH B ra su vw no dn ha f2 f3 f5) (hB : moS f2 f6 K hm dy ac lk cl li da) (p k : Int) :
    (upA hm ac p k so bm P B dn ha).1 = (upM f2 f3 f5 f6 p k).1 ∧ moS f2 (upM f2 f3 f5 f6 p k).2 K (upA hm ac p k so bm P B dn ha).2.1 dy (upA hm ac p k so bm P B dn ha).2.2 lk cl li da ∧ (∀ x : Int, 21 ≤ x → (upM f2 f3 f5 f6 p k).2 x = f6 x) := by
  have hPe : P = f2 0 := hA.2.1.1
  have hhm : hm = f6 0 * unS (f2 0) := hB.2.1.1
  unfold upA upM
  rw [hPe]
  by_cases c : (0 ≤ p ∧ p < f2 0) ∧ 0 ≤ k ∧ k < 8
  · rw [if_pos c, if_pos (show (0 ≤ p ∧ p < f2 0) ∧ (0 ≤ k ∧ k ≤ 7) by omega), hhm, pl_hc hA.2.2.1.1 hB.1.1 c.1, pat_e hA.2.2.1 hB.1.1]
    by_cases e : slI (f2 0) (f6 0) p ≠ 8 ∨ patF (slI (f2 0) (f6 0)) k (f2 0).toNat 0 ≠ -9
    · rw [if_pos e, if_pos e]; exact ⟨rfl, by rw [← hhm]; exact hB, fun _ _ => rfl⟩
    · rw [if_neg e, if_neg e, ← hhm, ← hPe]
      have := act_e hA hB (p := p) (k := k) c.1 ⟨by omega, by omega⟩
      rw [← hPe] at this
      exact this
  · rw [if_neg c, if_neg (show ¬ ((0 ≤ p ∧ p < f2 0) ∧ (0 ≤ k ∧ k ≤ 7)) by omega)]; exact ⟨rfl, hB, fun _ _ => rfl⟩
theorem lkM_8 (q f3 : Int → Int) (P ra : Int) : 0 ≤ lkM q f3 P ra 8 0 ∧ lkM q f3 P ra 8 0 ≤ 8 := lkM_rng q f3 P ra 8 0
theorem an_night (hA : relP so bm P TH B ra su vw no dn ha f2 f3 f5) (hB : moS f2 f6 K hm dy ac lk cl li da) (hK : K ≤ 900) :
    (if 999 ≤ dy then -2 else lkA (pl hm) so P ra) = (niM f2 f3 f6).1 ∧ moS f2 (niM f2 f3 f6).2 (K + 1) hm (if 999 ≤ dy then (lk, dy, ac) else (lk + lkA (pl hm) so P ra, dy + 1, 0)).2.1 (if 999 ≤ dy then (lk, dy, ac) else (lk + lkA (pl hm) so P ra, dy + 1, 0)).2.2 (if 999 ≤ dy then (lk, dy, ac) else (lk + lkA (pl hm) so P ra, dy + 1, 0)).1 cl li da ∧ (∀ x : Int, 21 ≤ x → (niM f2 f3 f6).2 x = f6 x) := by
  obtain ⟨hok, ⟨rfl, rfl, rfl, rfl, rfl, rfl, rfl, rfl⟩, hr, he⟩ := hA
  obtain ⟨n, ⟨rfl, rfl, rfl, rfl, rfl⟩, m, d, l⟩ := hB
  obtain ⟨n0, n1, n2, n3, n4, n5⟩ := n
  unfold niM
  have h8 := lkM_8 (slI (f2 0) (f6 0)) f3 (f2 0) (f2 2)
  rw [if_neg (show ¬ 999 ≤ f6 1 by omega), if_neg (show ¬ 999 ≤ f6 1 by omega), if_neg (show ¬ f6 1 = 999 by omega), lk_e hr he n0 d]
  generalize lkM (slI (f2 0) (f6 0)) f3 (f2 0) (f2 2) 8 0 = L at h8 ⊢
  have z : ∀ x : Int, x ≠ 1 → x ≠ 2 → x ≠ 3 → niU f6 L x = f6 x := fun x x0 x2 x3 => by unfold niU; rw [zup_n _ x2, zup_n _ x0, zup_n _ x3]
  have z1 : niU f6 L 1 = f6 1 + 1 := by unfold niU; rw [zup_n _ (by decide), zup_s, zup_n _ (by decide)]
  have z2 : niU f6 L 2 = 0 := by unfold niU; rw [zup_s]
  have z3 : niU f6 L 3 = f6 3 + L := by unfold niU; rw [zup_n _ (by decide), zup_n _ (by decide), zup_s]
  refine ⟨rfl, ?_, fun x hx => z x (by omega) (by omega) (by omega)⟩
  have hg := hr.2.2.2.2.2.2.2.1
  show moS f2 (niU f6 L) (K + 1) (f6 0 * unS (f2 0)) (f6 1 + 1) 0 (f6 3 + L) (f6 4) li da
  generalize niU f6 L = g at z z1 z2 z3 ⊢
  have z0 := z 0 (by omega) (by omega) (by omega)
  have z4 := z 4 (by omega) (by omega) (by omega)
  obtain ⟨l1, l2, l3, l4⟩ := l
  refine ⟨⟨by rw [z0]; exact n0, by rw [z1]; omega, by rw [z2]; omega, by rw [z3]; omega, by rw [z4]; exact n4, fun j j1 j2 => ?_⟩, ⟨by rw [z0], z1.symm, z2.symm, z3.symm, z4.symm⟩, ⟨by rw [z1]; omega, by rw [z2]; omega, by rw [z3]; omega, by rw [z3]; omega⟩, by rw [z0]; exact d, l1, l2, fun x x1 x2 => ?_, fun x x1 x2 => ?_⟩
  · rw [z _ (by omega) (by omega) (by omega), z _ (by omega) (by omega) (by omega)]
    exact n5 j j1 (by rw [z4] at j2; exact j2)
  · rw [l3 x x1 x2, z4]
    constructor
    · rintro ⟨j, j1, j2, j3, j4⟩
      exact ⟨j, j1, j2, by rw [z _ (by omega) (by omega) (by omega)]; exact j3, by rw [z _ (by omega) (by omega) (by omega)]; exact j4⟩
    · rintro ⟨j, j1, j2, j3, j4⟩
      rw [z _ (by omega) (by omega) (by omega)] at j3 j4
      exact ⟨j, j1, j2, j3, j4⟩
  · rw [l4 x x1 x2, z4]
    constructor
    · rintro ⟨j, j1, j2, j3, j4⟩
      exact ⟨j, j1, j2, by rw [z _ (by omega) (by omega) (by omega)]; exact j3, by rw [z _ (by omega) (by omega) (by omega)]; exact j4⟩
    · rintro ⟨j, j1, j2, j3, j4⟩
      rw [z _ (by omega) (by omega) (by omega)] at j3 j4
      exact ⟨j, j1, j2, j3, j4⟩
theorem an_now (hA : relP so bm P TH B ra su vw no dn ha f2 f3 f5) (hB : moS f2 f6 K hm dy ac lk cl li da) (wh : Int) : (if wh = 0 then dy else if wh = 1 then ac else if wh = 2 then lk else if wh = 3 then woA (pl hm) so P ra su vw no else if wh = 4 then zb (alw (pl hm) so bm P B dn = true) else if wh = 5 then lkA (pl hm) so P ra else -1000000) = (if wh = 0 then f6 1 else if wh = 1 then f6 2 else if wh = 2 then f6 3 else if wh = 3 then woM (slI (f2 0) (f6 0)) f3 (f2 0) (f2 2) (f2 3) (f2 4) (f2 5) else if wh = 4 then zb (mlw (slI (f2 0) (f6 0)) f3 f5 (f2 0) (f2 1) (f2 6) = true) else if wh = 5 then (lkM (slI (f2 0) (f6 0)) f3 (f2 0) (f2 2) 8 0) else -1000000) := by
  obtain ⟨hok, ⟨rfl, rfl, rfl, rfl, rfl, rfl, rfl, rfl⟩, hr, he⟩ := hA
  obtain ⟨n, ⟨rfl, rfl, rfl, rfl, rfl⟩, m, d, l⟩ := hB
  rw [wo_e hr he n.1 d, al_e hr he n.1, lk_e hr he n.1 d]
  rfl
theorem an_lit (hA : relP so bm P TH B ra su vw no dn ha f2 f3 f5) (hB : moS f2 f6 K hm dy ac lk cl li da) (h : Int) : (if 0 ≤ h ∧ h < 8 then zbit (ltA (pl hm) so P su) h else -1) = (if 0 ≤ h ∧ h ≤ 7 then zb (liM (slI (f2 0) (f6 0)) f3 (f2 0) (f2 3) h) else -1) := by
  obtain ⟨hok, ⟨rfl, rfl, rfl, rfl, rfl, rfl, rfl, rfl⟩, hr, he⟩ := hA
  obtain ⟨n, ⟨rfl, rfl, rfl, rfl, rfl⟩, m, d, l⟩ := hB
  by_cases c : 0 ≤ h ∧ h < 8
  · rw [if_pos c, if_pos (by omega)]
    have hl := li_e hr he n.1 d c
    unfold zbit
    by_cases t : liM (slI (f2 0) (f6 0)) f3 (f2 0) (f2 3) h
    · rw [zb_1 t, if_pos (hl.mp t)]
    · rw [zb_0 t, if_neg (fun w => t (hl.mpr w))]
  · rw [if_neg c, if_neg (by omega)]
/-- the house of a kept image -/
theorem img_e {i ihm idy iac ilk icl ili ida ikp : Int} (hI : relI f2 f6 f7 K i ihm idy iac ilk icl ili ida ikp) (hk : f7 i = 1) : ihm = f6 (21 * (1 + i) + 0) * unS (f2 0) ∧ (0 ≤ f6 (21 * (1 + i) + 0) ∧ f6 (21 * (1 + i) + 0) < pw9 (f2 0)) := ⟨(hI.2.2.2 hk).2.1.1, (hI.2.2.2 hk).1.1⟩
/-- an answer that wants a kept image -/
theorem img_3 {bhm bdy bac blk bcl bli bda bkp chm cdy cac clk ccl cli cda ckp g : Int} {vb vc : Int} {R : Int → Int} (hb : relI f2 f6 f7 K 0 bhm bdy bac blk bcl bli bda bkp) (hc : relI f2 f6 f7 K 1 chm cdy cac clk ccl cli cda ckp) (h0 : f7 0 = 1 → vb = R 0) (h1 : f7 1 = 1 → vc = R 1) :
    (if ¬ (0 ≤ g ∧ g < 2) then -1 else if g = 0 then (if bkp = 0 then -2 else vb) else (if ckp = 0 then -2 else vc)) = (if reM f7 g = 0 then R g else reM f7 g) := by
  obtain ⟨-, b1, b2, -⟩ := hb
  obtain ⟨-, c1, c2, -⟩ := hc
  unfold reM
  by_cases e : 0 ≤ g ∧ g < 2
  · rw [if_neg (fun w => w e), if_neg (show ¬ ¬ (0 ≤ g ∧ g ≤ 1) from fun w => w (by omega))]
    rcases (show g = 0 ∨ g = 1 by omega) with rfl | rfl
    · rw [if_pos rfl, b1]
      by_cases z : f7 0 = 0
      · rw [if_pos z, if_pos z, if_neg (by decide)]
      · rw [if_neg z, if_neg z, if_pos rfl]; exact h0 (by omega)
    · rw [if_neg (by decide), c1]
      by_cases z : f7 1 = 0
      · rw [if_pos z, if_pos z, if_neg (by decide)]
      · rw [if_neg z, if_neg z, if_pos rfl]; exact h1 (by omega)
  · rw [if_pos e, if_pos (show ¬ (0 ≤ g ∧ g ≤ 1) by omega), if_neg (by decide)]
theorem an_fewest {bhm bdy bac blk bcl bli bda bkp chm cdy cac clk ccl cli cda ckp g : Int} (hA : relP so bm P TH B ra su vw no dn ha f2 f3 f5) (hB : moS f2 f6 K hm dy ac lk cl li da) (hb : relI f2 f6 f7 K 0 bhm bdy bac blk bcl bli bda bkp) (hc : relI f2 f6 f7 K 1 chm cdy cac clk ccl cli cda ckp) :
    (if ¬ (0 ≤ g ∧ g < 2) then -1 else if g = 0 then (if bkp = 0 then -2 else ftA (sprA (lwS so bm P B dn) P (zup F 0 hm) 1 6561).2.2 bhm) else (if ckp = 0 then -2 else ftA (sprA (lwS so bm P B dn) P (zup F 0 hm) 1 6561).2.2 chm)) = (if reM f7 g = 0 then (if (sgM f2 f3 f5 f9 (f6 0) 9999).2.2 (f6 (21 * (1 + g) + 0)) = 9999 then -9 else (sgM f2 f3 f5 f9 (f6 0) 9999).2.2 (f6 (21 * (1 + g) + 0))) else reM f7 g) := by
  obtain ⟨hok, ⟨rfl, rfl, rfl, rfl, rfl, rfl, rfl, rfl⟩, hr, he⟩ := hA
  obtain ⟨n, ⟨rfl, rfl, rfl, rfl, rfl⟩, m, d, l⟩ := hB
  refine img_3 (R := fun g => if (sgM f2 f3 f5 f9 (f6 0) 9999).2.2 (f6 (21 * (1 + g) + 0)) = 9999 then -9 else (sgM f2 f3 f5 f9 (f6 0) 9999).2.2 (f6 (21 * (1 + g) + 0))) hb hc (fun w => ?_) (fun w => ?_)
  · obtain ⟨e, hh⟩ := img_e hb w
    rw [e]; exact few_e hr he n.1 hh
  · obtain ⟨e, hh⟩ := img_e hc w
    rw [e]; exact few_e hr he n.1 hh
theorem an_first {bhm bdy bac blk bcl bli bda bkp chm cdy cac clk ccl cli cda ckp g : Int} (hA : relP so bm P TH B ra su vw no dn ha f2 f3 f5) (hB : moS f2 f6 K hm dy ac lk cl li da) (hb : relI f2 f6 f7 K 0 bhm bdy bac blk bcl bli bda bkp) (hc : relI f2 f6 f7 K 1 chm cdy cac clk ccl cli cda ckp) :
    (if ¬ (0 ≤ g ∧ g < 2) then -1 else if g = 0 then (if bkp = 0 then -2 else fsA (lwS so bm P B dn) P F hm bhm) else (if ckp = 0 then -2 else fsA (lwS so bm P B dn) P F hm chm)) = (if reM f7 g = 0 then (if f6 0 = f6 (21 * (1 + g) + 0) ∨ ¬ lwM f2 f3 f5 (f6 (21 * (1 + g) + 0)) = true then -9 else (fpM f2 f3 f5 (sgM f2 f3 f5 f9 (f6 (21 * (1 + g) + 0)) 9999).2.2 (f6 0) (f2 0).toNat 0 (-9, 9999)).1) else reM f7 g) := by
  obtain ⟨hok, ⟨rfl, rfl, rfl, rfl, rfl, rfl, rfl, rfl⟩, hr, he⟩ := hA
  obtain ⟨n, ⟨rfl, rfl, rfl, rfl, rfl⟩, m, d, l⟩ := hB
  refine img_3 (R := fun g => if f6 0 = f6 (21 * (1 + g) + 0) ∨ ¬ lwM f2 f3 f5 (f6 (21 * (1 + g) + 0)) = true then -9 else (fpM f2 f3 f5 (sgM f2 f3 f5 f9 (f6 (21 * (1 + g) + 0)) 9999).2.2 (f6 0) (f2 0).toNat 0 (-9, 9999)).1) hb hc (fun w => ?_) (fun w => ?_)
  · obtain ⟨e, hh⟩ := img_e hb w
    rw [e]; exact fir_e hr he n.1 hh
  · obtain ⟨e, hh⟩ := img_e hc w
    rw [e]; exact fir_e hr he n.1 hh
theorem an_nights {bhm bdy bac blk bcl bli bda bkp chm cdy cac clk ccl cli cda ckp g : Int} (hA : relP so bm P TH B ra su vw no dn ha f2 f3 f5) (hB : moS f2 f6 K hm dy ac lk cl li da) (hK : K ≤ 900) (hb : relI f2 f6 f7 K 0 bhm bdy bac blk bcl bli bda bkp) (hc : relI f2 f6 f7 K 1 chm cdy cac clk ccl cli cda ckp) :
    (if ¬ (0 ≤ g ∧ g < 2) then -1 else if g = 0 then (if bkp = 0 then -2 else nyF (lwS so bm P B dn) so P ra ha dy bhm 21 0 0 (sprA (lwS so bm P B dn) P (zup F 0 hm) 1 (ha - ac))) else (if ckp = 0 then -2 else nyF (lwS so bm P B dn) so P ra ha dy chm 21 0 0 (sprA (lwS so bm P B dn) P (zup F 0 hm) 1 (ha - ac)))) = (if reM f7 g = 0 then nyM f2 f3 f5 (f6 (21 * (1 + g) + 0)) 21 0 (gfM f2 f3 f5 (f2 7 - f6 2) 6562 0 (rcM (f6 0) 0 (f9, 0, fun _ => 9999))) else reM f7 g) := by
  obtain ⟨hok, ⟨rfl, rfl, rfl, rfl, rfl, rfl, rfl, rfl⟩, hr, he⟩ := hA
  obtain ⟨n, ⟨rfl, rfl, rfl, rfl, rfl⟩, m, d, l⟩ := hB
  refine img_3 (R := fun g => nyM f2 f3 f5 (f6 (21 * (1 + g) + 0)) 21 0 (gfM f2 f3 f5 (f2 7 - f6 2) 6562 0 (rcM (f6 0) 0 (f9, 0, fun _ => 9999)))) hb hc (fun w => ?_) (fun w => ?_)
  · obtain ⟨e, hh⟩ := img_e hb w
    rw [e]; exact nig_e hr he n.1 d hh (by omega)
  · obtain ⟨e, hh⟩ := img_e hc w
    rw [e]; exact nig_e hr he n.1 d hh (by omega)
theorem an_piano (hA : relP so bm P TH B ra su vw no dn ha f2 f3 f5) (hB : moS f2 f6 K hm dy ac lk cl li da) (k : Int) : (if 0 ≤ k ∧ k < 8 then teF so P (zbor (zpw k) (zpw ((k + 1) % 8))) (sprA (lwS so bm P B dn) P (zup F 0 hm) 1 6561) (sprA (lwS so bm P B dn) P (zup F 0 hm) 1 6561).2.1.toNat 0 else -1) = (if 0 ≤ k ∧ k ≤ 7 then tiM f2 k (sgM f2 f3 f5 f9 (f6 0) 9999) (sgM f2 f3 f5 f9 (f6 0) 9999).2.1.toNat 0 else -1) := by
  obtain ⟨hok, ⟨rfl, rfl, rfl, rfl, rfl, rfl, rfl, rfl⟩, hr, he⟩ := hA
  obtain ⟨n, ⟨rfl, rfl, rfl, rfl, rfl⟩, m, d, l⟩ := hB
  by_cases c : 0 ≤ k ∧ k < 8
  · rw [if_pos c, if_pos (by omega)]
    exact pia_e hr he n.1 ⟨c.1, by omega⟩
  · rw [if_neg c, if_neg (by omega)]
theorem an_best (hA : relP so bm P TH B ra su vw no dn ha f2 f3 f5) (p : Int) : (if ¬ (p = -1 ∨ (0 ≤ p ∧ p < P)) then -1000000 else if (bhF (lwS so bm P B dn) so P ra su vw no 6561 0 (-9, -1000000)).1 = -9 then -1000000 else if p = -1 then woA (pl (bhF (lwS so bm P B dn) so P ra su vw no 6561 0 (-9, -1000000)).1) so P ra su vw no else pl (bhF (lwS so bm P B dn) so P ra su vw no 6561 0 (-9, -1000000)).1 p) = (if -1 ≤ p ∧ p ≤ f2 0 - 1 then (if (bsM f2 f3 f5 (pw9 (f2 0)).toNat 0 (-9, -1000000)).1 = -9 ∨ p = -1 then (bsM f2 f3 f5 (pw9 (f2 0)).toNat 0 (-9, -1000000)).2 else slI (f2 0) (bsM f2 f3 f5 (pw9 (f2 0)).toNat 0 (-9, -1000000)).1 p) else -1000000) := by
  obtain ⟨hok, ⟨rfl, rfl, rfl, rfl, rfl, rfl, rfl, rfl⟩, hr, he⟩ := hA
  obtain ⟨-, -, b3⟩ := bst_e hr he
  have hu := unS_pos hr.1
  have hP0 := hr.1
  by_cases c : p = -1 ∨ (0 ≤ p ∧ p < f2 0)
  · rw [if_neg (fun w => w c), if_pos (show -1 ≤ p ∧ p ≤ f2 0 - 1 by omega)]
    rcases b3 with ⟨x1, x2, x3⟩ | ⟨x1, x2, x3, x4⟩
    · rw [if_pos x2, if_pos (Or.inl x1), x3]
    · have hne : (bhF (lwS so bm (f2 0) (f2 1) (f2 6)) so (f2 0) (f2 2) (f2 3) (f2 4) (f2 5) 6561 0 (-9, -1000000)).1 ≠ -9 := by
        have := hc_rng hr.1 x1
        rw [show (bhF (lwS so bm (f2 0) (f2 1) (f2 6)) so (f2 0) (f2 2) (f2 3) (f2 4) (f2 5) 6561 0 (-9, -1000000)).1 = _ from x2]
        omega
      rw [if_neg hne]
      by_cases q : p = -1
      · rw [if_pos q, if_pos (Or.inr q), x3, show (bhF (lwS so bm (f2 0) (f2 1) (f2 6)) so (f2 0) (f2 2) (f2 3) (f2 4) (f2 5) 6561 0 (-9, -1000000)).1 = _ from x2, wo_e hr he x1 (lw_ds x4)]
        rfl
      · rw [if_neg q, if_neg (fun w => w.elim (fun w => by omega) q), show (bhF (lwS so bm (f2 0) (f2 1) (f2 6)) so (f2 0) (f2 2) (f2 3) (f2 4) (f2 5) 6561 0 (-9, -1000000)).1 = _ from x2, pl_hc hr.1 x1 (by omega)]
  · rw [if_pos c, if_neg (by omega)]
theorem an_fit (hA : relP so bm P TH B ra su vw no dn ha f2 f3 f5) (hB : moS f2 f6 K hm dy ac lk cl li da) : cfF (lwS so bm P B dn) so P su li da 6561 0 = fcM f2 f3 f5 f6 (pw9 (f2 0)).toNat 0 := by
  obtain ⟨hok, ⟨rfl, rfl, rfl, rfl, rfl, rfl, rfl, rfl⟩, hr, he⟩ := hA
  exact cf_e hr hB.1 he hB.2.2.2.2
theorem an_sure (hA : relP so bm P TH B ra su vw no dn ha f2 f3 f5) (hB : moS f2 f6 K hm dy ac lk cl li da) (p : Int) : (if 0 ≤ p ∧ p < P then spF (lwS so bm P B dn) so P su li da p 6561 0 (-9) else -1) = (if 0 ≤ p ∧ p < f2 0 then skM (suM f2 f3 f5 f6 p (pw9 (f2 0)).toNat 0 0) 9 0 (-9) else -1) := by
  obtain ⟨hok, ⟨rfl, rfl, rfl, rfl, rfl, rfl, rfl, rfl⟩, hr, he⟩ := hA
  by_cases c : 0 ≤ p ∧ p < f2 0
  · rw [if_pos c, if_pos c]; exact sp_e hr hB.1 he hB.2.2.2.2 c
  · rw [if_neg c, if_neg c]
theorem an_count (hA : relP so bm P TH B ra su vw no dn ha f2 f3 f5) (hB : moS f2 f6 K hm dy ac lk cl li da) (hX : relX tx ln f1 td) (wh : Int) : (if wh = 0 then P else if wh = 1 then B else if wh = 2 then lyC (pl hm) P.toNat 0 else if wh = 3 then cl else if wh = 4 then ln else -1) = (if wh = 0 then f2 0 else if wh = 1 then f2 1 else if wh = 2 then lyC (slI (f2 0) (f6 0)) (f2 0).toNat 0 else if wh = 3 then f6 4 else if wh = 4 then td else -1) := by
  obtain ⟨hok, ⟨rfl, rfl, rfl, rfl, rfl, rfl, rfl, rfl⟩, hr, he⟩ := hA
  obtain ⟨n, ⟨rfl, rfl, rfl, rfl, rfl⟩, m, d, l⟩ := hB
  rw [ly_e hr n.1, hX.1]
theorem an_mark (hA : relP so bm P TH B ra su vw no dn ha f2 f3 f5) (hB : moS f2 f6 K hm dy ac lk cl li da) (kd p : Int) (tr : Int64) : mkA hm dy P so kd p tr = mkM f2 f3 f6 kd p tr := by
  obtain ⟨hok, ⟨rfl, rfl, rfl, rfl, rfl, rfl, rfl, rfl⟩, hr, he⟩ := hA
  obtain ⟨n, ⟨rfl, rfl, rfl, rfl, rfl⟩, m, d, l⟩ := hB
  unfold mkA mkM
  by_cases c : 0 ≤ p ∧ p < f2 0
  · rw [if_pos c, pl_hc hr.1 n.1 c, ly_e hr n.1, if_pos c, he.1 p c.1 c.2]
    by_cases k0 : kd = 0
    · rw [if_pos k0, if_pos ⟨by omega, c⟩, if_pos k0]
    · rw [if_neg k0]
      by_cases k1 : kd = 1
      · rw [if_pos k1, if_pos ⟨by omega, c⟩, if_neg k0, if_pos k1, Int64.add_assoc, Int.mul_comm]; rfl
      · rw [if_neg k1]
        by_cases k2 : kd = 2
        · rw [if_pos k2, if_pos ⟨by omega, c⟩, if_neg k0, if_neg k1, if_pos k2, Int64.add_assoc]; rfl
        · rw [if_neg k2]
          by_cases k3 : kd = 3
          · rw [if_pos k3, if_pos ⟨by omega, c⟩, if_neg k0, if_neg k1, if_neg k2, if_pos k3, Int64.add_assoc, Int64.add_assoc, Int.mul_comm]; rfl
          · rw [if_neg k3]
            by_cases k4 : kd = 4
            · rw [if_pos k4, if_pos ⟨by omega, c⟩, if_neg k0, if_neg k1, if_neg k2, if_neg k3, if_pos k4, Int64.add_assoc, Int64.add_assoc]; rfl
            · rw [if_neg k4]
              by_cases k5 : kd = 5
              · rw [if_pos k5, if_pos ⟨by omega, c⟩, if_neg k0, if_neg k1, if_neg k2, if_neg k3, if_neg k4, Int64.add_assoc]; rfl
              · rw [if_neg k5, if_neg (fun w => by omega)]
  · rw [if_neg c, if_neg (fun w => c w.2)]
end AN
