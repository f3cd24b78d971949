/-! ===== what the calls of the house answer, as numbers ===== -/
def okM (hm dy ac lk cl li da kp : Int) : Prop := (0 ≤ hm ∧ hm < 6561) ∧ (0 ≤ dy ∧ dy ≤ 1000) ∧ (0 ≤ ac ∧ ac ≤ 9) ∧ (0 ≤ lk ∧ lk ≤ 100000) ∧ (0 ≤ cl ∧ cl ≤ 8) ∧ (0 ≤ li ∧ li < 256) ∧ (0 ≤ da ∧ da < 256) ∧ (0 ≤ kp ∧ kp ≤ 1)
def actA (hm ac p k : Int) (so bm : Int → Int) (P B dn ha : Int) : Int × Int × Int :=
  if ac < ha ∧ alw (pl (mv hm p k)) so bm P B dn = true then (lyC (pl (mv hm p k)) P.toNat 0, mv hm p k, ac + 1) else (-2, hm, ac)
def dnA (hm ac p : Int) (so bm : Int → Int) (P B dn ha : Int) : Int × Int × Int :=
  if 0 ≤ p ∧ p < P then (if pl hm p = 8 then (-2, hm, ac) else actA hm ac p 8 so bm P B dn ha) else (-1, hm, ac)
def upA (hm ac p k : Int) (so bm : Int → Int) (P B dn ha : Int) : Int × Int × Int :=
  if (0 ≤ p ∧ p < P) ∧ 0 ≤ k ∧ k < 8 then (if pl hm p ≠ 8 ∨ patF (pl hm) k P.toNat 0 ≠ -9 then (-2, hm, ac) else actA hm ac p k so bm P B dn ha) else (-1, hm, ac)
def clA (cl li da h v : Int) : Int × Int × Int × Int :=
  if (0 ≤ h ∧ h < 8) ∧ 0 ≤ v ∧ v ≤ 1 then (if 8 ≤ cl then (-3, cl, li, da) else if v = 1 then (cl + 1, cl + 1, zbor li (zpw h), da) else (cl + 1, cl + 1, li, zbor da (zpw h))) else (-1, cl, li, da)
def mkA (hm dy P : Int) (so : Int → Int) (kd p : Int) (tr : Int64) : Int × Int64 :=
  if 0 ≤ p ∧ p < P then
    (if kd = 0 then (pl hm p, tr + 1) else if kd = 1 then (pl hm p * 2, tr + 10 + 1) else if kd = 2 then (pl hm p + (if 0 ≤ p ∧ p < P then so p else -9), tr + 100 + 1)
     else if kd = 3 then (pl hm p * 2 + dy, tr + 1000 + 10 + 1) else if kd = 4 then (pl hm p + (if 0 ≤ p ∧ p < P then so p else -9) + lyC (pl hm) P.toNat 0, tr + 10000 + 100 + 1) else if kd = 5 then (pl hm p - p, tr + 100000 + 1) else (-1000000, tr))
  else (-1000000, tr)
def tyF (v : Int64) : Nat → Int → (Int → Int) × Int → (Int → Int) × Int
  | 0, _, s => s
  | j + 1, i, s => tyF v j (i + (-1)) (zup s.1 s.2 (byL v i), s.2 + 1)
def tyA (v : Int64) (n : Int) (tx : Int → Int) (ln : Int) : (Int → Int) × Int := if (1 ≤ n ∧ n ≤ 8) ∧ ln + n ≤ 200 then tyF v n.toNat (n - 1) (tx, ln) else (tx, ln)
theorem bhF_rng (lw so : Int → Int) (P ra su vw no : Int) : ∀ (n : Nat) (h : Int) (s : Int × Int), 0 ≤ h ∧ h + n ≤ 6561 → -9 ≤ s.1 ∧ s.1 < 6561 ∧ (s.1 < 0 → s.1 = -9) → -9 ≤ (bhF lw so P ra su vw no n h s).1 ∧ (bhF lw so P ra su vw no n h s).1 < 6561 ∧ ((bhF lw so P ra su vw no n h s).1 < 0 → (bhF lw so P ra su vw no n h s).1 = -9)
  | 0, h, s, _, hs => hs
  | n + 1, h, s, hh, hs => by
    unfold bhF
    apply bhF_rng lw so P ra su vw no n (h + 1) _ (by omega)
    generalize (if lw h = 1 then woA (pl h) so P ra su vw no else -1000000) = w
    split
    · dsimp only; omega
    · exact hs
/-- keeps an equation from a decision procedure that would unfold it -/
def Hid (p : Prop) : Prop := p
