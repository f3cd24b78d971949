/-! ===== base: ints as Int32.ofInt of an Int; bounds by omega ===== -/
def zI (z : Int) : Int32 := Int32.ofInt z
theorem zI_add (a b : Int) : zI a + zI b = zI (a + b) := (Int32.ofInt_add a b).symm
theorem zI_sub (a b : Int) : zI a - zI b = zI (a - b) := (Int32.ofInt_sub a b).symm
theorem zI_mul (a b : Int) : zI a * zI b = zI (a * b) := (Int32.ofInt_mul a b).symm
theorem zI_neg (a : Int) : - zI a = zI (-a) := (Int32.ofInt_neg a).symm
theorem zI_toInt {a : Int} (h : -2147483648 ≤ a ∧ a < 2147483648) : (zI a).toInt = a := Int32.toInt_ofInt_of_le (by omega) (by omega)
theorem zI_of (x : Int32) : zI x.toInt = x := Int32.ofInt_toInt x
theorem zI_rng (x : Int32) : -2147483648 ≤ x.toInt ∧ x.toInt < 2147483648 := by
  have h1 := Int32.le_toInt x
  have h2 := Int32.toInt_lt x
  omega
theorem zI_lt {a b : Int} (ha : -2147483648 ≤ a ∧ a < 2147483648) (hb : -2147483648 ≤ b ∧ b < 2147483648) : zI a < zI b ↔ a < b := by rw [Int32.lt_iff_toInt_lt, zI_toInt ha, zI_toInt hb]
theorem zI_le {a b : Int} (ha : -2147483648 ≤ a ∧ a < 2147483648) (hb : -2147483648 ≤ b ∧ b < 2147483648) : zI a ≤ zI b ↔ a ≤ b := by rw [Int32.le_iff_toInt_le, zI_toInt ha, zI_toInt hb]
theorem zI_eq {a b : Int} (ha : -2147483648 ≤ a ∧ a < 2147483648) (hb : -2147483648 ≤ b ∧ b < 2147483648) : zI a = zI b ↔ a = b := by rw [← Int32.toInt_inj, zI_toInt ha, zI_toInt hb]
theorem zI_nat (n : Nat) : nI n = zI n := Int32.ofInt_eq_ofNat.symm
theorem zI_nn {a : Int} (h : 0 ≤ a) : zI a = nI a.toNat := by rw [zI_nat, Int.toNat_of_nonneg h]
theorem zI_cl {a : Int} (h : 0 ≤ a ∧ a < 2147483648) : (zI a).toNatClampNeg = a.toNat := Int32.toNatClampNeg_ofInt_of_le (by omega) (by omega)
theorem zI_in {a : Int} {n : Nat} (h : 0 ≤ a ∧ a < n) (hn : n < 2147483648) : vp_in (zI a) n := by
  rw [vp_in_iff, zI_toInt (by omega)]
  exact h
theorem zI_div {a b : Int} (ha : 0 ≤ a ∧ a < 2147483648) (hb : 0 < b ∧ b < 2147483648) : zI a / zI b = zI (a / b) := by
  rw [zI_nn ha.1, zI_nn (Int.le_of_lt hb.1), pk_div (by omega) (by omega) (by omega), zI_nat, Int.natCast_ediv, Int.toNat_of_nonneg ha.1, Int.toNat_of_nonneg (Int.le_of_lt hb.1)]
theorem zI_rem {a b : Int} (ha : 0 ≤ a ∧ a < 2147483648) (hb : 0 < b ∧ b < 2147483648) : zI a - zI a / zI b * zI b = zI (a % b) := by
  rw [zI_nn ha.1, zI_nn (Int.le_of_lt hb.1), pk_rem (by omega) (by omega) (by omega), zI_nat, Int.natCast_emod, Int.toNat_of_nonneg ha.1, Int.toNat_of_nonneg (Int.le_of_lt hb.1)]
/-! bits of an int that is not below 0 -/
def zbor (a b : Int) : Int := ((a.toNat ||| b.toNat : Nat) : Int)
def zband (a b : Int) : Int := ((a.toNat &&& b.toNat : Nat) : Int)
def zbandn (a b : Int) : Int := ((a.toNat ^^^ (a.toNat &&& b.toNat) : Nat) : Int)
def zshr (a k : Int) : Int := ((a.toNat >>> k.toNat : Nat) : Int)
def zpw (k : Int) : Int := ((2 ^ k.toNat : Nat) : Int)
def ztb (a k : Int) : Bool := a.toNat.testBit k.toNat
def zbit (a k : Int) : Int := if ztb a k then 1 else 0
theorem pz_and (a b : Nat) : nI a &&& nI b = nI (a &&& b) := by
  apply Int32.toBitVec_inj.1
  show BitVec.ofNat 32 a &&& BitVec.ofNat 32 b = BitVec.ofNat 32 (a &&& b)
  apply BitVec.eq_of_getLsbD_eq
  intro i hi
  simp [hi]
theorem pz_or (a b : Nat) : nI a ||| nI b = nI (a ||| b) := by
  apply Int32.toBitVec_inj.1
  show BitVec.ofNat 32 a ||| BitVec.ofNat 32 b = BitVec.ofNat 32 (a ||| b)
  apply BitVec.eq_of_getLsbD_eq
  intro i hi
  simp [hi]
theorem pz_xor (a b : Nat) : nI a ^^^ nI b = nI (a ^^^ b) := by
  apply Int32.toBitVec_inj.1
  show BitVec.ofNat 32 a ^^^ BitVec.ofNat 32 b = BitVec.ofNat 32 (a ^^^ b)
  apply BitVec.eq_of_getLsbD_eq
  intro i hi
  simp [hi]
theorem zI_and {a b : Int} (ha : 0 ≤ a) (hb : 0 ≤ b) : zI a &&& zI b = zI (zband a b) := by
  rw [zI_nn ha, zI_nn hb, pz_and, zI_nat]; rfl
theorem zI_or {a b : Int} (ha : 0 ≤ a) (hb : 0 ≤ b) : zI a ||| zI b = zI (zbor a b) := by
  rw [zI_nn ha, zI_nn hb, pz_or, zI_nat]; rfl
theorem zI_andn {a b : Int} (ha : 0 ≤ a) (hb : 0 ≤ b) : zI a &&& (zI b ^^^ zI (-1)) = zI (zbandn a b) := by
  rw [zI_nn ha, zI_nn hb]
  unfold zbandn
  rw [← zI_nat]
  generalize a.toNat = x
  generalize b.toNat = y
  apply Int32.toBitVec_inj.1
  show BitVec.ofNat 32 x &&& (BitVec.ofNat 32 y ^^^ BitVec.allOnes 32) = BitVec.ofNat 32 (x ^^^ (x &&& y))
  apply BitVec.eq_of_getLsbD_eq
  intro i hi
  simp only [BitVec.getLsbD_and, BitVec.getLsbD_xor, BitVec.getLsbD_allOnes, BitVec.getLsbD_ofNat, Nat.testBit_xor, Nat.testBit_and, hi, decide_true, Bool.true_and]
  cases x.testBit i <;> cases y.testBit i <;> rfl
theorem zs_l : ∀ n, n < 31 → ((nI n &&& 31).toBitVec.smod 32).toNat = n := by decide +kernel
theorem zI_shr {a k : Int} (ha : 0 ≤ a ∧ a < 2147483648) (hk : 0 ≤ k ∧ k < 31) : zI a >>> (zI k &&& 31) = zI (zshr a k) := by
  rw [zI_nn ha.1, zI_nn hk.1, pk_shrN (by omega) _ k.toNat (zs_l _ (by omega)), zI_nat]
  unfold zshr
  rw [Nat.shiftRight_eq_div_pow]
theorem zI_shl1 {k : Int} (hk : 0 ≤ k ∧ k < 31) : zI 1 <<< (zI k &&& 31) = zI (zpw k) := by
  have h2 : (2 : Nat) ^ k.toNat < 2 ^ 32 := Nat.pow_lt_pow_right (by decide) (by omega)
  rw [zI_nn (by omega : (0 : Int) ≤ 1), zI_nn hk.1, pk_shlN _ k.toNat (zs_l _ (by omega)) (by simpa using h2), zI_nat]
  unfold zpw
  simp
theorem zbit_shr {a k : Int} : zband (zshr a k) 1 = zbit a k := by
  unfold zband zshr zbit ztb
  rw [Int.toNat_natCast]
  show ((a.toNat >>> k.toNat &&& 1 : Nat) : Int) = _
  rw [Nat.testBit, Nat.and_comm]
  rcases Nat.mod_two_eq_zero_or_one (a.toNat >>> k.toNat) with h | h <;> simp [Nat.one_and_eq_mod_two, h]
theorem zbit_rng (a k : Int) : 0 ≤ zbit a k ∧ zbit a k ≤ 1 := by unfold zbit; split <;> omega
theorem zbit_1 (a k : Int) : zbit a k = 1 ↔ ztb a k = true := by unfold zbit; split <;> simp_all
theorem zbit_0 (a k : Int) : zbit a k = 0 ↔ ztb a k = false := by unfold zbit; split <;> simp_all
theorem zbor_nn (a b : Int) : 0 ≤ zbor a b := Int.natCast_nonneg _
theorem zband_nn (a b : Int) : 0 ≤ zband a b := Int.natCast_nonneg _
theorem zbandn_nn (a b : Int) : 0 ≤ zbandn a b := Int.natCast_nonneg _
theorem zshr_nn (a b : Int) : 0 ≤ zshr a b := Int.natCast_nonneg _
theorem zpw_nn (a : Int) : 0 ≤ zpw a := Int.natCast_nonneg _
theorem ztb_bor (a b k : Int) : ztb (zbor a b) k = (ztb a k || ztb b k) := by unfold ztb zbor; rw [Int.toNat_natCast, Nat.testBit_or]
theorem ztb_band (a b k : Int) : ztb (zband a b) k = (ztb a k && ztb b k) := by unfold ztb zband; rw [Int.toNat_natCast, Nat.testBit_and]
theorem ztb_bandn (a b k : Int) : ztb (zbandn a b) k = (ztb a k && !ztb b k) := by
  unfold ztb zbandn; rw [Int.toNat_natCast, Nat.testBit_xor, Nat.testBit_and]
  cases a.toNat.testBit k.toNat <;> cases b.toNat.testBit k.toNat <;> rfl
theorem ztb_pw {j k : Int} (hj : 0 ≤ j) (hk : 0 ≤ k) : ztb (zpw j) k = decide (j = k) := by
  unfold ztb zpw; rw [Int.toNat_natCast, Nat.testBit_two_pow]
  have : (j.toNat = k.toNat) ↔ j = k := by omega
  simp [this]
theorem ztb_0 (k : Int) : ztb 0 k = false := by unfold ztb; simp
theorem zbor_lt {a b : Int} (n : Nat) (ha : a < ((2 ^ n : Nat) : Int)) (hb : b < ((2 ^ n : Nat) : Int)) : zbor a b < ((2 ^ n : Nat) : Int) := by
  unfold zbor
  have hp : 0 < 2 ^ n := Nat.two_pow_pos n
  exact Int.ofNat_lt.mpr (Nat.or_lt_two_pow (by omega) (by omega))
theorem zband_le (a b : Int) (ha : 0 ≤ a) : zband a b ≤ a := by
  unfold zband
  have := @Nat.and_le_left a.toNat b.toNat
  omega
theorem zbandn_le (a b : Int) (ha : 0 ≤ a) : zbandn a b ≤ a := by
  unfold zbandn
  have h : a.toNat ^^^ (a.toNat &&& b.toNat) ≤ a.toNat := by
    have e : a.toNat ^^^ (a.toNat &&& b.toNat) = a.toNat &&& (a.toNat ^^^ (a.toNat &&& b.toNat)) := by
      apply Nat.eq_of_testBit_eq
      intro i
      simp only [Nat.testBit_xor, Nat.testBit_and]
      cases a.toNat.testBit i <;> cases b.toNat.testBit i <;> rfl
    rw [e]
    exact Nat.and_le_left
  omega
theorem zpw_lt {k : Int} {n : Nat} (h : k < n) (h0 : 0 < n) : zpw k < ((2 ^ n : Nat) : Int) := by
  unfold zpw
  exact Int.ofNat_lt.mpr (Nat.pow_lt_pow_right (by decide) (by omega))
/-! arrays of ints: cells that hold zI of F at each place -/
def zia (F : Int → Int) : Nat → Int32 := fun j => zI (F j)
def zup (F : Int → Int) (e x : Int) : Int → Int := fun j => if j = e then x else F j
theorem zia_at (F : Int → Int) {a : Int} (h : 0 ≤ a ∧ a < 2147483648) : zia F (zI a).toNatClampNeg = zI (F a) := by
  rw [zI_cl h]
  unfold zia
  rw [Int.toNat_of_nonneg h.1]
theorem zia_up (F : Int → Int) {a : Int} (x : Int) (h : 0 ≤ a ∧ a < 2147483648) : upd (zia F) (zI a).toNatClampNeg (zI x) = zia (zup F a x) := by
  rw [zI_cl h]
  funext j
  unfold upd zia zup
  by_cases hj : j = a.toNat
  · rw [if_pos hj, if_pos (by omega)]
  · rw [if_neg hj, if_neg (by omega)]
theorem zup_s (F : Int → Int) (e x : Int) : zup F e x e = x := if_pos rfl
theorem zup_n (F : Int → Int) {e x j : Int} (h : j ≠ e) : zup F e x j = F j := if_neg h
/-! ===== rows over zI ===== -/
section ZROWS
variable {p : Program} {l : Launch} {e : Env} {R : Room} {s : State} {m : MethodId} {args : Array Value} {below : List Frame} {meth : Method} {c : Code} {H : Heap} {locs : List Loc} {cells slots : Nat} {Q : State → Prop}
variable {cc : ByteArray} {pc : Nat} {ls : Array Slot} {rest : List Value} {a b : Int}
theorem z_top {x y : Int32} (h : x = y) (k : W p l e R s m args below meth c H locs cells slots Q (F0 m pc ls (.int y :: rest))) : W p l e R s m args below meth c H locs cells slots Q (F0 m pc ls (.int x :: rest)) := by
  rw [h]; exact k
theorem z_topz (h : a = b) (k : W p l e R s m args below meth c H locs cells slots Q (F0 m pc ls (.int (zI b) :: rest))) : W p l e R s m args below meth c H locs cells slots Q (F0 m pc ls (.int (zI a) :: rest)) := by
  rw [h]; exact k
theorem z_iadd (hx : p.tables.exec = Jvm.exec) (hb : c.code = cc) (hd : decode cc pc = .ok (.iadd, 1)) (k : W p l e R s m args below meth c H locs cells slots Q (F0 m (pc + 1) ls (.int (zI (a + b)) :: rest))) : W p l e R s m args below meth c H locs cells slots Q (F0 m pc ls (.int (zI b) :: .int (zI a) :: rest)) := lv_iadd hx hb hd (by rw [zI_add]; exact k)
theorem z_isub (hx : p.tables.exec = Jvm.exec) (hb : c.code = cc) (hd : decode cc pc = .ok (.isub, 1)) (k : W p l e R s m args below meth c H locs cells slots Q (F0 m (pc + 1) ls (.int (zI (a - b)) :: rest))) : W p l e R s m args below meth c H locs cells slots Q (F0 m pc ls (.int (zI b) :: .int (zI a) :: rest)) := lv_isub hx hb hd (by rw [zI_sub]; exact k)
theorem z_imul (hx : p.tables.exec = Jvm.exec) (hb : c.code = cc) (hd : decode cc pc = .ok (.imul, 1)) (k : W p l e R s m args below meth c H locs cells slots Q (F0 m (pc + 1) ls (.int (zI (a * b)) :: rest))) : W p l e R s m args below meth c H locs cells slots Q (F0 m pc ls (.int (zI b) :: .int (zI a) :: rest)) := lv_imul hx hb hd (by rw [zI_mul]; exact k)
theorem z_ineg (hx : p.tables.exec = Jvm.exec) (hb : c.code = cc) (hd : decode cc pc = .ok (.ineg, 1)) (k : W p l e R s m args below meth c H locs cells slots Q (F0 m (pc + 1) ls (.int (zI (-a)) :: rest))) : W p l e R s m args below meth c H locs cells slots Q (F0 m pc ls (.int (zI a) :: rest)) := lv_ineg hx hb hd (by rw [zI_neg]; exact k)
theorem z_idiv (hx : p.tables.exec = Jvm.exec) (hb : c.code = cc) (hd : decode cc pc = .ok (.idiv, 1)) (h : (0 ≤ a ∧ a < 2147483648) ∧ 0 < b ∧ b < 2147483648) (k : W p l e R s m args below meth c H locs cells slots Q (F0 m (pc + 1) ls (.int (zI (a / b)) :: rest))) : W p l e R s m args below meth c H locs cells slots Q (F0 m pc ls (.int (zI b) :: .int (zI a) :: rest)) :=
  lv_idiv hx hb hd (fun q => by have := (zI_eq (a := b) (b := 0) (by omega) (by omega)).mp q; omega) (by rw [zI_div h.1 h.2]; exact k)
theorem z_irem (hx : p.tables.exec = Jvm.exec) (hb : c.code = cc) (hd : decode cc pc = .ok (.irem, 1)) (h : (0 ≤ a ∧ a < 2147483648) ∧ 0 < b ∧ b < 2147483648) (k : W p l e R s m args below meth c H locs cells slots Q (F0 m (pc + 1) ls (.int (zI (a % b)) :: rest))) : W p l e R s m args below meth c H locs cells slots Q (F0 m pc ls (.int (zI b) :: .int (zI a) :: rest)) :=
  lv_irem hx hb hd (fun q => by have := (zI_eq (a := b) (b := 0) (by omega) (by omega)).mp q; omega) (by rw [zI_rem h.1 h.2]; exact k)
theorem z_ior (hx : p.tables.exec = Jvm.exec) (hb : c.code = cc) (hd : decode cc pc = .ok (.ior, 1)) (h : 0 ≤ a ∧ 0 ≤ b) (k : W p l e R s m args below meth c H locs cells slots Q (F0 m (pc + 1) ls (.int (zI (zbor a b)) :: rest))) : W p l e R s m args below meth c H locs cells slots Q (F0 m pc ls (.int (zI b) :: .int (zI a) :: rest)) := lv_ior hx hb hd (by rw [zI_or h.1 h.2]; exact k)
theorem z_iand (hx : p.tables.exec = Jvm.exec) (hb : c.code = cc) (hd : decode cc pc = .ok (.iand, 1)) (h : 0 ≤ a ∧ 0 ≤ b) (k : W p l e R s m args below meth c H locs cells slots Q (F0 m (pc + 1) ls (.int (zI (zband a b)) :: rest))) : W p l e R s m args below meth c H locs cells slots Q (F0 m pc ls (.int (zI b) :: .int (zI a) :: rest)) := lv_iand hx hb hd (by rw [zI_and h.1 h.2]; exact k)
theorem z_iandn (hx : p.tables.exec = Jvm.exec) (hb : c.code = cc) (hd : decode cc pc = .ok (.iand, 1)) (h : 0 ≤ a ∧ 0 ≤ b) (k : W p l e R s m args below meth c H locs cells slots Q (F0 m (pc + 1) ls (.int (zI (zbandn a b)) :: rest))) : W p l e R s m args below meth c H locs cells slots Q (F0 m pc ls (.int (zI b ^^^ zI (-1)) :: .int (zI a) :: rest)) := lv_iand hx hb hd (by rw [zI_andn h.1 h.2]; exact k)
theorem z_ibit (hx : p.tables.exec = Jvm.exec) (hb : c.code = cc) (hd : decode cc pc = .ok (.iand, 1)) (k : W p l e R s m args below meth c H locs cells slots Q (F0 m (pc + 1) ls (.int (zI (zbit a b)) :: rest))) : W p l e R s m args below meth c H locs cells slots Q (F0 m pc ls (.int (zI 1) :: .int (zI (zshr a b)) :: rest)) := z_iand hx hb hd ⟨zshr_nn a b, by omega⟩ (by rw [zbit_shr]; exact k)
theorem z_ishr (hx : p.tables.exec = Jvm.exec) (hb : c.code = cc) (hd : decode cc pc = .ok (.ishr, 1)) (h : (0 ≤ a ∧ a < 2147483648) ∧ 0 ≤ b ∧ b < 31) (k : W p l e R s m args below meth c H locs cells slots Q (F0 m (pc + 1) ls (.int (zI (zshr a b)) :: rest))) : W p l e R s m args below meth c H locs cells slots Q (F0 m pc ls (.int (zI b) :: .int (zI a) :: rest)) := lv_ishr hx hb hd (by rw [zI_shr h.1 h.2]; exact k)
theorem z_ishl1 (hx : p.tables.exec = Jvm.exec) (hb : c.code = cc) (hd : decode cc pc = .ok (.ishl, 1)) (h : 0 ≤ b ∧ b < 31) (k : W p l e R s m args below meth c H locs cells slots Q (F0 m (pc + 1) ls (.int (zI (zpw b)) :: rest))) : W p l e R s m args below meth c H locs cells slots Q (F0 m pc ls (.int (zI b) :: .int (zI 1) :: rest)) := lv_ishl hx hb hd (by rw [zI_shl1 h]; exact k)
theorem z_iinc (hx : p.tables.exec = Jvm.exec) (hb : c.code = cc) {i nL k : Nat} {n : Int} {lv lv' : List (Nat × Value)} (hd : decode cc pc = .ok (.iinc i n, 3)) (h : lv_has ls nL lv) (hk : lv[k]? = some (i, .int (zI a))) (hn : i < nL) (hl : (i, Value.int (zI (a + n))) :: lv.filter (fun q => !(q.1 == i) && !(q.1 + 1 == i && q.2.category == 2)) = lv')
    (kk : ∀ ls' : Array Slot, lv_has ls' nL lv' → W p l e R s m args below meth c H locs cells slots Q (F0 m (pc + 3) ls' rest)) : W p l e R s m args below meth c H locs cells slots Q (F0 m pc ls rest) := lv_iinc hx hb hd h hk (zI_add a n) hn hl kk
theorem z_icmp_eq (hx : p.tables.exec = Jvm.exec) (hb : c.code = cc) {off : Int} {tgt : Nat} (hd : decode cc pc = .ok (.if_icmp .eq off, 3)) (ht : (pc : Int) + off = (tgt : Int)) (hr : (-2147483648 ≤ a ∧ a < 2147483648) ∧ (-2147483648 ≤ b ∧ b < 2147483648))
    (kt : a = b → W p l e R s m args below meth c H locs cells slots Q (F0 m tgt ls rest)) (kf : a ≠ b → W p l e R s m args below meth c H locs cells slots Q (F0 m (pc + 3) ls rest)) : W p l e R s m args below meth c H locs cells slots Q (F0 m pc ls (.int (zI b) :: .int (zI a) :: rest)) := lv_icmp_eq hx hb hd ht (fun q => kt ((zI_eq hr.1 hr.2).mp q)) (fun q => kf (fun w => q ((zI_eq hr.1 hr.2).mpr w)))
theorem z_icmp_ne (hx : p.tables.exec = Jvm.exec) (hb : c.code = cc) {off : Int} {tgt : Nat} (hd : decode cc pc = .ok (.if_icmp .ne off, 3)) (ht : (pc : Int) + off = (tgt : Int)) (hr : (-2147483648 ≤ a ∧ a < 2147483648) ∧ (-2147483648 ≤ b ∧ b < 2147483648))
    (kt : a ≠ b → W p l e R s m args below meth c H locs cells slots Q (F0 m tgt ls rest)) (kf : a = b → W p l e R s m args below meth c H locs cells slots Q (F0 m (pc + 3) ls rest)) : W p l e R s m args below meth c H locs cells slots Q (F0 m pc ls (.int (zI b) :: .int (zI a) :: rest)) := lv_icmp_ne hx hb hd ht (fun q => kt (fun w => q ((zI_eq hr.1 hr.2).mpr w))) (fun q => kf ((zI_eq hr.1 hr.2).mp q))
theorem z_icmp_lt (hx : p.tables.exec = Jvm.exec) (hb : c.code = cc) {off : Int} {tgt : Nat} (hd : decode cc pc = .ok (.if_icmp .lt off, 3)) (ht : (pc : Int) + off = (tgt : Int)) (hr : (-2147483648 ≤ a ∧ a < 2147483648) ∧ (-2147483648 ≤ b ∧ b < 2147483648))
    (kt : a < b → W p l e R s m args below meth c H locs cells slots Q (F0 m tgt ls rest)) (kf : b ≤ a → W p l e R s m args below meth c H locs cells slots Q (F0 m (pc + 3) ls rest)) : W p l e R s m args below meth c H locs cells slots Q (F0 m pc ls (.int (zI b) :: .int (zI a) :: rest)) := lv_icmp_lt hx hb hd ht (fun q => kt ((zI_lt hr.1 hr.2).mp q)) (fun q => kf (Int.not_lt.mp (fun w => q ((zI_lt hr.1 hr.2).mpr w))))
theorem z_icmp_ge (hx : p.tables.exec = Jvm.exec) (hb : c.code = cc) {off : Int} {tgt : Nat} (hd : decode cc pc = .ok (.if_icmp .ge off, 3)) (ht : (pc : Int) + off = (tgt : Int)) (hr : (-2147483648 ≤ a ∧ a < 2147483648) ∧ (-2147483648 ≤ b ∧ b < 2147483648))
    (kt : b ≤ a → W p l e R s m args below meth c H locs cells slots Q (F0 m tgt ls rest)) (kf : a < b → W p l e R s m args below meth c H locs cells slots Q (F0 m (pc + 3) ls rest)) : W p l e R s m args below meth c H locs cells slots Q (F0 m pc ls (.int (zI b) :: .int (zI a) :: rest)) := lv_icmp_ge hx hb hd ht (fun q => kt ((zI_le hr.2 hr.1).mp q)) (fun q => kf (Int.not_le.mp (fun w => q ((zI_le hr.2 hr.1).mpr w))))
theorem z_icmp_gt (hx : p.tables.exec = Jvm.exec) (hb : c.code = cc) {off : Int} {tgt : Nat} (hd : decode cc pc = .ok (.if_icmp .gt off, 3)) (ht : (pc : Int) + off = (tgt : Int)) (hr : (-2147483648 ≤ a ∧ a < 2147483648) ∧ (-2147483648 ≤ b ∧ b < 2147483648))
    (kt : b < a → W p l e R s m args below meth c H locs cells slots Q (F0 m tgt ls rest)) (kf : a ≤ b → W p l e R s m args below meth c H locs cells slots Q (F0 m (pc + 3) ls rest)) : W p l e R s m args below meth c H locs cells slots Q (F0 m pc ls (.int (zI b) :: .int (zI a) :: rest)) := lv_icmp_gt hx hb hd ht (fun q => kt ((zI_lt hr.2 hr.1).mp q)) (fun q => kf (Int.not_lt.mp (fun w => q ((zI_lt hr.2 hr.1).mpr w))))
theorem z_icmp_le (hx : p.tables.exec = Jvm.exec) (hb : c.code = cc) {off : Int} {tgt : Nat} (hd : decode cc pc = .ok (.if_icmp .le off, 3)) (ht : (pc : Int) + off = (tgt : Int)) (hr : (-2147483648 ≤ a ∧ a < 2147483648) ∧ (-2147483648 ≤ b ∧ b < 2147483648))
    (kt : a ≤ b → W p l e R s m args below meth c H locs cells slots Q (F0 m tgt ls rest)) (kf : b < a → W p l e R s m args below meth c H locs cells slots Q (F0 m (pc + 3) ls rest)) : W p l e R s m args below meth c H locs cells slots Q (F0 m pc ls (.int (zI b) :: .int (zI a) :: rest)) := lv_icmp_le hx hb hd ht (fun q => kt ((zI_le hr.1 hr.2).mp q)) (fun q => kf (Int.not_le.mp (fun w => q ((zI_le hr.1 hr.2).mpr w))))
theorem z_if_eq (hx : p.tables.exec = Jvm.exec) (hb : c.code = cc) {off : Int} {tgt : Nat} (hd : decode cc pc = .ok (.ifCond .eq off, 3)) (ht : (pc : Int) + off = (tgt : Int)) (hr : -2147483648 ≤ a ∧ a < 2147483648)
    (kt : a = 0 → W p l e R s m args below meth c H locs cells slots Q (F0 m tgt ls rest)) (kf : a ≠ 0 → W p l e R s m args below meth c H locs cells slots Q (F0 m (pc + 3) ls rest)) : W p l e R s m args below meth c H locs cells slots Q (F0 m pc ls (.int (zI a) :: rest)) := lv_if_eq hx hb hd ht (fun q => kt ((zI_eq (b := 0) hr (by omega)).mp q)) (fun q => kf (fun w => q ((zI_eq (b := 0) hr (by omega)).mpr w)))
theorem z_if_ne (hx : p.tables.exec = Jvm.exec) (hb : c.code = cc) {off : Int} {tgt : Nat} (hd : decode cc pc = .ok (.ifCond .ne off, 3)) (ht : (pc : Int) + off = (tgt : Int)) (hr : -2147483648 ≤ a ∧ a < 2147483648)
    (kt : a ≠ 0 → W p l e R s m args below meth c H locs cells slots Q (F0 m tgt ls rest)) (kf : a = 0 → W p l e R s m args below meth c H locs cells slots Q (F0 m (pc + 3) ls rest)) : W p l e R s m args below meth c H locs cells slots Q (F0 m pc ls (.int (zI a) :: rest)) := lv_if_ne hx hb hd ht (fun q => kt (fun w => q ((zI_eq (b := 0) hr (by omega)).mpr w))) (fun q => kf ((zI_eq (b := 0) hr (by omega)).mp q))
theorem z_if_lt (hx : p.tables.exec = Jvm.exec) (hb : c.code = cc) {off : Int} {tgt : Nat} (hd : decode cc pc = .ok (.ifCond .lt off, 3)) (ht : (pc : Int) + off = (tgt : Int)) (hr : -2147483648 ≤ a ∧ a < 2147483648)
    (kt : a < 0 → W p l e R s m args below meth c H locs cells slots Q (F0 m tgt ls rest)) (kf : 0 ≤ a → W p l e R s m args below meth c H locs cells slots Q (F0 m (pc + 3) ls rest)) : W p l e R s m args below meth c H locs cells slots Q (F0 m pc ls (.int (zI a) :: rest)) := lv_if_lt hx hb hd ht (fun q => kt ((zI_lt (b := 0) hr (by omega)).mp q)) (fun q => kf (Int.not_lt.mp (fun w => q ((zI_lt (b := 0) hr (by omega)).mpr w))))
theorem z_if_ge (hx : p.tables.exec = Jvm.exec) (hb : c.code = cc) {off : Int} {tgt : Nat} (hd : decode cc pc = .ok (.ifCond .ge off, 3)) (ht : (pc : Int) + off = (tgt : Int)) (hr : -2147483648 ≤ a ∧ a < 2147483648)
    (kt : 0 ≤ a → W p l e R s m args below meth c H locs cells slots Q (F0 m tgt ls rest)) (kf : a < 0 → W p l e R s m args below meth c H locs cells slots Q (F0 m (pc + 3) ls rest)) : W p l e R s m args below meth c H locs cells slots Q (F0 m pc ls (.int (zI a) :: rest)) := lv_if_ge hx hb hd ht (fun q => kt ((zI_le (a := 0) (by omega) hr).mp q)) (fun q => kf (Int.not_le.mp (fun w => q ((zI_le (a := 0) (by omega) hr).mpr w))))
theorem z_if_gt (hx : p.tables.exec = Jvm.exec) (hb : c.code = cc) {off : Int} {tgt : Nat} (hd : decode cc pc = .ok (.ifCond .gt off, 3)) (ht : (pc : Int) + off = (tgt : Int)) (hr : -2147483648 ≤ a ∧ a < 2147483648)
    (kt : 0 < a → W p l e R s m args below meth c H locs cells slots Q (F0 m tgt ls rest)) (kf : a ≤ 0 → W p l e R s m args below meth c H locs cells slots Q (F0 m (pc + 3) ls rest)) : W p l e R s m args below meth c H locs cells slots Q (F0 m pc ls (.int (zI a) :: rest)) := lv_if_gt hx hb hd ht (fun q => kt ((zI_lt (a := 0) (by omega) hr).mp q)) (fun q => kf (Int.not_lt.mp (fun w => q ((zI_lt (a := 0) (by omega) hr).mpr w))))
theorem z_if_le (hx : p.tables.exec = Jvm.exec) (hb : c.code = cc) {off : Int} {tgt : Nat} (hd : decode cc pc = .ok (.ifCond .le off, 3)) (ht : (pc : Int) + off = (tgt : Int)) (hr : -2147483648 ≤ a ∧ a < 2147483648)
    (kt : a ≤ 0 → W p l e R s m args below meth c H locs cells slots Q (F0 m tgt ls rest)) (kf : 0 < a → W p l e R s m args below meth c H locs cells slots Q (F0 m (pc + 3) ls rest)) : W p l e R s m args below meth c H locs cells slots Q (F0 m pc ls (.int (zI a) :: rest)) := lv_if_le hx hb hd ht (fun q => kt ((zI_le (b := 0) hr (by omega)).mp q)) (fun q => kf (Int.not_le.mp (fun w => q ((zI_le (b := 0) hr (by omega)).mpr w))))
variable {D : va_G} {cl : List vw_C} {A : Nat → Prop} {ad : Nat} {tys : List (ClassId × FieldType)} {ws : va_W} {H0 : Heap}
theorem z_iald (hx : p.tables.exec = Jvm.exec) (hb : c.code = cc) (hK : va_K D cl tys s) (hP : va_P D cl ws H) (q0 t0 : Nat) {cA : ClassId} {n : Nat} {F : Int → Int} (ha : ws[q0]? = some (ad, .inl (cA, n, .inl (zia F)))) (ht : tys[t0]? = some (cA, .int)) (hn : n < 2147483648) (hd : decode cc pc = .ok (.iaload, 1)) (hin : 0 ≤ a ∧ a < n)
    (kk : W p l e R s m args below meth c H locs cells slots Q (F0 m (pc + 1) ls (.int (zI (F a)) :: rest))) : W p l e R s m args below meth c H locs cells slots Q (F0 m pc ls (.int (zI a) :: .ref ad :: rest)) := va_iald hx hb hK hP q0 t0 ha ht (zI_in hin hn) hd (by rw [zia_at F (by omega)]; exact kk)
theorem z_bald (hx : p.tables.exec = Jvm.exec) (hb : c.code = cc) (hK : va_K D cl tys s) (hP : va_P D cl ws H) (q0 t0 : Nat) {cA : ClassId} {n : Nat} {F : Int → Int} (ha : ws[q0]? = some (ad, .inl (cA, n, .inl (zia F)))) (ht : tys[t0]? = some (cA, .byte)) (hn : n < 2147483648) (hd : decode cc pc = .ok (.baload, 1)) (hin : 0 ≤ a ∧ a < n)
    (kk : W p l e R s m args below meth c H locs cells slots Q (F0 m (pc + 1) ls (.int (zI (F a)) :: rest))) : W p l e R s m args below meth c H locs cells slots Q (F0 m pc ls (.int (zI a) :: .ref ad :: rest)) := va_bald hx hb hK hP q0 t0 ha ht (zI_in hin hn) hd (by rw [zia_at F (by omega)]; exact kk)
theorem z_zald (hx : p.tables.exec = Jvm.exec) (hb : c.code = cc) (hK : va_K D cl tys s) (hP : va_P D cl ws H) (q0 t0 : Nat) {cA : ClassId} {n : Nat} {F : Int → Int} (ha : ws[q0]? = some (ad, .inl (cA, n, .inl (zia F)))) (ht : tys[t0]? = some (cA, .boolean)) (hn : n < 2147483648) (hd : decode cc pc = .ok (.baload, 1)) (hin : 0 ≤ a ∧ a < n)
    (kk : W p l e R s m args below meth c H locs cells slots Q (F0 m (pc + 1) ls (.int (zI (F a)) :: rest))) : W p l e R s m args below meth c H locs cells slots Q (F0 m pc ls (.int (zI a) :: .ref ad :: rest)) := va_zald hx hb hK hP q0 t0 ha ht (zI_in hin hn) hd (by rw [zia_at F (by omega)]; exact kk)
theorem z_iast (hx : p.tables.exec = Jvm.exec) (hb : c.code = cc) (hK : va_K D cl tys s) (hP : va_P D cl ws H) (hD : va_D A ws) (hS : va_S A H0 H locs) (q0 t0 : Nat) {cA : ClassId} {n : Nat} {F : Int → Int} (ha : ws[q0]? = some (ad, .inl (cA, n, .inl (zia F)))) (ht : tys[t0]? = some (cA, .int)) (hn : n < 2147483648) (hd : decode cc pc = .ok (.iastore, 1)) {ws' : va_W} (hw : ws.set q0 (ad, .inl (cA, n, .inl (zia (zup F a b)))) = ws') (hin : 0 ≤ a ∧ a < n)
    (kk : ∀ (H1 : Heap) (locs1 : List Loc), va_P D cl ws' H1 → va_D A ws' → va_S A H0 H1 locs1 → W p l e R s m args below meth c H1 locs1 cells slots Q (F0 m (pc + 1) ls rest)) : W p l e R s m args below meth c H locs cells slots Q (F0 m pc ls (.int (zI b) :: .int (zI a) :: .ref ad :: rest)) := va_iast hx hb hK hP hD hS q0 t0 ha ht (zI_in hin hn) hd (by rw [zia_up F b (by omega), hw]; exact kk)
theorem z_bast (hx : p.tables.exec = Jvm.exec) (hb : c.code = cc) (hK : va_K D cl tys s) (hP : va_P D cl ws H) (hD : va_D A ws) (hS : va_S A H0 H locs) (q0 t0 : Nat) {cA : ClassId} {n : Nat} {F : Int → Int} (ha : ws[q0]? = some (ad, .inl (cA, n, .inl (zia F)))) (ht : tys[t0]? = some (cA, .byte)) (hn : n < 2147483648) (hd : decode cc pc = .ok (.bastore, 1)) {ws' : va_W} (hw : ws.set q0 (ad, .inl (cA, n, .inl (zia (zup F a b)))) = ws') (hin : 0 ≤ a ∧ a < n) (hr : vp_nar .byte (zI b) = zI b)
    (kk : ∀ (H1 : Heap) (locs1 : List Loc), va_P D cl ws' H1 → va_D A ws' → va_S A H0 H1 locs1 → W p l e R s m args below meth c H1 locs1 cells slots Q (F0 m (pc + 1) ls rest)) : W p l e R s m args below meth c H locs cells slots Q (F0 m pc ls (.int (zI b) :: .int (zI a) :: .ref ad :: rest)) := va_bast hx hb hK hP hD hS q0 t0 ha ht (zI_in hin hn) hd (by rw [hr, zia_up F b (by omega), hw]; exact kk)
theorem z_zast (hx : p.tables.exec = Jvm.exec) (hb : c.code = cc) (hK : va_K D cl tys s) (hP : va_P D cl ws H) (hD : va_D A ws) (hS : va_S A H0 H locs) (q0 t0 : Nat) {cA : ClassId} {n : Nat} {F : Int → Int} (ha : ws[q0]? = some (ad, .inl (cA, n, .inl (zia F)))) (ht : tys[t0]? = some (cA, .boolean)) (hn : n < 2147483648) (hd : decode cc pc = .ok (.bastore, 1)) {ws' : va_W} (hw : ws.set q0 (ad, .inl (cA, n, .inl (zia (zup F a b)))) = ws') (hin : 0 ≤ a ∧ a < n) (hr : vp_nar .boolean (zI b) = zI b)
    (kk : ∀ (H1 : Heap) (locs1 : List Loc), va_P D cl ws' H1 → va_D A ws' → va_S A H0 H1 locs1 → W p l e R s m args below meth c H1 locs1 cells slots Q (F0 m (pc + 1) ls rest)) : W p l e R s m args below meth c H locs cells slots Q (F0 m pc ls (.int (zI b) :: .int (zI a) :: .ref ad :: rest)) := va_zast hx hb hK hP hD hS q0 t0 ha ht (zI_in hin hn) hd (by rw [hr, zia_up F b (by omega), hw]; exact kk)
theorem z_put (hx : p.tables.exec = Jvm.exec) (hb : c.code = cc) {own ref C : String} {T : u_T} {N ci index : Nat} {Ts : List Cond} (hts : ∀ w ∈ Ts, w.before args s = true) (hin : ∀ w ∈ u_ws C T N, w ∈ Ts) (ty0 : Nat → FieldType) (hty : ∀ k, k < N → parseFieldDescriptor (T k).2.2.1 = some (ty0 k)) (hnm : ∀ a, a < N → ∀ b, b < N → a ≠ b → (T a).2.1 ≠ (T b).2.1) (hown : s.vm.findClass own = some m.cls) (hK : va_K D cl tys s) (hP : va_P D cl ws H) (hD : va_D A ws) (hS0 : va_S A H0 H locs) (q0 : Nat) {fs : List Value} (he : ws[q0]? = some (ad, .inr (ci, fs))) (hc : cl[ci]? = some (C, T, N)) (k : Nat) (hk : k < N) (hlink : (Cond.fieldLink own index ref (T k).2.1 (T k).2.2.1).before args s = true) (hsame : ∀ x, s.fieldFound? (T k).1 (T k).2.1 (T k).2.2.1 = some x → s.fieldFound? ref (T k).2.1 (T k).2.2.1 = some x) (hfin : (T k).2.2.2 = false) {ty : FieldType} {v : Value} (hd : parseFieldDescriptor (T k).2.2.1 = some ty) (hn : narrow ty v = v) (hfit : fits ty v = true) (hl : k < fs.length) (hdg : decode cc pc = .ok (.putfield index, 3)) {ws' : va_W} (hw : ws.set q0 (ad, .inr (ci, fs.set k v)) = ws')
    (kk : ∀ (H1 : Heap) (locs1 : List Loc), va_P D cl ws' H1 → va_D A ws' → va_S A H0 H1 locs1 → W p l e R s m args below meth c H1 locs1 cells slots Q (F0 m (pc + 3) ls rest)) : W p l e R s m args below meth c H locs cells slots Q (F0 m pc ls (v :: .ref ad :: rest)) := va_put hx hb hts hin ty0 hty hnm hown hK hP hD hS0 q0 he hc k hk hlink hsame hfin hd hn hfit hl hdg (by rw [hw]; exact kk)
end ZROWS
/-! ===== the nest mates' links: they ride beside the words ===== -/
def nestW : List Cond := [.fieldLinkNest RX4 44 "BedHouse$Text" "length" "I" "BedHouse", .fieldLinkNest RX4 56 "BedHouse$Search" "surveyed" "Z" "BedHouse", .fieldLinkNest RX4 77 "BedHouse$Moment" "home" "I" "BedHouse", .fieldLinkNest RX2 76 "BedHouse$Moment" "home" "I" "BedHouse", .fieldLinkNest RX4 122 "BedHouse$Moment" "day" "I" "BedHouse", .fieldLinkNest RX2 87 "BedHouse$Moment" "day" "I" "BedHouse", .fieldLinkNest RX2 84 "BedHouse$Moment" "acts" "I" "BedHouse", .fieldLinkNest RX4 131 "BedHouse$Moment" "acts" "I" "BedHouse", .fieldLinkNest RX4 128 "BedHouse$Moment" "leaks" "I" "BedHouse", .fieldLinkNest RX4 164 "BedHouse$Moment" "clues" "I" "BedHouse", .fieldLinkNest RX1 88 "BedHouse$Moment" "litHours" "I" "BedHouse", .fieldLinkNest RX4 167 "BedHouse$Moment" "litHours" "I" "BedHouse", .fieldLinkNest RX1 92 "BedHouse$Moment" "darkHours" "I" "BedHouse", .fieldLinkNest RX4 169 "BedHouse$Moment" "darkHours" "I" "BedHouse", .fieldLinkNest RX4 66 "BedHouse$Moment" "kept" "Z" "BedHouse", .fieldLinkNest RX2 26 "BedHouse$Plan" "panels" "I" "BedHouse", .fieldLinkNest RX3 71 "BedHouse$Plan" "panels" "I" "BedHouse", .fieldLinkNest RX4 201 "BedHouse$Plan" "panels" "I" "BedHouse", .fieldLinkNest RX4 60 "BedHouse$Plan" "toldHouse" "I" "BedHouse", .fieldLinkNest RX3 78 "BedHouse$Plan" "toldHouse" "I" "BedHouse", .fieldLinkNest RX3 62 "BedHouse$Plan" "beams" "I" "BedHouse", .fieldLinkNest RX4 204 "BedHouse$Plan" "beams" "I" "BedHouse", .fieldLinkNest RX4 90 "BedHouse$Plan" "rain" "I" "BedHouse", .fieldLinkNest RX3 92 "BedHouse$Plan" "rain" "I" "BedHouse", .fieldLinkNest RX4 93 "BedHouse$Plan" "sun" "I" "BedHouse", .fieldLinkNest RX3 95 "BedHouse$Plan" "sun" "I" "BedHouse", .fieldLinkNest RX3 65 "BedHouse$Plan" "view" "I" "BedHouse", .fieldLinkNest RX4 96 "BedHouse$Plan" "view" "I" "BedHouse", .fieldLinkNest RX3 68 "BedHouse$Plan" "noise" "I" "BedHouse", .fieldLinkNest RX4 99 "BedHouse$Plan" "noise" "I" "BedHouse", .fieldLinkNest RX4 102 "BedHouse$Plan" "mostLying" "I" "BedHouse", .fieldLinkNest RX3 98 "BedHouse$Plan" "mostLying" "I" "BedHouse", .fieldLinkNest RX4 105 "BedHouse$Plan" "hands" "I" "BedHouse", .fieldLinkNest RX3 101 "BedHouse$Plan" "hands" "I" "BedHouse", .fieldLinkNest RX2 81 "BedHouse$Plan" "hands" "I" "BedHouse", .methodLinkNest RX4 11 yX3_init "BedHouse", .methodLinkNest RX4 18 yX2_init "BedHouse", .methodLinkNest RX4 25 yX0_init "BedHouse", .methodLinkNest RX4 36 yX1_init "BedHouse", .methodLinkNest RX4 48 yX3_append "BedHouse", .methodLinkNest RX4 52 yX3_tell "BedHouse", .methodLinkNest RX3 19 yX1_startAnew "BedHouse", .methodLinkNest RX3 74 yX4_isSlot "BedHouse", .methodLinkNest RX3 81 yX1_panelAt "BedHouse", .methodLinkNest RX1 57 yX4_placeIn "BedHouse", .methodLinkNest RX3 88 yX1_addBeam "BedHouse", .methodLinkNest RX3 104 yX1_addPanel "BedHouse", .methodLinkNest RX1 49 yX4_unitOf "BedHouse", .methodLinkNest RX4 63 yX0_begin "BedHouse", .methodLinkNest RX4 69 yX1_hasPanel "BedHouse", .methodLinkNest RX4 73 yX1_sortOf "BedHouse", .methodLinkNest RX4 87 yX1_panelAt "BedHouse", .methodLinkNest RX4 108 yX1_hasBeam "BedHouse", .methodLinkNest RX4 111 yX1_isBorne "BedHouse", .methodLinkNest RX4 137 yX1_allows "BedHouse", .methodLinkNest RX4 207 yX1_lyingIn "BedHouse", .methodLinkNest RX4 125 yX1_leaksOf "BedHouse", .methodLinkNest RX4 134 yX1_worthOf "BedHouse", .methodLinkNest RX4 141 yX1_litHours "BedHouse", .methodLinkNest RX4 147 yX2_fewestActs "BedHouse", .methodLinkNest RX2 32 yX4_unitOf "BedHouse", .methodLinkNest RX2 36 yX1_allows "BedHouse", .methodLinkNest RX2 53 yX4_placeIn "BedHouse", .methodLinkNest RX2 57 yX4_moved "BedHouse", .methodLinkNest RX4 151 yX2_firstAct "BedHouse", .methodLinkNest RX4 154 yX2_fewestNights "BedHouse", .methodLinkNest RX2 94 yX1_leaksOf "BedHouse", .methodLinkNest RX4 158 yX2_actsToEmpty "BedHouse", .methodLinkNest RX2 97 yX1_slotsUnder "BedHouse", .methodLinkNest RX4 161 yX2_bestHome "BedHouse", .methodLinkNest RX2 101 yX1_worthOf "BedHouse", .methodLinkNest RX4 172 yX2_countFitting "BedHouse", .methodLinkNest RX2 104 yX1_fitsLetter "BedHouse", .methodLinkNest RX4 176 yX2_surePlace "BedHouse", .methodLinkNest RX4 197 yX0_copyFrom "BedHouse"]
def nestLike (w : Cond) : Prop := (∃ a i b n d h, w = .fieldLinkNest a i b n d h) ∨ ∃ a i x h, w = .methodLinkNest a i x h
theorem nestW_like : ∀ w ∈ nestW, nestLike w := by
  intro w hw
  simp only [nestW, List.mem_cons, List.not_mem_nil, or_false] at hw
  unfold nestLike
  rcases hw with rfl | rfl | rfl | rfl | rfl | rfl | rfl | rfl | rfl | rfl | rfl | rfl | rfl | rfl | rfl | rfl | rfl | rfl | rfl | rfl | rfl | rfl | rfl | rfl | rfl | rfl | rfl | rfl | rfl | rfl | rfl | rfl | rfl | rfl | rfl | rfl | rfl | rfl | rfl | rfl | rfl | rfl | rfl | rfl | rfl | rfl | rfl | rfl | rfl | rfl | rfl | rfl | rfl | rfl | rfl | rfl | rfl | rfl | rfl | rfl | rfl | rfl | rfl | rfl | rfl | rfl | rfl | rfl | rfl | rfl | rfl | rfl | rfl | rfl | rfl <;> simp
def NW (U : State) : Prop := ∀ w ∈ nestW, va_Nw w U
theorem NW.warm {s U : State} (hW : s.WarmedH U.vm) (h : NW s) : NW U := by
  intro w hw
  have h1 := h w hw
  rcases nestW_like w hw with ⟨a, i, b, n, d, hh, e⟩ | ⟨a, i, x, hh, e⟩
  · subst e; exact va_Nw.warmF hW h1
  · subst e; exact va_Nw.warmM hW h1
theorem NW.same {u U : State} (hv : u.vm = U.vm) (h : NW u) : NW U := by
  intro w hw
  have h1 := h w hw
  rcases nestW_like w hw with ⟨a, i, b, n, d, hh, e⟩ | ⟨a, i, x, hh, e⟩
  · subst e; exact va_Nw.same rfl hv h1
  · subst e; exact va_Nw.same rfl hv h1
theorem NW.at {U : State} (h : NW U) (k : Nat) {w : Cond} (hk : nestW[k]? = some w) : va_Nw w U := h w (List.mem_of_getElem? hk)
/-! ===== contracts ===== -/
abbrev TYS (cB cI cZ cM : ClassId) : List (ClassId × FieldType) := [(cB, .byte), (cI, .int), (cZ, .boolean), (cM, .object "BedHouse$Moment")]
def MX (p : Program) (s : State) (m : MethodId) (args : Array Value) (meth : Method) (c : Code) (cc : ByteArray) (nL : Nat) (ret : Option FieldType) (own : String) (Ts : List Cond) : Prop :=
  p.tables.exec = Jvm.exec ∧ c.code = cc ∧ meth.sig.returnType = ret ∧ c.maxLocals = nL ∧ s.vm.findClass own = some m.cls ∧ (∀ w ∈ Ts, w.before args s = true) ∧ meth.locks = false ∧ NW s
theorem MX.fix {p : Program} {s : State} {m : MethodId} {args : Array Value} {meth : Method} {c : Code} {cc : ByteArray} {nL : Nat} {ret : Option FieldType} {own : String} {Ts : List Cond} (M : MX p s m args meth c cc nL ret own Ts) : CallFix p m c cc nL s args Ts own := ⟨M.1, M.2.1, M.2.2.2.1, M.2.2.2.2.1, M.2.2.2.2.2.1⟩
def PZ (D : va_G) (tys : List (ClassId × FieldType)) (ws : va_W) (Hp : Heap) : State → Prop := fun U => U.heap = Hp ∧ va_P D vwCl ws Hp ∧ va_K D vwCl tys U ∧ NW U
theorem PZ_blind {D : va_G} {tys : List (ClassId × FieldType)} {ws : va_W} {Hp : Heap} {av : List Value} : FrameBlind (va_Pc av (PZ D tys ws Hp)) :=
  fun a U g mk q => ⟨q.1, q.2.1, q.2.2.1, va_K.moved (u := U) (U := U.calling g mk a) (Vm.Alike.refl U.vm) q.2.2.2.1, q.2.2.2.2.same (u := U) (U := U.calling g mk a) rfl⟩
abbrev rmP (rf rl : Nat) : Room := { frames := rf, cells := 0, slots := 0, locals := rl }
def Qpu (S0 : Heap) (post : Int32 → Prop) : Array Value → State → Outcome → State → Prop := va_Qi (fun r (_ : Unit) => post r) (fun _ t => t.heap = S0) (fun _ => False)
/-- a method that writes nothing: its answer -/
def cP (l : Launch) (y : MethodName) (wl : List Cond) (rf rl : Nat) (D : va_G) (tys : List (ClassId × FieldType)) (av : List Value) (ws : va_W) (Hp : Heap) (post : Int32 → Prop) : Prop :=
  Met l y wl (rmP rf rl) (va_Pc av (PZ D tys ws Hp)) (Qpu Hp post) 0 0 (fun _ => False)
abbrev QP (below : List Frame) (args : Array Value) (s : State) (post : Int32 → Prop) : State → Prop := MQ below (Qpu s.heap post) args s 0 0 (fun _ => False)
theorem pu_start {l : Launch} {y : MethodName} {wl wl' : List Cond} {rf rl maxL : Nat} {D : va_G} {tys : List (ClassId × FieldType)} {av : List Value} {ws : va_W} {Hp : Heap} {post : Int32 → Prop} {cc : ByteArray} {ret : Option FieldType}
    (hy : plainName y.cls = true) (hw : wl = Cond.code y cc maxL ret :: wl') (hlen : (lg_sl av).length ≤ maxL)
    (body : ∀ (p : Program) (e : Env) (s : State) (m : MethodId) (args : Array Value) (below : List Frame) (meth : Method) (c : Code) (ls : Array Slot), MX p s m args meth c cc maxL ret y.cls wl → va_P D vwCl ws s.heap → va_K D vwCl tys s → lv_has ls maxL (lv_args 0 av) →
      W p l e (rmP rf rl) s m args below meth c s.heap [] 0 0 (QP below args s post) (F0 m 0 ls [])) : cP l y wl rf rl D tys av ws Hp post := by
  refine Met.ofW (cc := cc) (maxL := maxL) (ret := ret) hy hw ?_
  intro p e s m args below meth c s₁ B hml hv
  obtain ⟨rfl, hH, hP, hK, hNw⟩ := hv
  subst hH
  have hl := lv_entry av (n := maxL) hlen
  rw [lg_entry_eq]
  exact body p e s m av.toArray below meth c _ ⟨B.exec, B.bytes, B.returns, hml, findClass_of_methodNamed B.named, atoms_spec (ws := wl) B.pre, B.notSynchronized, hNw⟩ hP hK hl
section ZC
variable {p : Program} {l : Launch} {e : Env} {R : Room} {s : State} {m : MethodId} {args : Array Value} {below : List Frame} {meth : Method} {c : Code} {H : Heap} {locs : List Loc} {cells slots : Nat} {Q : State → Prop}
variable {cc : ByteArray} {pc nL : Nat} {ret0 : Option FieldType} {own : String} {Ts : List Cond} {ls : Array Slot} {rest st0 : List Value}
variable {D : va_G} {tys : List (ClassId × FieldType)} {ws : va_W}
theorem pu_ret {post : Int32 → Prop} {v : Int32} (M : MX p s m args meth c cc nL (some .int) own Ts) (hd : decode cc pc = .ok (.ireturn, 1)) (hp : post v) :
    W p l e R s m args below meth c s.heap [] 0 0 (QP below args s post) (F0 m pc ls [.int v]) :=
  W.iret M.1 M.2.1 M.2.2.1 (fun t ht _ => ⟨⟨v, (), rfl, hp, ht⟩, by rw [ht]; exact Nat.le_refl _, fun q _ _ => by rw [ht]⟩) (fun q h => absurd h List.not_mem_nil) hd M.2.2.2.2.2.2.1
theorem pu_retz {post : Int32 → Prop} {v : Int32} {ty : FieldType} (M : MX p s m args meth c cc nL (some ty) own Ts) (hn : narrow ty (.int v) = .int v) (hd : decode cc pc = .ok (.ireturn, 1)) (hp : post v) :
    W p l e R s m args below meth c s.heap [] 0 0 (QP below args s post) (F0 m pc ls [.int v]) :=
  W.zret M.1 M.2.1 M.2.2.1 hn (fun t ht _ => ⟨⟨v, (), rfl, hp, ht⟩, by rw [ht]; exact Nat.le_refl _, fun q _ _ => by rw [ht]⟩) (fun q h => absurd h List.not_mem_nil) hd M.2.2.2.2.2.2.1
theorem pu_call {post : Int32 → Prop} {aa : Array Value} (hr : va_Run p l e R s m args below meth c H locs cells slots 0 0 (F0 m pc ls st0) rest (Qpu H post aa) (fun _ => False))
    (kk : ∀ r : Int32, post r → W p l e R s m args below meth c H locs cells slots Q (F0 m (pc + 3) ls (.int r :: rest))) : W p l e R s m args below meth c H locs cells slots Q (F0 m pc ls st0) := by
  intro T hT X
  obtain ⟨v, st₀, t, T', L, h0, X', hL, e1, e2, ⟨⟨r, u, hv, hp, hb⟩, hz, hk⟩, st⟩ := hr T hT X
  cases hv
  have hLn : L = [] := by
    cases L with
    | nil => rfl
    | cons q L => exact (hL q List.mem_cons_self).elim
  subst hLn
  rw [List.append_nil] at X'
  obtain ⟨t2, a1, b1⟩ := kk r hp T' (e1.trans hb) X'
  exact ⟨t2, st t2 a1, b1⟩
/-- a call by invokevirtual, in the same class, of a method that writes nothing -/
theorem pc_V {post : Int32 → Prop} {y : MethodName} {wl wl' : List Cond} {rf rl n maxL index : Nat} {bytes : ByteArray} {ret : Option FieldType} {C : String} {b : Nat} {As : List Value} {wc : va_W}
    (M : MX p s m args meth c cc nL ret0 own Ts) (hM : cP l y wl rf rl D tys (.ref b :: As) wc H post) (hT : GoodIn Ts (wsV own index C y wl)) (hw : wl = Cond.code y bytes maxL ret :: wl')
    (hd : y.cls = C ∧ y.cls ≠ "java/lang/invoke/MethodHandle" ∧ y.cls ≠ "java/lang/invoke/VarHandle" ∧ (parseMethodDescriptor y.desc).map (fun d => d.parameters.length) = some n) (hR : rf + 1 ≤ R.frames ∧ 8 + (maxL + 11) + rl ≤ R.locals)
    (hK : va_K D vwCl tys s) (hP : va_P D vwCl ws H) (isC : List Nat) (hC : isC.filterMap (fun i => ws[i]?) = wc) (q0 ci : Nat) {fs : List Value} (he : ws[q0]? = some (b, .inr (ci, fs))) {q : vw_C} (hc : vwCl[ci]? = some q) (hq : q.1 = C)
    (hl : ls.size = nL) (hn : As.length = n) (hst : st0 = As.reverse ++ .ref b :: rest) (hW : (rest.map fun v => v.category).sum ≤ 8) (hdg : decode cc pc = .ok (.invokevirtual index, 3)) (hcap : cells ≤ R.cells ∧ slots ≤ R.slots)
    (kk : ∀ r : Int32, post r → W p l e R s m args below meth c H locs cells slots Q (F0 m (pc + 3) ls (.int r :: rest))) : W p l e R s m args below meth c H locs cells slots Q (F0 m pc ls st0) :=
  pu_call (va_runV (As := As) (rest := rest) M.fix hM (cwV n M.2.2.2.2.2.1 hT hw rfl rfl hd hR) ⟨PZ_blind, by rw [← hq]; exact va_recv hK hP hc he, fun U hU hW => ⟨rfl, hU, hP.sub isC hC, va_K.moved hW.alike hK, M.2.2.2.2.2.2.2.warm hW⟩⟩ rfl hn hl hst (lv_room hW) hdg hcap) kk
/-- a static call, in the same class -/
theorem pc_S {post : Int32 → Prop} {y : MethodName} {wl wl' : List Cond} {rf rl n maxL index : Nat} {bytes : ByteArray} {ret : Option FieldType} {As : List Value} {wc : va_W}
    (M : MX p s m args meth c cc nL ret0 own Ts) (hM : cP l y wl rf rl D tys As wc H post) (hT : GoodIn Ts (wsS own index y wl)) (hw : wl = Cond.code y bytes maxL ret :: wl')
    (hd : y.cls = own ∧ y.cls ≠ "java/lang/invoke/MethodHandle" ∧ y.cls ≠ "java/lang/invoke/VarHandle" ∧ (parseMethodDescriptor y.desc).map (fun d => d.parameters.length) = some n) (hR : rf + 1 ≤ R.frames ∧ 8 + (maxL + 11) + rl ≤ R.locals)
    (hK : va_K D vwCl tys s) (hP : va_P D vwCl ws H) (isC : List Nat) (hC : isC.filterMap (fun i => ws[i]?) = wc)
    (hl : ls.size = nL) (hn : As.length = n) (hst : st0 = As.reverse ++ rest) (hW : (rest.map fun v => v.category).sum ≤ 8) (hdg : decode cc pc = .ok (.invokestatic index, 3)) (hcap : cells ≤ R.cells ∧ slots ≤ R.slots)
    (kk : ∀ r : Int32, post r → W p l e R s m args below meth c H locs cells slots Q (F0 m (pc + 3) ls (.int r :: rest))) : W p l e R s m args below meth c H locs cells slots Q (F0 m pc ls st0) :=
  pu_call (va_runS (As := As) (rest := rest) M.fix hM (cwS n M.2.2.2.2.2.1 hT hw rfl rfl hd hR) ⟨PZ_blind, fun U hU hW => ⟨rfl, hU, hP.sub isC hC, va_K.moved hW.alike hK, M.2.2.2.2.2.2.2.warm hW⟩⟩ rfl hn hl hst (lv_room hW) hdg hcap) kk
/-- a static call of a JDK method -/
theorem pc_J {post : Int32 → Prop} {y : MethodName} {wl wl' : List Cond} {rf rl n maxL index : Nat} {bytes : ByteArray} {ret : Option FieldType} {As : List Value} {wc : va_W}
    (M : MX p s m args meth c cc nL ret0 own Ts) (hM : cP l y wl rf rl D tys As wc H post) (hT : GoodIn Ts (va_wsS own index y wl)) (hw : wl = Cond.code y bytes maxL ret :: wl')
    (hd : y.cls ≠ "java/lang/invoke/MethodHandle" ∧ y.cls ≠ "java/lang/invoke/VarHandle" ∧ (parseMethodDescriptor y.desc).map (fun d => d.parameters.length) = some n) (hR : rf + 1 ≤ R.frames ∧ 8 + (maxL + 11) + rl ≤ R.locals)
    (hK : va_K D vwCl tys s) (hP : va_P D vwCl ws H) (isC : List Nat) (hC : isC.filterMap (fun i => ws[i]?) = wc)
    (hl : ls.size = nL) (hn : As.length = n) (hst : st0 = As.reverse ++ rest) (hW : (rest.map fun v => v.category).sum ≤ 8) (hdg : decode cc pc = .ok (.invokestatic index, 3)) (hcap : cells ≤ R.cells ∧ slots ≤ R.slots)
    (kk : ∀ r : Int32, post r → W p l e R s m args below meth c H locs cells slots Q (F0 m (pc + 3) ls (.int r :: rest))) : W p l e R s m args below meth c H locs cells slots Q (F0 m pc ls st0) :=
  pu_call (va_runS (As := As) (rest := rest) M.fix hM (va_cwS n M.2.2.2.2.2.1 hT hw rfl rfl hd hR) ⟨PZ_blind, fun U hU hW => ⟨rfl, hU, hP.sub isC hC, va_K.moved hW.alike hK, M.2.2.2.2.2.2.2.warm hW⟩⟩ rfl hn hl hst (lv_room hW) hdg hcap) kk
/-- a call by invokevirtual of a nest mate's private method -/
theorem pc_VN {post : Int32 → Prop} {y : MethodName} {wl wl' : List Cond} {rf rl n maxL index : Nat} {bytes : ByteArray} {ret : Option FieldType} {C host : String} {b : Nat} {As : List Value} {wc : va_W}
    (M : MX p s m args meth c cc nL ret0 own Ts) (hM : cP l y wl rf rl D tys (.ref b :: As) wc H post) (hT : GoodIn Ts wl) (hw : wl = Cond.code y bytes maxL ret :: wl')
    (hlk : va_Nw (.methodLinkNest own index y host) s) (hin : Cond.initialized y.cls ∈ Ts) (him : Cond.instanceMethod y ∈ Ts) (hse : Cond.selects C y y ∈ Ts)
    (hd : y.cls ≠ "java/lang/invoke/MethodHandle" ∧ y.cls ≠ "java/lang/invoke/VarHandle" ∧ (parseMethodDescriptor y.desc).map (fun d => d.parameters.length) = some n) (hR : rf + 1 ≤ R.frames ∧ 8 + (maxL + 11) + rl ≤ R.locals)
    (hK : va_K D vwCl tys s) (hP : va_P D vwCl ws H) (isC : List Nat) (hC : isC.filterMap (fun i => ws[i]?) = wc) (q0 ci : Nat) {fs : List Value} (he : ws[q0]? = some (b, .inr (ci, fs))) {q : vw_C} (hc : vwCl[ci]? = some q) (hq : q.1 = C)
    (hl : ls.size = nL) (hn : As.length = n) (hst : st0 = As.reverse ++ .ref b :: rest) (hW : (rest.map fun v => v.category).sum ≤ 8) (hdg : decode cc pc = .ok (.invokevirtual index, 3)) (hcap : cells ≤ R.cells ∧ slots ≤ R.slots)
    (kk : ∀ r : Int32, post r → W p l e R s m args below meth c H locs cells slots Q (F0 m (pc + 3) ls (.int r :: rest))) : W p l e R s m args below meth c H locs cells slots Q (F0 m pc ls st0) :=
  pu_call (va_runVN (As := As) (rest := rest) M.fix hM ⟨va_cnB n M.2.2.2.2.2.1 hT hw rfl rfl hlk (M.2.2.2.2.2.1 _ hin) hd hR, M.2.2.2.2.2.1 _ him, M.2.2.2.2.2.1 _ hse⟩ ⟨PZ_blind, by rw [← hq]; exact va_recv hK hP hc he, fun U hU hW => ⟨rfl, hU, hP.sub isC hC, va_K.moved hW.alike hK, M.2.2.2.2.2.2.2.warm hW⟩⟩ rfl hn hl hst (lv_room hW) hdg hcap) kk
/-- a static call of a nest mate's private method -/
theorem pc_SN {post : Int32 → Prop} {y : MethodName} {wl wl' : List Cond} {rf rl n maxL index : Nat} {bytes : ByteArray} {ret : Option FieldType} {host : String} {As : List Value} {wc : va_W}
    (M : MX p s m args meth c cc nL ret0 own Ts) (hM : cP l y wl rf rl D tys As wc H post) (hT : GoodIn Ts wl) (hw : wl = Cond.code y bytes maxL ret :: wl')
    (hlk : va_Nw (.methodLinkNest own index y host) s) (hin : Cond.initialized y.cls ∈ Ts) (hsm : Cond.static y ∈ Ts)
    (hd : y.cls ≠ "java/lang/invoke/MethodHandle" ∧ y.cls ≠ "java/lang/invoke/VarHandle" ∧ (parseMethodDescriptor y.desc).map (fun d => d.parameters.length) = some n) (hR : rf + 1 ≤ R.frames ∧ 8 + (maxL + 11) + rl ≤ R.locals)
    (hK : va_K D vwCl tys s) (hP : va_P D vwCl ws H) (isC : List Nat) (hC : isC.filterMap (fun i => ws[i]?) = wc)
    (hl : ls.size = nL) (hn : As.length = n) (hst : st0 = As.reverse ++ rest) (hW : (rest.map fun v => v.category).sum ≤ 8) (hdg : decode cc pc = .ok (.invokestatic index, 3)) (hcap : cells ≤ R.cells ∧ slots ≤ R.slots)
    (kk : ∀ r : Int32, post r → W p l e R s m args below meth c H locs cells slots Q (F0 m (pc + 3) ls (.int r :: rest))) : W p l e R s m args below meth c H locs cells slots Q (F0 m pc ls st0) :=
  pu_call (va_runSN (As := As) (rest := rest) M.fix hM ⟨va_cnB n M.2.2.2.2.2.1 hT hw rfl rfl hlk (M.2.2.2.2.2.1 _ hin) hd hR, M.2.2.2.2.2.1 _ hsm, trivial⟩ ⟨PZ_blind, fun U hU hW => ⟨rfl, hU, hP.sub isC hC, va_K.moved hW.alike hK, M.2.2.2.2.2.2.2.warm hW⟩⟩ rfl hn hl hst (lv_room hW) hdg hcap) kk
end ZC
/-! ===== contracts of methods that write ===== -/
def PZD (D : va_G) (tys : List (ClassId × FieldType)) (ws : va_W) (Hp : Heap) : State → Prop := fun U => U.heap = Hp ∧ va_P D vwCl ws Hp ∧ va_K D vwCl tys U ∧ NW U ∧ va_D (fun _ => True) ws
theorem PZD_blind {D : va_G} {tys : List (ClassId × FieldType)} {ws : va_W} {Hp : Heap} {av : List Value} : FrameBlind (va_Pc av (PZD D tys ws Hp)) :=
  fun a U g mk q => ⟨q.1, q.2.1, q.2.2.1, va_K.moved (u := U) (U := U.calling g mk a) (Vm.Alike.refl U.vm) q.2.2.2.1, q.2.2.2.2.1.same (u := U) (U := U.calling g mk a) rfl, q.2.2.2.2.2⟩
abbrev rmW (rf mc ms rl : Nat) : Room := { frames := rf, cells := mc, slots := ms, locals := rl }
def Qwi {S : Type} (A : Nat → Prop) (D : va_G) (post : Int32 → S → Prop) (w1 : S → va_W) : Array Value → State → Outcome → State → Prop := va_Qi post (fun u t => va_P D vwCl (w1 u) t.heap ∧ va_D A (w1 u)) A
def Qwv {S : Type} (A : Nat → Prop) (D : va_G) (post : S → Prop) (w1 : S → va_W) : Array Value → State → Outcome → State → Prop := va_Qv post (fun u t => va_P D vwCl (w1 u) t.heap ∧ va_D A (w1 u)) A
/-- a method that writes, and answers an int -/
def cWi {S : Type} (l : Launch) (y : MethodName) (wl : List Cond) (rm : Room) (D : va_G) (tys : List (ClassId × FieldType)) (av : List Value) (ws : va_W) (Hp : Heap) (post : Int32 → S → Prop) (w1 : S → va_W) (mc ms : Nat) : Prop :=
  Met l y wl rm (va_Pc av (PZD D tys ws Hp)) (Qwi (va_A ws Hp.size) D post w1) mc ms (va_A ws Hp.size)
/-- a method that writes, and answers nothing -/
def cWv {S : Type} (l : Launch) (y : MethodName) (wl : List Cond) (rm : Room) (D : va_G) (tys : List (ClassId × FieldType)) (av : List Value) (ws : va_W) (Hp : Heap) (post : S → Prop) (w1 : S → va_W) (mc ms : Nat) : Prop :=
  Met l y wl rm (va_Pc av (PZD D tys ws Hp)) (Qwv (va_A ws Hp.size) D post w1) mc ms (va_A ws Hp.size)
abbrev QWi {S : Type} (below : List Frame) (args : Array Value) (s : State) (A : Nat → Prop) (D : va_G) (post : Int32 → S → Prop) (w1 : S → va_W) (mc ms : Nat) : State → Prop := MQ below (Qwi A D post w1) args s mc ms A
abbrev QWv {S : Type} (below : List Frame) (args : Array Value) (s : State) (A : Nat → Prop) (D : va_G) (post : S → Prop) (w1 : S → va_W) (mc ms : Nat) : State → Prop := MQ below (Qwv A D post w1) args s mc ms A
theorem wr_starti {S : Type} {l : Launch} {y : MethodName} {wl wl' : List Cond} {rm : Room} {maxL mc ms : Nat} {D : va_G} {tys : List (ClassId × FieldType)} {av : List Value} {ws : va_W} {Hp : Heap} {post : Int32 → S → Prop} {w1 : S → va_W} {cc : ByteArray} {ret : Option FieldType}
    (hy : plainName y.cls = true) (hw : wl = Cond.code y cc maxL ret :: wl') (hlen : (lg_sl av).length ≤ maxL)
    (body : ∀ (p : Program) (e : Env) (s : State) (m : MethodId) (args : Array Value) (below : List Frame) (meth : Method) (c : Code) (ls : Array Slot) (A : Nat → Prop), MX p s m args meth c cc maxL ret y.cls wl → va_P D vwCl ws s.heap → va_D A ws → va_S A s.heap s.heap [] → (∀ q : Nat, s.heap.size ≤ q → A q) → va_K D vwCl tys s → lv_has ls maxL (lv_args 0 av) →
      W p l e rm s m args below meth c s.heap [] 0 0 (QWi below args s A D post w1 mc ms) (F0 m 0 ls [])) : cWi l y wl rm D tys av ws Hp post w1 mc ms := by
  refine Met.ofW (cc := cc) (maxL := maxL) (ret := ret) hy hw ?_
  intro p e s m args below meth c s₁ B hml hv
  obtain ⟨rfl, hH, hP, hK, hNw, hD0⟩ := hv
  subst hH
  have hl := lv_entry av (n := maxL) hlen
  rw [lg_entry_eq]
  exact body p e s m av.toArray below meth c _ _ ⟨B.exec, B.bytes, B.returns, hml, findClass_of_methodNamed B.named, atoms_spec (ws := wl) B.pre, B.notSynchronized, hNw⟩ hP hD0.self va_S.rf (fun q h => Or.inr h) hK hl
theorem wr_startv {S : Type} {l : Launch} {y : MethodName} {wl wl' : List Cond} {rm : Room} {maxL mc ms : Nat} {D : va_G} {tys : List (ClassId × FieldType)} {av : List Value} {ws : va_W} {Hp : Heap} {post : S → Prop} {w1 : S → va_W} {cc : ByteArray} {ret : Option FieldType}
    (hy : plainName y.cls = true) (hw : wl = Cond.code y cc maxL ret :: wl') (hlen : (lg_sl av).length ≤ maxL)
    (body : ∀ (p : Program) (e : Env) (s : State) (m : MethodId) (args : Array Value) (below : List Frame) (meth : Method) (c : Code) (ls : Array Slot) (A : Nat → Prop), MX p s m args meth c cc maxL ret y.cls wl → va_P D vwCl ws s.heap → va_D A ws → va_S A s.heap s.heap [] → (∀ q : Nat, s.heap.size ≤ q → A q) → va_K D vwCl tys s → lv_has ls maxL (lv_args 0 av) →
      W p l e rm s m args below meth c s.heap [] 0 0 (QWv below args s A D post w1 mc ms) (F0 m 0 ls [])) : cWv l y wl rm D tys av ws Hp post w1 mc ms := by
  refine Met.ofW (cc := cc) (maxL := maxL) (ret := ret) hy hw ?_
  intro p e s m args below meth c s₁ B hml hv
  obtain ⟨rfl, hH, hP, hK, hNw, hD0⟩ := hv
  subst hH
  have hl := lv_entry av (n := maxL) hlen
  rw [lg_entry_eq]
  exact body p e s m av.toArray below meth c _ _ ⟨B.exec, B.bytes, B.returns, hml, findClass_of_methodNamed B.named, atoms_spec (ws := wl) B.pre, B.notSynchronized, hNw⟩ hP hD0.self va_S.rf (fun q h => Or.inr h) hK hl
theorem fm_of_map {α : Type} {is : List Nat} {ws ws' : List α} (h : is.map (fun i => ws[i]?) = ws'.map some) : is.filterMap (fun i => ws[i]?) = ws' := by
  have h2 : (is.map (fun i => ws[i]?)).filterMap id = ws' := by
    rw [h, List.filterMap_map]
    simp
  rw [List.filterMap_map] at h2
  simpa using h2
section ZW
variable {p : Program} {l : Launch} {e : Env} {R : Room} {s : State} {m : MethodId} {args : Array Value} {below : List Frame} {meth : Method} {c : Code} {H : Heap} {locs : List Loc} {cells slots : Nat} {Q : State → Prop}
variable {cc : ByteArray} {pc nL : Nat} {ret0 : Option FieldType} {own : String} {Ts : List Cond} {ls : Array Slot} {rest st0 : List Value}
variable {D : va_G} {tys : List (ClassId × FieldType)} {ws wc wr : va_W} {A : Nat → Prop} {S : Type} {w1 ws' : S → va_W} {mc ms : Nat}
theorem wr_reti {post : Int32 → S → Prop} {v : Int32} {u : S} (M : MX p s m args meth c cc nL (some .int) own Ts) (hd : decode cc pc = .ok (.ireturn, 1)) (hp : post v u) (hP : va_P D vwCl (w1 u) H) (hD : va_D A (w1 u)) (hS : va_S A s.heap H locs) :
    W p l e R s m args below meth c H locs mc ms (QWi below args s A D post w1 mc ms) (F0 m pc ls [.int v]) :=
  W.iret M.1 M.2.1 M.2.2.1 (fun t ht _ => ⟨⟨v, u, rfl, hp, by rw [ht]; exact hP, hD⟩, hS.F ht⟩) hS.2.2 hd M.2.2.2.2.2.2.1
theorem wr_retz {post : Int32 → S → Prop} {v : Int32} {u : S} {ty : FieldType} (M : MX p s m args meth c cc nL (some ty) own Ts) (hn : narrow ty (.int v) = .int v) (hd : decode cc pc = .ok (.ireturn, 1)) (hp : post v u) (hP : va_P D vwCl (w1 u) H) (hD : va_D A (w1 u)) (hS : va_S A s.heap H locs) :
    W p l e R s m args below meth c H locs mc ms (QWi below args s A D post w1 mc ms) (F0 m pc ls [.int v]) :=
  W.zret M.1 M.2.1 M.2.2.1 hn (fun t ht _ => ⟨⟨v, u, rfl, hp, by rw [ht]; exact hP, hD⟩, hS.F ht⟩) hS.2.2 hd M.2.2.2.2.2.2.1
theorem wr_retv {post : S → Prop} {u : S} (M : MX p s m args meth c cc nL none own Ts) (hd : decode cc pc = .ok (.return_, 1)) (hp : post u) (hP : va_P D vwCl (w1 u) H) (hD : va_D A (w1 u)) (hS : va_S A s.heap H locs) :
    W p l e R s m args below meth c H locs mc ms (QWv below args s A D post w1 mc ms) (F0 m pc ls []) :=
  W.vret M.1 M.2.1 M.2.2.1 (fun t ht _ => ⟨⟨u, rfl, hp, by rw [ht]; exact hP, hD⟩, hS.F ht⟩) hS.2.2 hd M.2.2.2.2.2.2.1
theorem wr_calli {post : Int32 → S → Prop} {aa : Array Value} (hr : va_Run p l e R s m args below meth c H locs cells slots 0 0 (F0 m pc ls st0) rest (Qwi (va_A wc H.size) D post w1 aa) (va_A wc H.size))
    (hP : va_P D vwCl ws H) (hD : va_D A ws) (hS : va_S A s.heap H locs) (hA : ∀ q : Nat, s.heap.size ≤ q → A q) (isC isR perm : List Nat) (hC : isC.map (fun i => ws[i]?) = wc.map some) (hR : isR.map (fun i => ws[i]?) = wr.map some) (hn : va_nd isR = true) (hdis : ∀ i ∈ isR, i ∉ isC) (hpn : va_nd perm = true) (hperm : ∀ u : S, perm.map (fun i => (wr ++ w1 u)[i]?) = (ws' u).map some)
    (kk : ∀ (r : Int32) (u : S) (H1 : Heap) (locs1 : List Loc), post r u → va_P D vwCl (ws' u) H1 → va_D A (ws' u) → va_S A s.heap H1 locs1 → W p l e R s m args below meth c H1 locs1 cells slots Q (F0 m (pc + 3) ls (.int r :: rest))) : W p l e R s m args below meth c H locs cells slots Q (F0 m pc ls st0) := by
  have hF := va_free (wc := wc) hD hS hA isC hC
  refine va_calli hr hS (fun q _ h => hF q h) hF (fun r u t H1 locs1 ht hvm hp hB hz hk hS1 => ?_)
  obtain ⟨hP1, hD1⟩ := hB
  rw [ht] at hP1
  obtain ⟨hP2, hD2⟩ := va_join (wr := wr) (w1 := w1 u) hP hD isC isR hC hR hn hdis hk hF hP1 hD1
  exact kk r u H1 locs1 hp (hP2.sub perm (fm_of_map (hperm u))) (hD2.sub perm hpn (hperm u)) hS1
theorem wr_callv {post : S → Prop} {aa : Array Value} (hr : va_Run p l e R s m args below meth c H locs cells slots 0 0 (F0 m pc ls st0) rest (Qwv (va_A wc H.size) D post w1 aa) (va_A wc H.size))
    (hP : va_P D vwCl ws H) (hD : va_D A ws) (hS : va_S A s.heap H locs) (hA : ∀ q : Nat, s.heap.size ≤ q → A q) (isC isR perm : List Nat) (hC : isC.map (fun i => ws[i]?) = wc.map some) (hR : isR.map (fun i => ws[i]?) = wr.map some) (hn : va_nd isR = true) (hdis : ∀ i ∈ isR, i ∉ isC) (hpn : va_nd perm = true) (hperm : ∀ u : S, perm.map (fun i => (wr ++ w1 u)[i]?) = (ws' u).map some)
    (kk : ∀ (u : S) (H1 : Heap) (locs1 : List Loc), post u → va_P D vwCl (ws' u) H1 → va_D A (ws' u) → va_S A s.heap H1 locs1 → W p l e R s m args below meth c H1 locs1 cells slots Q (F0 m (pc + 3) ls rest)) : W p l e R s m args below meth c H locs cells slots Q (F0 m pc ls st0) := by
  have hF := va_free (wc := wc) hD hS hA isC hC
  refine va_callv hr hS (fun q _ h => hF q h) hF (fun u t H1 locs1 ht hvm hp hB hz hk hS1 => ?_)
  obtain ⟨hP1, hD1⟩ := hB
  rw [ht] at hP1
  obtain ⟨hP2, hD2⟩ := va_join (wr := wr) (w1 := w1 u) hP hD isC isR hC hR hn hdis hk hF hP1 hD1
  exact kk u H1 locs1 hp (hP2.sub perm (fm_of_map (hperm u))) (hD2.sub perm hpn (hperm u)) hS1
theorem wc_Vi {post : Int32 → S → Prop} {y : MethodName} {wl wl' : List Cond} {rf rl n maxL index : Nat} {bytes : ByteArray} {ret : Option FieldType} {C : String} {b : Nat} {As : List Value}
    (M : MX p s m args meth c cc nL ret0 own Ts) (hM : cWi l y wl (rmW rf 0 0 rl) D tys (.ref b :: As) wc H post w1 0 0) (hT : GoodIn Ts (wsV own index C y wl)) (hw : wl = Cond.code y bytes maxL ret :: wl') (hd : y.cls = C ∧ y.cls ≠ "java/lang/invoke/MethodHandle" ∧ y.cls ≠ "java/lang/invoke/VarHandle" ∧ (parseMethodDescriptor y.desc).map (fun d => d.parameters.length) = some n) (hR0 : rf + 1 ≤ R.frames ∧ 8 + (maxL + 11) + rl ≤ R.locals)
    (hK : va_K D vwCl tys s) (hP : va_P D vwCl ws H) (hD : va_D A ws) (hS : va_S A s.heap H locs) (hA : ∀ q : Nat, s.heap.size ≤ q → A q) (isC isR perm : List Nat) (hC : isC.map (fun i => ws[i]?) = wc.map some) (hR : isR.map (fun i => ws[i]?) = wr.map some) (hn1 : va_nd isR = true) (hdis : ∀ i ∈ isR, i ∉ isC) (hpn : va_nd perm = true) (hperm : ∀ u : S, perm.map (fun i => (wr ++ w1 u)[i]?) = (ws' u).map some) (q0 ci : Nat) {fs : List Value} (he : ws[q0]? = some (b, .inr (ci, fs))) {q : vw_C} (hc : vwCl[ci]? = some q) (hq : q.1 = C)
    (hl : ls.size = nL) (hn : As.length = n) (hst : st0 = As.reverse ++ .ref b :: rest) (hW : (rest.map fun v => v.category).sum ≤ 8) (hdg : decode cc pc = .ok (.invokevirtual index, 3)) (hcap : cells ≤ R.cells ∧ slots ≤ R.slots) (hnC : va_nd isC = true)
    (kk : ∀ (r : Int32) (u : S) (H1 : Heap) (locs1 : List Loc), post r u → va_P D vwCl (ws' u) H1 → va_D A (ws' u) → va_S A s.heap H1 locs1 → W p l e R s m args below meth c H1 locs1 cells slots Q (F0 m (pc + 3) ls (.int r :: rest))) : W p l e R s m args below meth c H locs cells slots Q (F0 m pc ls st0) :=
  wr_calli (wc := wc) (va_runV (As := As) (rest := rest) M.fix hM (cwV n M.2.2.2.2.2.1 hT hw rfl rfl hd hR0) ⟨PZD_blind, by rw [← hq]; exact va_recv hK hP hc he, fun U hU hW => ⟨rfl, hU, hP.sub isC (fm_of_map hC), va_K.moved hW.alike hK, M.2.2.2.2.2.2.2.warm hW, (hD.sub isC (hnC) hC).weaken (fun _ _ _ _ => trivial)⟩⟩ rfl hn hl hst (lv_room hW) hdg hcap) hP hD hS hA isC isR perm hC hR hn1 hdis hpn hperm kk
theorem wc_Vv {post : S → Prop} {y : MethodName} {wl wl' : List Cond} {rf rl n maxL index : Nat} {bytes : ByteArray} {ret : Option FieldType} {C : String} {b : Nat} {As : List Value}
    (M : MX p s m args meth c cc nL ret0 own Ts) (hM : cWv l y wl (rmW rf 0 0 rl) D tys (.ref b :: As) wc H post w1 0 0) (hT : GoodIn Ts (wsV own index C y wl)) (hw : wl = Cond.code y bytes maxL ret :: wl') (hd : y.cls = C ∧ y.cls ≠ "java/lang/invoke/MethodHandle" ∧ y.cls ≠ "java/lang/invoke/VarHandle" ∧ (parseMethodDescriptor y.desc).map (fun d => d.parameters.length) = some n) (hR0 : rf + 1 ≤ R.frames ∧ 8 + (maxL + 11) + rl ≤ R.locals)
    (hK : va_K D vwCl tys s) (hP : va_P D vwCl ws H) (hD : va_D A ws) (hS : va_S A s.heap H locs) (hA : ∀ q : Nat, s.heap.size ≤ q → A q) (isC isR perm : List Nat) (hC : isC.map (fun i => ws[i]?) = wc.map some) (hR : isR.map (fun i => ws[i]?) = wr.map some) (hn1 : va_nd isR = true) (hdis : ∀ i ∈ isR, i ∉ isC) (hpn : va_nd perm = true) (hperm : ∀ u : S, perm.map (fun i => (wr ++ w1 u)[i]?) = (ws' u).map some) (q0 ci : Nat) {fs : List Value} (he : ws[q0]? = some (b, .inr (ci, fs))) {q : vw_C} (hc : vwCl[ci]? = some q) (hq : q.1 = C)
    (hl : ls.size = nL) (hn : As.length = n) (hst : st0 = As.reverse ++ .ref b :: rest) (hW : (rest.map fun v => v.category).sum ≤ 8) (hdg : decode cc pc = .ok (.invokevirtual index, 3)) (hcap : cells ≤ R.cells ∧ slots ≤ R.slots) (hnC : va_nd isC = true)
    (kk : ∀ (u : S) (H1 : Heap) (locs1 : List Loc), post u → va_P D vwCl (ws' u) H1 → va_D A (ws' u) → va_S A s.heap H1 locs1 → W p l e R s m args below meth c H1 locs1 cells slots Q (F0 m (pc + 3) ls rest)) : W p l e R s m args below meth c H locs cells slots Q (F0 m pc ls st0) :=
  wr_callv (wc := wc) (va_runV (As := As) (rest := rest) M.fix hM (cwV n M.2.2.2.2.2.1 hT hw rfl rfl hd hR0) ⟨PZD_blind, by rw [← hq]; exact va_recv hK hP hc he, fun U hU hW => ⟨rfl, hU, hP.sub isC (fm_of_map hC), va_K.moved hW.alike hK, M.2.2.2.2.2.2.2.warm hW, (hD.sub isC (hnC) hC).weaken (fun _ _ _ _ => trivial)⟩⟩ rfl hn hl hst (lv_room hW) hdg hcap) hP hD hS hA isC isR perm hC hR hn1 hdis hpn hperm kk
theorem wc_VNi {post : Int32 → S → Prop} {y : MethodName} {wl wl' : List Cond} {rf rl n maxL index : Nat} {bytes : ByteArray} {ret : Option FieldType} {C host : String} {b : Nat} {As : List Value}
    (M : MX p s m args meth c cc nL ret0 own Ts) (hM : cWi l y wl (rmW rf 0 0 rl) D tys (.ref b :: As) wc H post w1 0 0) (hT : GoodIn Ts wl) (hw : wl = Cond.code y bytes maxL ret :: wl') (hlk : va_Nw (.methodLinkNest own index y host) s) (hin : Cond.initialized y.cls ∈ Ts) (him : Cond.instanceMethod y ∈ Ts) (hse : Cond.selects C y y ∈ Ts) (hd : y.cls ≠ "java/lang/invoke/MethodHandle" ∧ y.cls ≠ "java/lang/invoke/VarHandle" ∧ (parseMethodDescriptor y.desc).map (fun d => d.parameters.length) = some n) (hR0 : rf + 1 ≤ R.frames ∧ 8 + (maxL + 11) + rl ≤ R.locals)
    (hK : va_K D vwCl tys s) (hP : va_P D vwCl ws H) (hD : va_D A ws) (hS : va_S A s.heap H locs) (hA : ∀ q : Nat, s.heap.size ≤ q → A q) (isC isR perm : List Nat) (hC : isC.map (fun i => ws[i]?) = wc.map some) (hR : isR.map (fun i => ws[i]?) = wr.map some) (hn1 : va_nd isR = true) (hdis : ∀ i ∈ isR, i ∉ isC) (hpn : va_nd perm = true) (hperm : ∀ u : S, perm.map (fun i => (wr ++ w1 u)[i]?) = (ws' u).map some) (q0 ci : Nat) {fs : List Value} (he : ws[q0]? = some (b, .inr (ci, fs))) {q : vw_C} (hc : vwCl[ci]? = some q) (hq : q.1 = C)
    (hl : ls.size = nL) (hn : As.length = n) (hst : st0 = As.reverse ++ .ref b :: rest) (hW : (rest.map fun v => v.category).sum ≤ 8) (hdg : decode cc pc = .ok (.invokevirtual index, 3)) (hcap : cells ≤ R.cells ∧ slots ≤ R.slots) (hnC : va_nd isC = true)
    (kk : ∀ (r : Int32) (u : S) (H1 : Heap) (locs1 : List Loc), post r u → va_P D vwCl (ws' u) H1 → va_D A (ws' u) → va_S A s.heap H1 locs1 → W p l e R s m args below meth c H1 locs1 cells slots Q (F0 m (pc + 3) ls (.int r :: rest))) : W p l e R s m args below meth c H locs cells slots Q (F0 m pc ls st0) :=
  wr_calli (wc := wc) (va_runVN (As := As) (rest := rest) M.fix hM ⟨va_cnB n M.2.2.2.2.2.1 hT hw rfl rfl hlk (M.2.2.2.2.2.1 _ hin) hd hR0, M.2.2.2.2.2.1 _ him, M.2.2.2.2.2.1 _ hse⟩ ⟨PZD_blind, by rw [← hq]; exact va_recv hK hP hc he, fun U hU hW => ⟨rfl, hU, hP.sub isC (fm_of_map hC), va_K.moved hW.alike hK, M.2.2.2.2.2.2.2.warm hW, (hD.sub isC (hnC) hC).weaken (fun _ _ _ _ => trivial)⟩⟩ rfl hn hl hst (lv_room hW) hdg hcap) hP hD hS hA isC isR perm hC hR hn1 hdis hpn hperm kk
theorem wc_VNv {post : S → Prop} {y : MethodName} {wl wl' : List Cond} {rf rl n maxL index : Nat} {bytes : ByteArray} {ret : Option FieldType} {C host : String} {b : Nat} {As : List Value}
    (M : MX p s m args meth c cc nL ret0 own Ts) (hM : cWv l y wl (rmW rf 0 0 rl) D tys (.ref b :: As) wc H post w1 0 0) (hT : GoodIn Ts wl) (hw : wl = Cond.code y bytes maxL ret :: wl') (hlk : va_Nw (.methodLinkNest own index y host) s) (hin : Cond.initialized y.cls ∈ Ts) (him : Cond.instanceMethod y ∈ Ts) (hse : Cond.selects C y y ∈ Ts) (hd : y.cls ≠ "java/lang/invoke/MethodHandle" ∧ y.cls ≠ "java/lang/invoke/VarHandle" ∧ (parseMethodDescriptor y.desc).map (fun d => d.parameters.length) = some n) (hR0 : rf + 1 ≤ R.frames ∧ 8 + (maxL + 11) + rl ≤ R.locals)
    (hK : va_K D vwCl tys s) (hP : va_P D vwCl ws H) (hD : va_D A ws) (hS : va_S A s.heap H locs) (hA : ∀ q : Nat, s.heap.size ≤ q → A q) (isC isR perm : List Nat) (hC : isC.map (fun i => ws[i]?) = wc.map some) (hR : isR.map (fun i => ws[i]?) = wr.map some) (hn1 : va_nd isR = true) (hdis : ∀ i ∈ isR, i ∉ isC) (hpn : va_nd perm = true) (hperm : ∀ u : S, perm.map (fun i => (wr ++ w1 u)[i]?) = (ws' u).map some) (q0 ci : Nat) {fs : List Value} (he : ws[q0]? = some (b, .inr (ci, fs))) {q : vw_C} (hc : vwCl[ci]? = some q) (hq : q.1 = C)
    (hl : ls.size = nL) (hn : As.length = n) (hst : st0 = As.reverse ++ .ref b :: rest) (hW : (rest.map fun v => v.category).sum ≤ 8) (hdg : decode cc pc = .ok (.invokevirtual index, 3)) (hcap : cells ≤ R.cells ∧ slots ≤ R.slots) (hnC : va_nd isC = true)
    (kk : ∀ (u : S) (H1 : Heap) (locs1 : List Loc), post u → va_P D vwCl (ws' u) H1 → va_D A (ws' u) → va_S A s.heap H1 locs1 → W p l e R s m args below meth c H1 locs1 cells slots Q (F0 m (pc + 3) ls rest)) : W p l e R s m args below meth c H locs cells slots Q (F0 m pc ls st0) :=
  wr_callv (wc := wc) (va_runVN (As := As) (rest := rest) M.fix hM ⟨va_cnB n M.2.2.2.2.2.1 hT hw rfl rfl hlk (M.2.2.2.2.2.1 _ hin) hd hR0, M.2.2.2.2.2.1 _ him, M.2.2.2.2.2.1 _ hse⟩ ⟨PZD_blind, by rw [← hq]; exact va_recv hK hP hc he, fun U hU hW => ⟨rfl, hU, hP.sub isC (fm_of_map hC), va_K.moved hW.alike hK, M.2.2.2.2.2.2.2.warm hW, (hD.sub isC (hnC) hC).weaken (fun _ _ _ _ => trivial)⟩⟩ rfl hn hl hst (lv_room hW) hdg hcap) hP hD hS hA isC isR perm hC hR hn1 hdis hpn hperm kk
theorem wc_Si {post : Int32 → S → Prop} {y : MethodName} {wl wl' : List Cond} {rf rl n maxL index : Nat} {bytes : ByteArray} {ret : Option FieldType} {As : List Value}
    (M : MX p s m args meth c cc nL ret0 own Ts) (hM : cWi l y wl (rmW rf 0 0 rl) D tys As wc H post w1 0 0) (hT : GoodIn Ts (va_wsS own index y wl)) (hw : wl = Cond.code y bytes maxL ret :: wl') (hd : y.cls ≠ "java/lang/invoke/MethodHandle" ∧ y.cls ≠ "java/lang/invoke/VarHandle" ∧ (parseMethodDescriptor y.desc).map (fun d => d.parameters.length) = some n) (hR0 : rf + 1 ≤ R.frames ∧ 8 + (maxL + 11) + rl ≤ R.locals)
    (hK : va_K D vwCl tys s) (hP : va_P D vwCl ws H) (hD : va_D A ws) (hS : va_S A s.heap H locs) (hA : ∀ q : Nat, s.heap.size ≤ q → A q) (isC isR perm : List Nat) (hC : isC.map (fun i => ws[i]?) = wc.map some) (hR : isR.map (fun i => ws[i]?) = wr.map some) (hn1 : va_nd isR = true) (hdis : ∀ i ∈ isR, i ∉ isC) (hpn : va_nd perm = true) (hperm : ∀ u : S, perm.map (fun i => (wr ++ w1 u)[i]?) = (ws' u).map some)
    (hl : ls.size = nL) (hn : As.length = n) (hst : st0 = As.reverse ++ rest) (hW : (rest.map fun v => v.category).sum ≤ 8) (hdg : decode cc pc = .ok (.invokestatic index, 3)) (hcap : cells ≤ R.cells ∧ slots ≤ R.slots) (hnC : va_nd isC = true)
    (kk : ∀ (r : Int32) (u : S) (H1 : Heap) (locs1 : List Loc), post r u → va_P D vwCl (ws' u) H1 → va_D A (ws' u) → va_S A s.heap H1 locs1 → W p l e R s m args below meth c H1 locs1 cells slots Q (F0 m (pc + 3) ls (.int r :: rest))) : W p l e R s m args below meth c H locs cells slots Q (F0 m pc ls st0) :=
  wr_calli (wc := wc) (va_runS (As := As) (rest := rest) M.fix hM (va_cwS n M.2.2.2.2.2.1 hT hw rfl rfl hd hR0) ⟨PZD_blind, fun U hU hW => ⟨rfl, hU, hP.sub isC (fm_of_map hC), va_K.moved hW.alike hK, M.2.2.2.2.2.2.2.warm hW, (hD.sub isC (hnC) hC).weaken (fun _ _ _ _ => trivial)⟩⟩ rfl hn hl hst (lv_room hW) hdg hcap) hP hD hS hA isC isR perm hC hR hn1 hdis hpn hperm kk
theorem wc_Sv {post : S → Prop} {y : MethodName} {wl wl' : List Cond} {rf rl n maxL index : Nat} {bytes : ByteArray} {ret : Option FieldType} {As : List Value}
    (M : MX p s m args meth c cc nL ret0 own Ts) (hM : cWv l y wl (rmW rf 0 0 rl) D tys As wc H post w1 0 0) (hT : GoodIn Ts (va_wsS own index y wl)) (hw : wl = Cond.code y bytes maxL ret :: wl') (hd : y.cls ≠ "java/lang/invoke/MethodHandle" ∧ y.cls ≠ "java/lang/invoke/VarHandle" ∧ (parseMethodDescriptor y.desc).map (fun d => d.parameters.length) = some n) (hR0 : rf + 1 ≤ R.frames ∧ 8 + (maxL + 11) + rl ≤ R.locals)
    (hK : va_K D vwCl tys s) (hP : va_P D vwCl ws H) (hD : va_D A ws) (hS : va_S A s.heap H locs) (hA : ∀ q : Nat, s.heap.size ≤ q → A q) (isC isR perm : List Nat) (hC : isC.map (fun i => ws[i]?) = wc.map some) (hR : isR.map (fun i => ws[i]?) = wr.map some) (hn1 : va_nd isR = true) (hdis : ∀ i ∈ isR, i ∉ isC) (hpn : va_nd perm = true) (hperm : ∀ u : S, perm.map (fun i => (wr ++ w1 u)[i]?) = (ws' u).map some)
    (hl : ls.size = nL) (hn : As.length = n) (hst : st0 = As.reverse ++ rest) (hW : (rest.map fun v => v.category).sum ≤ 8) (hdg : decode cc pc = .ok (.invokestatic index, 3)) (hcap : cells ≤ R.cells ∧ slots ≤ R.slots) (hnC : va_nd isC = true)
    (kk : ∀ (u : S) (H1 : Heap) (locs1 : List Loc), post u → va_P D vwCl (ws' u) H1 → va_D A (ws' u) → va_S A s.heap H1 locs1 → W p l e R s m args below meth c H1 locs1 cells slots Q (F0 m (pc + 3) ls rest)) : W p l e R s m args below meth c H locs cells slots Q (F0 m pc ls st0) :=
  wr_callv (wc := wc) (va_runS (As := As) (rest := rest) M.fix hM (va_cwS n M.2.2.2.2.2.1 hT hw rfl rfl hd hR0) ⟨PZD_blind, fun U hU hW => ⟨rfl, hU, hP.sub isC (fm_of_map hC), va_K.moved hW.alike hK, M.2.2.2.2.2.2.2.warm hW, (hD.sub isC (hnC) hC).weaken (fun _ _ _ _ => trivial)⟩⟩ rfl hn hl hst (lv_room hW) hdg hcap) hP hD hS hA isC isR perm hC hR hn1 hdis hpn hperm kk
theorem wc_SNi {post : Int32 → S → Prop} {y : MethodName} {wl wl' : List Cond} {rf rl n maxL index : Nat} {bytes : ByteArray} {ret : Option FieldType} {host : String} {As : List Value}
    (M : MX p s m args meth c cc nL ret0 own Ts) (hM : cWi l y wl (rmW rf 0 0 rl) D tys As wc H post w1 0 0) (hT : GoodIn Ts wl) (hw : wl = Cond.code y bytes maxL ret :: wl') (hlk : va_Nw (.methodLinkNest own index y host) s) (hin : Cond.initialized y.cls ∈ Ts) (hsm : Cond.static y ∈ Ts) (hd : y.cls ≠ "java/lang/invoke/MethodHandle" ∧ y.cls ≠ "java/lang/invoke/VarHandle" ∧ (parseMethodDescriptor y.desc).map (fun d => d.parameters.length) = some n) (hR0 : rf + 1 ≤ R.frames ∧ 8 + (maxL + 11) + rl ≤ R.locals)
    (hK : va_K D vwCl tys s) (hP : va_P D vwCl ws H) (hD : va_D A ws) (hS : va_S A s.heap H locs) (hA : ∀ q : Nat, s.heap.size ≤ q → A q) (isC isR perm : List Nat) (hC : isC.map (fun i => ws[i]?) = wc.map some) (hR : isR.map (fun i => ws[i]?) = wr.map some) (hn1 : va_nd isR = true) (hdis : ∀ i ∈ isR, i ∉ isC) (hpn : va_nd perm = true) (hperm : ∀ u : S, perm.map (fun i => (wr ++ w1 u)[i]?) = (ws' u).map some)
    (hl : ls.size = nL) (hn : As.length = n) (hst : st0 = As.reverse ++ rest) (hW : (rest.map fun v => v.category).sum ≤ 8) (hdg : decode cc pc = .ok (.invokestatic index, 3)) (hcap : cells ≤ R.cells ∧ slots ≤ R.slots) (hnC : va_nd isC = true)
    (kk : ∀ (r : Int32) (u : S) (H1 : Heap) (locs1 : List Loc), post r u → va_P D vwCl (ws' u) H1 → va_D A (ws' u) → va_S A s.heap H1 locs1 → W p l e R s m args below meth c H1 locs1 cells slots Q (F0 m (pc + 3) ls (.int r :: rest))) : W p l e R s m args below meth c H locs cells slots Q (F0 m pc ls st0) :=
  wr_calli (wc := wc) (va_runSN (As := As) (rest := rest) M.fix hM ⟨va_cnB n M.2.2.2.2.2.1 hT hw rfl rfl hlk (M.2.2.2.2.2.1 _ hin) hd hR0, M.2.2.2.2.2.1 _ hsm, trivial⟩ ⟨PZD_blind, fun U hU hW => ⟨rfl, hU, hP.sub isC (fm_of_map hC), va_K.moved hW.alike hK, M.2.2.2.2.2.2.2.warm hW, (hD.sub isC (hnC) hC).weaken (fun _ _ _ _ => trivial)⟩⟩ rfl hn hl hst (lv_room hW) hdg hcap) hP hD hS hA isC isR perm hC hR hn1 hdis hpn hperm kk
theorem wc_SNv {post : S → Prop} {y : MethodName} {wl wl' : List Cond} {rf rl n maxL index : Nat} {bytes : ByteArray} {ret : Option FieldType} {host : String} {As : List Value}
    (M : MX p s m args meth c cc nL ret0 own Ts) (hM : cWv l y wl (rmW rf 0 0 rl) D tys As wc H post w1 0 0) (hT : GoodIn Ts wl) (hw : wl = Cond.code y bytes maxL ret :: wl') (hlk : va_Nw (.methodLinkNest own index y host) s) (hin : Cond.initialized y.cls ∈ Ts) (hsm : Cond.static y ∈ Ts) (hd : y.cls ≠ "java/lang/invoke/MethodHandle" ∧ y.cls ≠ "java/lang/invoke/VarHandle" ∧ (parseMethodDescriptor y.desc).map (fun d => d.parameters.length) = some n) (hR0 : rf + 1 ≤ R.frames ∧ 8 + (maxL + 11) + rl ≤ R.locals)
    (hK : va_K D vwCl tys s) (hP : va_P D vwCl ws H) (hD : va_D A ws) (hS : va_S A s.heap H locs) (hA : ∀ q : Nat, s.heap.size ≤ q → A q) (isC isR perm : List Nat) (hC : isC.map (fun i => ws[i]?) = wc.map some) (hR : isR.map (fun i => ws[i]?) = wr.map some) (hn1 : va_nd isR = true) (hdis : ∀ i ∈ isR, i ∉ isC) (hpn : va_nd perm = true) (hperm : ∀ u : S, perm.map (fun i => (wr ++ w1 u)[i]?) = (ws' u).map some)
    (hl : ls.size = nL) (hn : As.length = n) (hst : st0 = As.reverse ++ rest) (hW : (rest.map fun v => v.category).sum ≤ 8) (hdg : decode cc pc = .ok (.invokestatic index, 3)) (hcap : cells ≤ R.cells ∧ slots ≤ R.slots) (hnC : va_nd isC = true)
    (kk : ∀ (u : S) (H1 : Heap) (locs1 : List Loc), post u → va_P D vwCl (ws' u) H1 → va_D A (ws' u) → va_S A s.heap H1 locs1 → W p l e R s m args below meth c H1 locs1 cells slots Q (F0 m (pc + 3) ls rest)) : W p l e R s m args below meth c H locs cells slots Q (F0 m pc ls st0) :=
  wr_callv (wc := wc) (va_runSN (As := As) (rest := rest) M.fix hM ⟨va_cnB n M.2.2.2.2.2.1 hT hw rfl rfl hlk (M.2.2.2.2.2.1 _ hin) hd hR0, M.2.2.2.2.2.1 _ hsm, trivial⟩ ⟨PZD_blind, fun U hU hW => ⟨rfl, hU, hP.sub isC (fm_of_map hC), va_K.moved hW.alike hK, M.2.2.2.2.2.2.2.warm hW, (hD.sub isC (hnC) hC).weaken (fun _ _ _ _ => trivial)⟩⟩ rfl hn hl hst (lv_room hW) hdg hcap) hP hD hS hA isC isR perm hC hR hn1 hdis hpn hperm kk
end ZW
section ZL
variable {p : Program} {l : Launch} {e : Env} {R : Room} {s : State} {m : MethodId} {args : Array Value} {below : List Frame} {meth : Method} {c : Code} {H : Heap} {locs : List Loc} {cells slots : Nat} {Q : State → Prop}
variable {cc : ByteArray} {pc : Nat} {ls : Array Slot} {rest : List Value} {D : va_G} {cl : List vw_C} {ad : Nat} {tys : List (ClassId × FieldType)} {ws : va_W}
theorem z_alen (hx : p.tables.exec = Jvm.exec) (hb : c.code = cc) (hK : va_K D cl tys s) (hP : va_P D cl ws H) (q0 t0 : Nat) {cA : ClassId} {n : Nat} {x : (Nat → Int32) ⊕ (Nat → Int64) ⊕ (Nat → UInt32) ⊕ (Nat → UInt64) ⊕ (Nat → Option Nat)} {ty : FieldType} (ha : ws[q0]? = some (ad, .inl (cA, n, x))) (ht : tys[t0]? = some (cA, ty)) (hd : decode cc pc = .ok (.arraylength, 1))
    (kk : W p l e R s m args below meth c H locs cells slots Q (F0 m (pc + 1) ls (.int (zI n) :: rest))) : W p l e R s m args below meth c H locs cells slots Q (F0 m pc ls (.ref ad :: rest)) := va_alen hx hb hK hP q0 t0 ha ht (v := zI n) (zI_nat n) hd kk
end ZL
theorem zia_congr {cA : ClassId} {n : Nat} {F G : Int → Int} (h : ∀ j : Int, 0 ≤ j → j < n → F j = G j) : vp_cell cA (n, .inl (zia F)) = vp_cell cA (n, .inl (zia G)) := by
  rw [vp_cell_i, vp_cell_i]
  have e : (fun j : Fin n => Value.int (zia F j.val)) = (fun j : Fin n => Value.int (zia G j.val)) := by
    funext j
    show Value.int (zI (F j.val)) = Value.int (zI (G j.val))
    rw [h j.val (Int.natCast_nonneg _) (Int.ofNat_lt.mpr j.isLt)]
  unfold arrV
  rw [e]
theorem zP_arr {D : va_G} {cl : List vw_C} {ws : va_W} {H : Heap} {G : Int → Int} (hP : va_P D cl ws H) (k : Nat) {a : Nat} {cA : ClassId} {n : Nat} {F : Int → Int} (he : ws[k]? = some (a, .inl (cA, n, .inl (zia F)))) (hF : ∀ j : Int, 0 ≤ j → j < n → F j = G j) : va_P D cl (ws.set k (a, .inl (cA, n, .inl (zia G)))) H := by
  intro i q hq
  by_cases hi : i = k
  · subst hi
    have hlt : i < ws.length := (List.getElem?_eq_some_iff.mp he).1
    rw [List.getElem?_set_self hlt] at hq
    cases hq
    have h1 := hP i _ he
    show H[a]? = some (vp_cell cA (n, .inl (zia G)))
    rw [← zia_congr hF]
    exact h1
  · rw [List.getElem?_set_ne (Ne.symm hi)] at hq
    exact hP i q hq
