/-! ===== the String constants and two statics of the JDK: they ride beside a world ===== -/
def strLen : List Nat := [4, 5, 7, 6, 4, 4, 3, 4, 5, 4, 5]
def strByt : List (List Int32) := [[119, 97, 108, 108], [103, 108, 97, 115, 115], [99, 117, 114, 116, 97, 105, 110], [114, 111, 116, 116, 101, 110], [98, 101, 97, 109], [114, 97, 105, 110], [115, 117, 110], [118, 105, 101, 119], [110, 111, 105, 115, 101], [100, 111, 119, 110], [104, 97, 110, 100, 115]]
def strIdx : List Nat := [146, 148, 150, 152, 154, 156, 157, 158, 159, 160, 162]
def strTx : List String := ["wall", "glass", "curtain", "rotten", "beam", "rain", "sun", "view", "noise", "down", "hands"]
def ENV (K V : Nat → Nat) (A : Nat → Prop) (U : State) (H : Heap) : Prop :=
  vk_S 11 strLen strByt K V A U H ∧ (∀ i : Nat, i < 11 → vk_R RX3 (strIdx.getD i 0) (strTx.getD i "") (K i) U) ∧ va_Z "java/lang/String" "COMPACT_STRINGS" "Z" (.int 1) A U H ∧ va_Zq "jdk/internal/util/Preconditions" "SIOOBE_FORMATTER" "Ljava/util/function/BiFunction;" A U H
theorem ENV.warm {K V : Nat → Nat} {A : Nat → Prop} {s U : State} {H : Heap} (hW : s.WarmedH U.vm) (h : ENV K V A s H) : ENV K V A U H := ⟨h.1.moved hW.alike, fun i hi => (h.2.1 i hi).warm hW, h.2.2.1.moved hW.alike, h.2.2.2.moved hW.alike⟩
theorem ENV.same {K V : Nat → Nat} {A : Nat → Prop} {u U : State} {H : Heap} (hv : U.vm = u.vm) (h : ENV K V A u H) : ENV K V A U H := ⟨h.1.moved (by rw [hv]; exact Vm.Alike.refl _), fun i hi => (h.2.1 i hi).same hv, h.2.2.1.moved (by rw [hv]; exact Vm.Alike.refl _), h.2.2.2.moved (by rw [hv]; exact Vm.Alike.refl _)⟩
theorem ENV.kept {K V : Nat → Nat} {A : Nat → Prop} {U : State} {H H1 : Heap} (h : ENV K V A U H) (hq : ∀ a : Nat, a < H.size → ¬ A a → H1[a]? = H[a]?) : ENV K V A U H1 := ⟨h.1.kept hq, h.2.1, h.2.2.1.kept hq, h.2.2.2.kept hq⟩
theorem ENV.narrow {K V : Nat → Nat} {A B : Nat → Prop} {U : State} {H : Heap} (h : ENV K V A U H) (hAB : ∀ q, B q → A q) : ENV K V B U H := ⟨h.1.narrow hAB, h.2.1, h.2.2.1.narrow hAB, h.2.2.2.narrow hAB⟩
def PZe (D : va_G) (tys : List (ClassId × FieldType)) (ws : va_W) (Hp : Heap) (K V : Nat → Nat) : State → Prop := fun U => PZ D tys ws Hp U ∧ ENV K V (fun _ => False) U Hp
def PZDe (D : va_G) (tys : List (ClassId × FieldType)) (ws : va_W) (Hp : Heap) (K V : Nat → Nat) : State → Prop := fun U => PZD D tys ws Hp U ∧ ENV K V (va_A ws Hp.size) U Hp
theorem PZe_blind {D : va_G} {tys : List (ClassId × FieldType)} {ws : va_W} {Hp : Heap} {av : List Value} {K V : Nat → Nat} : FrameBlind (va_Pc av (PZe D tys ws Hp K V)) :=
  fun a U g mk q => ⟨q.1, (PZ_blind (av := av) a U g mk ⟨q.1, q.2.1⟩).2, q.2.2.same (u := U) (U := U.calling g mk a) rfl⟩
theorem PZDe_blind {D : va_G} {tys : List (ClassId × FieldType)} {ws : va_W} {Hp : Heap} {av : List Value} {K V : Nat → Nat} : FrameBlind (va_Pc av (PZDe D tys ws Hp K V)) :=
  fun a U g mk q => ⟨q.1, (PZD_blind (av := av) a U g mk ⟨q.1, q.2.1⟩).2, q.2.2.same (u := U) (U := U.calling g mk a) rfl⟩
def cPe (l : Launch) (y : MethodName) (wl : List Cond) (rf rl : Nat) (D : va_G) (tys : List (ClassId × FieldType)) (av : List Value) (ws : va_W) (Hp : Heap) (K V : Nat → Nat) (post : Int32 → Prop) : Prop :=
  Met l y wl (rmP rf rl) (va_Pc av (PZe D tys ws Hp K V)) (Qpu Hp post) 0 0 (fun _ => False)
/-- the same of a method that answers a reference -/
def Qpr (S0 : Heap) (post : Nat → Prop) : Array Value → State → Outcome → State → Prop := va_Qr (fun (_ : Unit) => True) (fun _ a t => t.heap = S0 ∧ post a) (fun _ => False)
def cPer (l : Launch) (y : MethodName) (wl : List Cond) (rf rl : Nat) (D : va_G) (tys : List (ClassId × FieldType)) (av : List Value) (ws : va_W) (Hp : Heap) (K V : Nat → Nat) (post : Nat → Prop) : Prop :=
  Met l y wl (rmP rf rl) (va_Pc av (PZe D tys ws Hp K V)) (Qpr Hp post) 0 0 (fun _ => False)
/-- a void method that writes nothing -/
def Qpv (S0 : Heap) : Array Value → State → Outcome → State → Prop := va_Qv (fun (_ : Unit) => True) (fun _ t => t.heap = S0) (fun _ => False)
def cPev (l : Launch) (y : MethodName) (wl : List Cond) (rf rl : Nat) (D : va_G) (tys : List (ClassId × FieldType)) (av : List Value) (ws : va_W) (Hp : Heap) (K V : Nat → Nat) : Prop :=
  Met l y wl (rmP rf rl) (va_Pc av (PZe D tys ws Hp K V)) (Qpv Hp) 0 0 (fun _ => False)
def cWie {S : Type} (l : Launch) (y : MethodName) (wl : List Cond) (rm : Room) (D : va_G) (tys : List (ClassId × FieldType)) (av : List Value) (ws : va_W) (Hp : Heap) (K V : Nat → Nat) (post : Int32 → S → Prop) (w1 : S → va_W) (mc ms : Nat) : Prop :=
  Met l y wl rm (va_Pc av (PZDe D tys ws Hp K V)) (Qwi (va_A ws Hp.size) D post w1) mc ms (va_A ws Hp.size)
def cWve {S : Type} (l : Launch) (y : MethodName) (wl : List Cond) (rm : Room) (D : va_G) (tys : List (ClassId × FieldType)) (av : List Value) (ws : va_W) (Hp : Heap) (K V : Nat → Nat) (post : S → Prop) (w1 : S → va_W) (mc ms : Nat) : Prop :=
  Met l y wl rm (va_Pc av (PZDe D tys ws Hp K V)) (Qwv (va_A ws Hp.size) D post w1) mc ms (va_A ws Hp.size)
theorem pue_startG {l : Launch} {y : MethodName} {wl wl' : List Cond} {rf rl maxL : Nat} {D : va_G} {tys : List (ClassId × FieldType)} {av : List Value} {ws : va_W} {Hp : Heap} {K V : Nat → Nat} {Qc : Heap → Array Value → State → Outcome → State → Prop} {cc : ByteArray} {ret : Option FieldType}
    (hy : plainName y.cls = true) (hw : wl = Cond.code y cc maxL ret :: wl') (hlen : (lg_sl av).length ≤ maxL)
    (body : ∀ (p : Program) (e : Env) (s : State) (m : MethodId) (args : Array Value) (below : List Frame) (meth : Method) (c : Code) (ls : Array Slot), MX p s m args meth c cc maxL ret y.cls wl → va_P D vwCl ws s.heap → va_K D vwCl tys s → ENV K V (fun _ => False) s s.heap → lv_has ls maxL (lv_args 0 av) →
      W p l e (rmP rf rl) s m args below meth c s.heap [] 0 0 (MQ below (Qc s.heap) args s 0 0 (fun _ => False)) (F0 m 0 ls [])) : Met l y wl (rmP rf rl) (va_Pc av (PZe D tys ws Hp K V)) (Qc Hp) 0 0 (fun _ => False) := by
  refine Met.ofW (cc := cc) (maxL := maxL) (ret := ret) hy hw ?_
  intro p e s m args below meth c s₁ B hml hv
  obtain ⟨rfl, ⟨hH, hP, hK, hNw⟩, hE⟩ := hv
  subst hH
  have hl := lv_entry av (n := maxL) hlen
  rw [lg_entry_eq]
  exact body p e s m av.toArray below meth c _ ⟨B.exec, B.bytes, B.returns, hml, findClass_of_methodNamed B.named, atoms_spec (ws := wl) B.pre, B.notSynchronized, hNw⟩ hP hK hE hl
theorem wre_startG {l : Launch} {y : MethodName} {wl wl' : List Cond} {rm : Room} {maxL mc ms : Nat} {D : va_G} {tys : List (ClassId × FieldType)} {av : List Value} {ws : va_W} {Hp : Heap} {K V : Nat → Nat} {Qc : (Nat → Prop) → Array Value → State → Outcome → State → Prop} {cc : ByteArray} {ret : Option FieldType}
    (hy : plainName y.cls = true) (hw : wl = Cond.code y cc maxL ret :: wl') (hlen : (lg_sl av).length ≤ maxL)
    (body : ∀ (p : Program) (e : Env) (s : State) (m : MethodId) (args : Array Value) (below : List Frame) (meth : Method) (c : Code) (ls : Array Slot) (A : Nat → Prop), MX p s m args meth c cc maxL ret y.cls wl → va_P D vwCl ws s.heap → va_D A ws → va_S A s.heap s.heap [] → (∀ q : Nat, s.heap.size ≤ q → A q) → va_K D vwCl tys s → ENV K V A s s.heap → lv_has ls maxL (lv_args 0 av) →
      W p l e rm s m args below meth c s.heap [] 0 0 (MQ below (Qc A) args s mc ms A) (F0 m 0 ls [])) : Met l y wl rm (va_Pc av (PZDe D tys ws Hp K V)) (Qc (va_A ws Hp.size)) mc ms (va_A ws Hp.size) := by
  refine Met.ofW (cc := cc) (maxL := maxL) (ret := ret) hy hw ?_
  intro p e s m args below meth c s₁ B hml hv
  obtain ⟨rfl, ⟨hH, hP, hK, hNw, hD0⟩, hE⟩ := hv
  subst hH
  have hl := lv_entry av (n := maxL) hlen
  rw [lg_entry_eq]
  exact body p e s m av.toArray below meth c _ _ ⟨B.exec, B.bytes, B.returns, hml, findClass_of_methodNamed B.named, atoms_spec (ws := wl) B.pre, B.notSynchronized, hNw⟩ hP hD0.self va_S.rf (fun q h => Or.inr h) hK hE hl
section ZE
variable {p : Program} {l : Launch} {e : Env} {R : Room} {s : State} {m : MethodId} {args : Array Value} {below : List Frame} {meth : Method} {c : Code} {H : Heap} {locs : List Loc} {cells slots : Nat} {Q : State → Prop}
variable {cc : ByteArray} {pc nL : Nat} {ret0 : Option FieldType} {own : String} {Ts : List Cond} {ls : Array Slot} {rest st0 : List Value}
variable {D : va_G} {tys : List (ClassId × FieldType)} {ws wc wr : va_W} {A : Nat → Prop} {S : Type} {w1 ws' : S → va_W} {K V : Nat → Nat}
theorem pe_aret {post : Nat → Prop} {a : Nat} {rn : String} (M : MX p s m args meth c cc nL (some (.object rn)) own Ts) (hd : decode cc pc = .ok (.areturn, 1)) (hp : post a) :
    W p l e R s m args below meth c s.heap [] 0 0 (MQ below (Qpr s.heap post) args s 0 0 (fun _ => False)) (F0 m pc ls [.ref a]) :=
  W.aret M.1 M.2.1 M.2.2.1 (Or.inl ⟨_, rfl⟩) (Or.inr ⟨_, rfl⟩) (fun t ht _ => ⟨⟨(), a, rfl, trivial, ht, hp⟩, by rw [ht]; exact Nat.le_refl _, fun q _ _ => by rw [ht]⟩) (fun q h => absurd h List.not_mem_nil) hd M.2.2.2.2.2.2.1
theorem pe_vret (M : MX p s m args meth c cc nL none own Ts) (hd : decode cc pc = .ok (.return_, 1)) :
    W p l e R s m args below meth c s.heap [] 0 0 (MQ below (Qpv s.heap) args s 0 0 (fun _ => False)) (F0 m pc ls []) :=
  W.vret M.1 M.2.1 M.2.2.1 (fun t ht _ => ⟨⟨(), rfl, trivial, ht⟩, by rw [ht]; exact Nat.le_refl _, fun q _ _ => by rw [ht]⟩) (fun q h => absurd h List.not_mem_nil) hd M.2.2.2.2.2.2.1
theorem pe_callv {aa : Array Value} (hr : va_Run p l e R s m args below meth c H locs cells slots 0 0 (F0 m pc ls st0) rest (Qpv H aa) (fun _ => False))
    (kk : W p l e R s m args below meth c H locs cells slots Q (F0 m (pc + 3) ls rest)) : W p l e R s m args below meth c H locs cells slots Q (F0 m pc ls st0) := by
  intro T hT X
  obtain ⟨v, st₀, t, T', L, h0, X', hL, e1, e2, ⟨⟨u, hv, hp, hb⟩, hz, hk⟩, st⟩ := hr T hT X
  cases hv
  have hLn : L = [] := by
    cases L with
    | nil => rfl
    | cons q L => exact (hL q List.mem_cons_self).elim
  subst hLn
  rw [List.append_nil] at X'
  obtain ⟨t2, a1, b1⟩ := kk T' (e1.trans hb) X'
  exact ⟨t2, st t2 a1, b1⟩
theorem pe_callr {post : Nat → Prop} {aa : Array Value} (hr : va_Run p l e R s m args below meth c H locs cells slots 0 0 (F0 m pc ls st0) rest (Qpr H post aa) (fun _ => False))
    (kk : ∀ a : Nat, post a → W p l e R s m args below meth c H locs cells slots Q (F0 m (pc + 3) ls (.ref a :: rest))) : W p l e R s m args below meth c H locs cells slots Q (F0 m pc ls st0) := by
  intro T hT X
  obtain ⟨v, st₀, t, T', L, h0, X', hL, e1, e2, ⟨⟨u, a, hv, hp, hb⟩, hz, hk⟩, st⟩ := hr T hT X
  cases hv
  have hLn : L = [] := by
    cases L with
    | nil => rfl
    | cons q L => exact (hL q List.mem_cons_self).elim
  subst hLn
  rw [List.append_nil] at X'
  obtain ⟨t2, a1, b1⟩ := kk a hb.2 T' (e1.trans hb.1) X'
  exact ⟨t2, st t2 a1, b1⟩
theorem pce_V {post : Int32 → Prop} {y : MethodName} {wl wl' : List Cond} {rf rl n maxL index : Nat} {bytes : ByteArray} {ret : Option FieldType} {C : String} {b : Nat} {As : List Value}
    (M : MX p s m args meth c cc nL ret0 own Ts) (hM : cPe l y wl rf rl D tys (.ref b :: As) wc H K V post) (hT : GoodIn Ts (wsV own index C y wl)) (hw : wl = Cond.code y bytes maxL ret :: wl')
    (hd : y.cls = C ∧ y.cls ≠ "java/lang/invoke/MethodHandle" ∧ y.cls ≠ "java/lang/invoke/VarHandle" ∧ (parseMethodDescriptor y.desc).map (fun d => d.parameters.length) = some n) (hR : rf + 1 ≤ R.frames ∧ 8 + (maxL + 11) + rl ≤ R.locals)
    (hK : va_K D vwCl tys s) (hP : va_P D vwCl ws H) (isC : List Nat) (hC : isC.filterMap (fun i => ws[i]?) = wc) (hE : ENV K V A s H) (hrv : ∃ cell : Cell, H[b]? = some cell ∧ cell.vm.isStatics = false ∧ s.vm.findClass C = some cell.cls)
    (hl : ls.size = nL) (hn : As.length = n) (hst : st0 = As.reverse ++ .ref b :: rest) (hW : (rest.map fun v => v.category).sum ≤ 8) (hdg : decode cc pc = .ok (.invokevirtual index, 3)) (hcap : cells ≤ R.cells ∧ slots ≤ R.slots)
    (kk : ∀ r : Int32, post r → W p l e R s m args below meth c H locs cells slots Q (F0 m (pc + 3) ls (.int r :: rest))) : W p l e R s m args below meth c H locs cells slots Q (F0 m pc ls st0) :=
  pu_call (va_runV (As := As) (rest := rest) M.fix hM (cwV n M.2.2.2.2.2.1 hT hw rfl rfl hd hR) ⟨PZe_blind, hrv, fun U hU hW => ⟨rfl, ⟨hU, hP.sub isC hC, va_K.moved hW.alike hK, M.2.2.2.2.2.2.2.warm hW⟩, (hE.narrow (fun _ h => h.elim)).warm hW⟩⟩ rfl hn hl hst (lv_room hW) hdg hcap) kk
theorem pce_J {post : Int32 → Prop} {y : MethodName} {wl wl' : List Cond} {rf rl n maxL index : Nat} {bytes : ByteArray} {ret : Option FieldType} {As : List Value}
    (M : MX p s m args meth c cc nL ret0 own Ts) (hM : cPe l y wl rf rl D tys As wc H K V post) (hT : GoodIn Ts (va_wsS own index y wl)) (hw : wl = Cond.code y bytes maxL ret :: wl')
    (hd : y.cls ≠ "java/lang/invoke/MethodHandle" ∧ y.cls ≠ "java/lang/invoke/VarHandle" ∧ (parseMethodDescriptor y.desc).map (fun d => d.parameters.length) = some n) (hR : rf + 1 ≤ R.frames ∧ 8 + (maxL + 11) + rl ≤ R.locals)
    (hK : va_K D vwCl tys s) (hP : va_P D vwCl ws H) (isC : List Nat) (hC : isC.filterMap (fun i => ws[i]?) = wc) (hE : ENV K V A s H)
    (hl : ls.size = nL) (hn : As.length = n) (hst : st0 = As.reverse ++ rest) (hW : (rest.map fun v => v.category).sum ≤ 8) (hdg : decode cc pc = .ok (.invokestatic index, 3)) (hcap : cells ≤ R.cells ∧ slots ≤ R.slots)
    (kk : ∀ r : Int32, post r → W p l e R s m args below meth c H locs cells slots Q (F0 m (pc + 3) ls (.int r :: rest))) : W p l e R s m args below meth c H locs cells slots Q (F0 m pc ls st0) :=
  pu_call (va_runS (As := As) (rest := rest) M.fix hM (va_cwS n M.2.2.2.2.2.1 hT hw rfl rfl hd hR) ⟨PZe_blind, fun U hU hW => ⟨rfl, ⟨hU, hP.sub isC hC, va_K.moved hW.alike hK, M.2.2.2.2.2.2.2.warm hW⟩, (hE.narrow (fun _ h => h.elim)).warm hW⟩⟩ rfl hn hl hst (lv_room hW) hdg hcap) kk
theorem pce_Jv {y : MethodName} {wl wl' : List Cond} {rf rl n maxL index : Nat} {bytes : ByteArray} {ret : Option FieldType} {As : List Value}
    (M : MX p s m args meth c cc nL ret0 own Ts) (hM : cPev l y wl rf rl D tys As wc H K V) (hT : GoodIn Ts (va_wsS own index y wl)) (hw : wl = Cond.code y bytes maxL ret :: wl')
    (hd : y.cls ≠ "java/lang/invoke/MethodHandle" ∧ y.cls ≠ "java/lang/invoke/VarHandle" ∧ (parseMethodDescriptor y.desc).map (fun d => d.parameters.length) = some n) (hR : rf + 1 ≤ R.frames ∧ 8 + (maxL + 11) + rl ≤ R.locals)
    (hK : va_K D vwCl tys s) (hP : va_P D vwCl ws H) (isC : List Nat) (hC : isC.filterMap (fun i => ws[i]?) = wc) (hE : ENV K V A s H)
    (hl : ls.size = nL) (hn : As.length = n) (hst : st0 = As.reverse ++ rest) (hW : (rest.map fun v => v.category).sum ≤ 8) (hdg : decode cc pc = .ok (.invokestatic index, 3)) (hcap : cells ≤ R.cells ∧ slots ≤ R.slots)
    (kk : W p l e R s m args below meth c H locs cells slots Q (F0 m (pc + 3) ls rest)) : W p l e R s m args below meth c H locs cells slots Q (F0 m pc ls st0) :=
  pe_callv (va_runS (As := As) (rest := rest) M.fix hM (va_cwS n M.2.2.2.2.2.1 hT hw rfl rfl hd hR) ⟨PZe_blind, fun U hU hW => ⟨rfl, ⟨hU, hP.sub isC hC, va_K.moved hW.alike hK, M.2.2.2.2.2.2.2.warm hW⟩, (hE.narrow (fun _ h => h.elim)).warm hW⟩⟩ rfl hn hl hst (lv_room hW) hdg hcap) kk
theorem pce_Jr {post : Nat → Prop} {y : MethodName} {wl wl' : List Cond} {rf rl n maxL index : Nat} {bytes : ByteArray} {ret : Option FieldType} {As : List Value}
    (M : MX p s m args meth c cc nL ret0 own Ts) (hM : cPer l y wl rf rl D tys As wc H K V post) (hT : GoodIn Ts (va_wsS own index y wl)) (hw : wl = Cond.code y bytes maxL ret :: wl')
    (hd : y.cls ≠ "java/lang/invoke/MethodHandle" ∧ y.cls ≠ "java/lang/invoke/VarHandle" ∧ (parseMethodDescriptor y.desc).map (fun d => d.parameters.length) = some n) (hR : rf + 1 ≤ R.frames ∧ 8 + (maxL + 11) + rl ≤ R.locals)
    (hK : va_K D vwCl tys s) (hP : va_P D vwCl ws H) (isC : List Nat) (hC : isC.filterMap (fun i => ws[i]?) = wc) (hE : ENV K V A s H)
    (hl : ls.size = nL) (hn : As.length = n) (hst : st0 = As.reverse ++ rest) (hW : (rest.map fun v => v.category).sum ≤ 8) (hdg : decode cc pc = .ok (.invokestatic index, 3)) (hcap : cells ≤ R.cells ∧ slots ≤ R.slots)
    (kk : ∀ a : Nat, post a → W p l e R s m args below meth c H locs cells slots Q (F0 m (pc + 3) ls (.ref a :: rest))) : W p l e R s m args below meth c H locs cells slots Q (F0 m pc ls st0) :=
  pe_callr (va_runS (As := As) (rest := rest) M.fix hM (va_cwS n M.2.2.2.2.2.1 hT hw rfl rfl hd hR) ⟨PZe_blind, fun U hU hW => ⟨rfl, ⟨hU, hP.sub isC hC, va_K.moved hW.alike hK, M.2.2.2.2.2.2.2.warm hW⟩, (hE.narrow (fun _ h => h.elim)).warm hW⟩⟩ rfl hn hl hst (lv_room hW) hdg hcap) kk
theorem wce_Vi {post : Int32 → S → Prop} {y : MethodName} {wl wl' : List Cond} {rf rl n maxL index : Nat} {bytes : ByteArray} {ret : Option FieldType} {C : String} {b : Nat} {As : List Value}
    (M : MX p s m args meth c cc nL ret0 own Ts) (hM : cWie l y wl (rmW rf 0 0 rl) D tys (.ref b :: As) wc H K V post w1 0 0) (hT : GoodIn Ts (wsV own index C y wl)) (hw : wl = Cond.code y bytes maxL ret :: wl') (hd : y.cls = C ∧ y.cls ≠ "java/lang/invoke/MethodHandle" ∧ y.cls ≠ "java/lang/invoke/VarHandle" ∧ (parseMethodDescriptor y.desc).map (fun d => d.parameters.length) = some n) (hR0 : rf + 1 ≤ R.frames ∧ 8 + (maxL + 11) + rl ≤ R.locals)
    (hK : va_K D vwCl tys s) (hP : va_P D vwCl ws H) (hD : va_D A ws) (hS : va_S A s.heap H locs) (hA : ∀ q : Nat, s.heap.size ≤ q → A q) (isC isR perm : List Nat) (hC : isC.map (fun i => ws[i]?) = wc.map some) (hR : isR.map (fun i => ws[i]?) = wr.map some) (hn1 : va_nd isR = true) (hdis : ∀ i ∈ isR, i ∉ isC) (hpn : va_nd perm = true) (hperm : ∀ u : S, perm.map (fun i => (wr ++ w1 u)[i]?) = (ws' u).map some) (q0 ci : Nat) {fs : List Value} (he : ws[q0]? = some (b, .inr (ci, fs))) {q : vw_C} (hc : vwCl[ci]? = some q) (hq : q.1 = C)
    (hl : ls.size = nL) (hn : As.length = n) (hst : st0 = As.reverse ++ .ref b :: rest) (hW : (rest.map fun v => v.category).sum ≤ 8) (hdg : decode cc pc = .ok (.invokevirtual index, 3)) (hcap : cells ≤ R.cells ∧ slots ≤ R.slots) (hnC : va_nd isC = true) (hE : ENV K V A s s.heap)
    (kk : ∀ (r : Int32) (u : S) (H1 : Heap) (locs1 : List Loc), post r u → va_P D vwCl (ws' u) H1 → va_D A (ws' u) → va_S A s.heap H1 locs1 → W p l e R s m args below meth c H1 locs1 cells slots Q (F0 m (pc + 3) ls (.int r :: rest))) : W p l e R s m args below meth c H locs cells slots Q (F0 m pc ls st0) :=
  wr_calli (wc := wc) (va_runV (As := As) (rest := rest) M.fix hM (cwV n M.2.2.2.2.2.1 hT hw rfl rfl hd hR0) ⟨PZDe_blind, by rw [← hq]; exact va_recv hK hP hc he, fun U hU hW => ⟨rfl, ⟨hU, hP.sub isC (fm_of_map hC), va_K.moved hW.alike hK, M.2.2.2.2.2.2.2.warm hW, (hD.sub isC hnC hC).weaken (fun _ _ _ _ => trivial)⟩, ((hE.kept hS.2.1).narrow (fun q h => va_free (wc := wc) hD hS hA isC hC q h)).warm hW⟩⟩ rfl hn hl hst (lv_room hW) hdg hcap) hP hD hS hA isC isR perm hC hR hn1 hdis hpn hperm kk
theorem wce_Vv {post : S → Prop} {y : MethodName} {wl wl' : List Cond} {rf rl n maxL index : Nat} {bytes : ByteArray} {ret : Option FieldType} {C : String} {b : Nat} {As : List Value}
    (M : MX p s m args meth c cc nL ret0 own Ts) (hM : cWve l y wl (rmW rf 0 0 rl) D tys (.ref b :: As) wc H K V post w1 0 0) (hT : GoodIn Ts (wsV own index C y wl)) (hw : wl = Cond.code y bytes maxL ret :: wl') (hd : y.cls = C ∧ y.cls ≠ "java/lang/invoke/MethodHandle" ∧ y.cls ≠ "java/lang/invoke/VarHandle" ∧ (parseMethodDescriptor y.desc).map (fun d => d.parameters.length) = some n) (hR0 : rf + 1 ≤ R.frames ∧ 8 + (maxL + 11) + rl ≤ R.locals)
    (hK : va_K D vwCl tys s) (hP : va_P D vwCl ws H) (hD : va_D A ws) (hS : va_S A s.heap H locs) (hA : ∀ q : Nat, s.heap.size ≤ q → A q) (isC isR perm : List Nat) (hC : isC.map (fun i => ws[i]?) = wc.map some) (hR : isR.map (fun i => ws[i]?) = wr.map some) (hn1 : va_nd isR = true) (hdis : ∀ i ∈ isR, i ∉ isC) (hpn : va_nd perm = true) (hperm : ∀ u : S, perm.map (fun i => (wr ++ w1 u)[i]?) = (ws' u).map some) (q0 ci : Nat) {fs : List Value} (he : ws[q0]? = some (b, .inr (ci, fs))) {q : vw_C} (hc : vwCl[ci]? = some q) (hq : q.1 = C)
    (hl : ls.size = nL) (hn : As.length = n) (hst : st0 = As.reverse ++ .ref b :: rest) (hW : (rest.map fun v => v.category).sum ≤ 8) (hdg : decode cc pc = .ok (.invokevirtual index, 3)) (hcap : cells ≤ R.cells ∧ slots ≤ R.slots) (hnC : va_nd isC = true) (hE : ENV K V A s s.heap)
    (kk : ∀ (u : S) (H1 : Heap) (locs1 : List Loc), post u → va_P D vwCl (ws' u) H1 → va_D A (ws' u) → va_S A s.heap H1 locs1 → W p l e R s m args below meth c H1 locs1 cells slots Q (F0 m (pc + 3) ls rest)) : W p l e R s m args below meth c H locs cells slots Q (F0 m pc ls st0) :=
  wr_callv (wc := wc) (va_runV (As := As) (rest := rest) M.fix hM (cwV n M.2.2.2.2.2.1 hT hw rfl rfl hd hR0) ⟨PZDe_blind, by rw [← hq]; exact va_recv hK hP hc he, fun U hU hW => ⟨rfl, ⟨hU, hP.sub isC (fm_of_map hC), va_K.moved hW.alike hK, M.2.2.2.2.2.2.2.warm hW, (hD.sub isC hnC hC).weaken (fun _ _ _ _ => trivial)⟩, ((hE.kept hS.2.1).narrow (fun q h => va_free (wc := wc) hD hS hA isC hC q h)).warm hW⟩⟩ rfl hn hl hst (lv_room hW) hdg hcap) hP hD hS hA isC isR perm hC hR hn1 hdis hpn hperm kk
theorem wce_VNi {post : Int32 → S → Prop} {y : MethodName} {wl wl' : List Cond} {rf rl n maxL index : Nat} {bytes : ByteArray} {ret : Option FieldType} {C host : String} {b : Nat} {As : List Value}
    (M : MX p s m args meth c cc nL ret0 own Ts) (hM : cWie l y wl (rmW rf 0 0 rl) D tys (.ref b :: As) wc H K V post w1 0 0) (hT : GoodIn Ts wl) (hw : wl = Cond.code y bytes maxL ret :: wl') (hlk : va_Nw (.methodLinkNest own index y host) s) (hin : Cond.initialized y.cls ∈ Ts) (him : Cond.instanceMethod y ∈ Ts) (hse : Cond.selects C y y ∈ Ts) (hd : y.cls ≠ "java/lang/invoke/MethodHandle" ∧ y.cls ≠ "java/lang/invoke/VarHandle" ∧ (parseMethodDescriptor y.desc).map (fun d => d.parameters.length) = some n) (hR0 : rf + 1 ≤ R.frames ∧ 8 + (maxL + 11) + rl ≤ R.locals)
    (hK : va_K D vwCl tys s) (hP : va_P D vwCl ws H) (hD : va_D A ws) (hS : va_S A s.heap H locs) (hA : ∀ q : Nat, s.heap.size ≤ q → A q) (isC isR perm : List Nat) (hC : isC.map (fun i => ws[i]?) = wc.map some) (hR : isR.map (fun i => ws[i]?) = wr.map some) (hn1 : va_nd isR = true) (hdis : ∀ i ∈ isR, i ∉ isC) (hpn : va_nd perm = true) (hperm : ∀ u : S, perm.map (fun i => (wr ++ w1 u)[i]?) = (ws' u).map some) (q0 ci : Nat) {fs : List Value} (he : ws[q0]? = some (b, .inr (ci, fs))) {q : vw_C} (hc : vwCl[ci]? = some q) (hq : q.1 = C)
    (hl : ls.size = nL) (hn : As.length = n) (hst : st0 = As.reverse ++ .ref b :: rest) (hW : (rest.map fun v => v.category).sum ≤ 8) (hdg : decode cc pc = .ok (.invokevirtual index, 3)) (hcap : cells ≤ R.cells ∧ slots ≤ R.slots) (hnC : va_nd isC = true) (hE : ENV K V A s s.heap)
    (kk : ∀ (r : Int32) (u : S) (H1 : Heap) (locs1 : List Loc), post r u → va_P D vwCl (ws' u) H1 → va_D A (ws' u) → va_S A s.heap H1 locs1 → W p l e R s m args below meth c H1 locs1 cells slots Q (F0 m (pc + 3) ls (.int r :: rest))) : W p l e R s m args below meth c H locs cells slots Q (F0 m pc ls st0) :=
  wr_calli (wc := wc) (va_runVN (As := As) (rest := rest) M.fix hM ⟨va_cnB n M.2.2.2.2.2.1 hT hw rfl rfl hlk (M.2.2.2.2.2.1 _ hin) hd hR0, M.2.2.2.2.2.1 _ him, M.2.2.2.2.2.1 _ hse⟩ ⟨PZDe_blind, by rw [← hq]; exact va_recv hK hP hc he, fun U hU hW => ⟨rfl, ⟨hU, hP.sub isC (fm_of_map hC), va_K.moved hW.alike hK, M.2.2.2.2.2.2.2.warm hW, (hD.sub isC hnC hC).weaken (fun _ _ _ _ => trivial)⟩, ((hE.kept hS.2.1).narrow (fun q h => va_free (wc := wc) hD hS hA isC hC q h)).warm hW⟩⟩ rfl hn hl hst (lv_room hW) hdg hcap) hP hD hS hA isC isR perm hC hR hn1 hdis hpn hperm kk
theorem wce_VNv {post : S → Prop} {y : MethodName} {wl wl' : List Cond} {rf rl n maxL index : Nat} {bytes : ByteArray} {ret : Option FieldType} {C host : String} {b : Nat} {As : List Value}
    (M : MX p s m args meth c cc nL ret0 own Ts) (hM : cWve l y wl (rmW rf 0 0 rl) D tys (.ref b :: As) wc H K V post w1 0 0) (hT : GoodIn Ts wl) (hw : wl = Cond.code y bytes maxL ret :: wl') (hlk : va_Nw (.methodLinkNest own index y host) s) (hin : Cond.initialized y.cls ∈ Ts) (him : Cond.instanceMethod y ∈ Ts) (hse : Cond.selects C y y ∈ Ts) (hd : y.cls ≠ "java/lang/invoke/MethodHandle" ∧ y.cls ≠ "java/lang/invoke/VarHandle" ∧ (parseMethodDescriptor y.desc).map (fun d => d.parameters.length) = some n) (hR0 : rf + 1 ≤ R.frames ∧ 8 + (maxL + 11) + rl ≤ R.locals)
    (hK : va_K D vwCl tys s) (hP : va_P D vwCl ws H) (hD : va_D A ws) (hS : va_S A s.heap H locs) (hA : ∀ q : Nat, s.heap.size ≤ q → A q) (isC isR perm : List Nat) (hC : isC.map (fun i => ws[i]?) = wc.map some) (hR : isR.map (fun i => ws[i]?) = wr.map some) (hn1 : va_nd isR = true) (hdis : ∀ i ∈ isR, i ∉ isC) (hpn : va_nd perm = true) (hperm : ∀ u : S, perm.map (fun i => (wr ++ w1 u)[i]?) = (ws' u).map some) (q0 ci : Nat) {fs : List Value} (he : ws[q0]? = some (b, .inr (ci, fs))) {q : vw_C} (hc : vwCl[ci]? = some q) (hq : q.1 = C)
    (hl : ls.size = nL) (hn : As.length = n) (hst : st0 = As.reverse ++ .ref b :: rest) (hW : (rest.map fun v => v.category).sum ≤ 8) (hdg : decode cc pc = .ok (.invokevirtual index, 3)) (hcap : cells ≤ R.cells ∧ slots ≤ R.slots) (hnC : va_nd isC = true) (hE : ENV K V A s s.heap)
    (kk : ∀ (u : S) (H1 : Heap) (locs1 : List Loc), post u → va_P D vwCl (ws' u) H1 → va_D A (ws' u) → va_S A s.heap H1 locs1 → W p l e R s m args below meth c H1 locs1 cells slots Q (F0 m (pc + 3) ls rest)) : W p l e R s m args below meth c H locs cells slots Q (F0 m pc ls st0) :=
  wr_callv (wc := wc) (va_runVN (As := As) (rest := rest) M.fix hM ⟨va_cnB n M.2.2.2.2.2.1 hT hw rfl rfl hlk (M.2.2.2.2.2.1 _ hin) hd hR0, M.2.2.2.2.2.1 _ him, M.2.2.2.2.2.1 _ hse⟩ ⟨PZDe_blind, by rw [← hq]; exact va_recv hK hP hc he, fun U hU hW => ⟨rfl, ⟨hU, hP.sub isC (fm_of_map hC), va_K.moved hW.alike hK, M.2.2.2.2.2.2.2.warm hW, (hD.sub isC hnC hC).weaken (fun _ _ _ _ => trivial)⟩, ((hE.kept hS.2.1).narrow (fun q h => va_free (wc := wc) hD hS hA isC hC q h)).warm hW⟩⟩ rfl hn hl hst (lv_room hW) hdg hcap) hP hD hS hA isC isR perm hC hR hn1 hdis hpn hperm kk
end ZE
theorem strLen_rng : ∀ i : Nat, i < 11 → strLen.getD i 0 ≤ 7 := by decide +kernel
def strC (i : Nat) (k : Int) : Int := ((strByt.getD i []).getD k.toNat 0).toInt
theorem str_all : ∀ i : Nat, i < 11 → ∀ k : Nat, k < 7 → k < strLen.getD i 0 → ((((strByt.getD i []).getD k 0) &&& zI 255).toUInt32 % 65536).toInt32 = zI (strC i k) ∧ 97 ≤ strC i k ∧ strC i k ≤ 122 := by decide +kernel
theorem zchar {b : Int} (h : 0 ≤ b ∧ b < 65536) : narrow .char (.int (zI b)) = .int (zI b) := by
  rw [zI_nn h.1]
  exact (pk_charN (by omega)).1
theorem zshr0 (a : Int) (h : 0 ≤ a) : zshr a 0 = a := by
  unfold zshr
  show ((a.toNat >>> 0 : Nat) : Int) = a
  rw [Nat.shiftRight_zero]
  omega
theorem str_ch {i : Nat} {k : Int} (hi : i < 11) (hk : 0 ≤ k ∧ k < (strLen.getD i 0 : Nat)) : ((((strByt.getD i []).getD (zI k).toNatClampNeg 0) &&& zI 255).toUInt32 % 65536).toInt32 = zI (strC i k) := by
  have h7 := strLen_rng i hi
  rw [zI_cl (by omega)]
  have h := (str_all i hi k.toNat (by omega) (by omega)).1
  rw [Int.toNat_of_nonneg hk.1] at h
  exact h
theorem strC_rng {i : Nat} {k : Int} (hi : i < 11) (hk : 0 ≤ k ∧ k < (strLen.getD i 0 : Nat)) : 97 ≤ strC i k ∧ strC i k ≤ 122 := by
  have h7 := strLen_rng i hi
  have h := (str_all i hi k.toNat (by omega) (by omega)).2
  rw [Int.toNat_of_nonneg hk.1] at h
  exact h
