/-! ===== constructors: the start, new arrays and objects, calls of constructors ===== -/
def PZC (D : va_G) (tys : List (ClassId × FieldType)) (ws : va_W) (Hp : Heap) : State → Prop := fun U => U.heap = Hp ∧ va_P D vwCl ws Hp ∧ va_K D vwCl tys U ∧ NW U ∧ va_AO "BedHouse$Moment" U ∧ va_D (fun _ => True) ws
theorem PZC_blind {D : va_G} {tys : List (ClassId × FieldType)} {ws : va_W} {Hp : Heap} {av : List Value} : FrameBlind (va_Pc av (PZC D tys ws Hp)) :=
  fun a U g mk q => ⟨q.1, q.2.1, q.2.2.1, va_K.moved (u := U) (U := U.calling g mk a) (Vm.Alike.refl U.vm) q.2.2.2.1, q.2.2.2.2.1.same (u := U) (U := U.calling g mk a) rfl, va_AO.moved (u := U) (U := U.calling g mk a) (Vm.Alike.refl U.vm) q.2.2.2.2.2.1, q.2.2.2.2.2.2⟩
def cCv {S : Type} (l : Launch) (y : MethodName) (wl : List Cond) (rm : Room) (D : va_G) (tys : List (ClassId × FieldType)) (av : List Value) (ws : va_W) (Hp : Heap) (post : S → Prop) (w1 : S → va_W) (mc ms : Nat) : Prop :=
  Met l y wl rm (va_Pc av (PZC D tys ws Hp)) (Qwv (va_A ws Hp.size) D post w1) mc ms (va_A ws Hp.size)
theorem wr_startC {S : Type} {l : Launch} {y : MethodName} {wl wl' : List Cond} {rm : Room} {maxL mc ms : Nat} {D : va_G} {tys : List (ClassId × FieldType)} {av : List Value} {ws : va_W} {Hp : Heap} {post : S → Prop} {w1 : S → va_W} {cc : ByteArray} {ret : Option FieldType}
    (hy : plainName y.cls = true) (hw : wl = Cond.code y cc maxL ret :: wl') (hlen : (lg_sl av).length ≤ maxL) (hyn : y.name = "<init>")
    (body : ∀ (p : Program) (e : Env) (s : State) (m : MethodId) (args : Array Value) (below : List Frame) (meth : Method) (c : Code) (ls : Array Slot) (A : Nat → Prop), MX p s m args meth c cc maxL ret y.cls wl → meth.name = "<init>" → va_AO "BedHouse$Moment" s → va_P D vwCl ws s.heap → va_D A ws → va_S A s.heap s.heap [] → (∀ q : Nat, s.heap.size ≤ q → A q) → va_K D vwCl tys s → lv_has ls maxL (lv_args 0 av) →
      W p l e rm s m args below meth c s.heap [] 0 0 (QWv below args s A D post w1 mc ms) (F0 m 0 ls [])) : cCv l y wl rm D tys av ws Hp post w1 mc ms := by
  refine Met.ofW (cc := cc) (maxL := maxL) (ret := ret) hy hw ?_
  intro p e s m args below meth c s₁ B hml hv
  obtain ⟨rfl, hH, hP, hK, hNw, hO, hD0⟩ := hv
  subst hH
  have hl := lv_entry av (n := maxL) hlen
  rw [lg_entry_eq]
  exact body p e s m av.toArray below meth c _ _ ⟨B.exec, B.bytes, B.returns, hml, findClass_of_methodNamed B.named, atoms_spec (ws := wl) B.pre, B.notSynchronized, hNw⟩ ((name_of_methodNamed B.named B.method).1.trans hyn) hO hP hD0.self va_S.rf (fun q h => Or.inr h) hK hl
theorem z_q2 {cM : ClassId} {F G : Nat → Option Nat} (h0 : F 0 = G 0) (h1 : F 1 = G 1) : vp_cell cM (2, .inr (.inr (.inr (.inr F)))) = vp_cell cM (2, .inr (.inr (.inr (.inr G)))) := by
  rw [vp_cell_q, vp_cell_q]
  unfold arrV
  have e : (fun j : Fin 2 => va_rf (F j.val)) = fun j : Fin 2 => va_rf (G j.val) := by
    funext j
    rcases j with ⟨j, hj⟩
    rcases (show j = 0 ∨ j = 1 by omega) with rfl | rfl
    · exact congrArg va_rf h0
    · exact congrArg va_rf h1
  rw [e]
theorem zP_q2 {D : va_G} {cl : List vw_C} {ws : va_W} {H : Heap} {F G : Nat → Option Nat} (hP : va_P D cl ws H) (k : Nat) {a : Nat} {cM : ClassId} (he : ws[k]? = some (a, .inl (cM, 2, .inr (.inr (.inr (.inr F)))))) (h0 : F 0 = G 0) (h1 : F 1 = G 1) : va_P D cl (ws.set k (a, .inl (cM, 2, .inr (.inr (.inr (.inr G)))))) H := by
  intro i q hq
  by_cases hi : i = k
  · subst hi
    have hlt : i < ws.length := (List.getElem?_eq_some_iff.mp he).1
    rw [List.getElem?_set_self hlt] at hq
    cases hq
    have h2 := hP i _ he
    show H[a]? = some (vp_cell cM (2, .inr (.inr (.inr (.inr G)))))
    rw [← z_q2 h0 h1]
    exact h2
  · rw [List.getElem?_set_ne (Ne.symm hi)] at hq
    exact hP i q hq
section ZI
variable {p : Program} {l : Launch} {e : Env} {R : Room} {s : State} {m : MethodId} {args : Array Value} {below : List Frame} {meth : Method} {c : Code} {H H0 : Heap} {locs : List Loc} {cells slots : Nat} {Q : State → Prop}
variable {cc : ByteArray} {pc nL : Nat} {ret0 : Option FieldType} {own : String} {Ts : List Cond} {ls : Array Slot} {rest st0 : List Value}
variable {D : va_G} {cl : List vw_C} {tys : List (ClassId × FieldType)} {ws wc wr : va_W} {A : Nat → Prop} {S : Type} {w1 ws' : S → va_W} {mc ms : Nat}
theorem z_newT {atype : ArrayType} {ty : FieldType} (hexec : p.tables.exec = Jvm.exec) (hb : c.code = cc) (harr : (Cond.arrayClass (newarray.typeOf atype)).before args s = true) (hty : newarray.typeOf atype = ty) (hdv : defaultValue ty = .int 0) (hK : va_K D cl tys s) (hP : va_P D cl ws H) (hD : va_D A ws) (hS : va_S A H0 H locs) (hA : ∀ q, H0.size ≤ q → A q) (t0 : Nat) {cT : ClassId} (ht : tys[t0]? = some (cT, ty)) (hnm : ∀ cA : ClassId, va_RA s cA ty → s.vm.findClass ("[" ++ ty.toString) = some cA)
    {n : Int} {N' : Nat} (hn : 0 ≤ n ∧ n < 2147483648) (hN : n.toNat = N') (hbytes : N' * componentBytes ty ≤ 536870912) (hcells : cells + 1 ≤ R.cells) (hslots : slots + N' ≤ R.slots) (hdg : decode cc pc = .ok (.newarray atype, 2))
    (kk : ∀ (q : Nat) (H1 : Heap), va_P D cl (ws ++ [(q, .inl (cT, N', .inl (zia (fun _ => 0))))]) H1 → va_D A (ws ++ [(q, .inl (cT, N', .inl (zia (fun _ => 0))))]) → va_S A H0 H1 locs →
      W p l e R s m args below meth c H1 locs (cells + 1) (slots + N') Q (F0 m (pc + 2) ls (.ref q :: rest))) : W p l e R s m args below meth c H locs cells slots Q (F0 m pc ls (.int (zI n) :: rest)) := by
  have hc : (zI n).toNatClampNeg = N' := by rw [zI_cl hn, hN]
  have hlt : ¬ zI n < 0 := fun q => absurd ((zI_lt (b := 0) (by omega) (by omega)).mp q) (by omega)
  refine va_newa (a0 := (N', .inl (zia (fun _ => 0)))) hexec hb harr hty hK hP hD hS hA (fun cA => by rw [vp_cell_i, hdv]; rfl) hlt hc hbytes hcells hslots hdg (fun q cA H1 hK1 hP1 hD1 hS1 => ?_)
  have hlast : (tys ++ [(cA, ty)])[tys.length]? = some (cA, ty) := by simp
  have e1 := hnm cA (hK1.2 _ _ hlast).2
  have e2 := hnm cT (hK.2 _ _ ht).2
  obtain rfl : cA = cT := Option.some.inj (e1.symm.trans e2)
  exact kk q H1 hP1 hD1 hS1
theorem z_newM {C : String} {index : Nat} {ownC : String} (hexec : p.tables.exec = Jvm.exec) (hb : c.code = cc) (hown : s.vm.findClass ownC = some m.cls) (hclink : (Cond.classLink ownC index C).before args s = true) (hover : va_AO C s) (hK : va_K D cl tys s) (hP : va_P D cl ws H) (hD : va_D A ws) (hS : va_S A H0 H locs) (hA : ∀ q, H0.size ≤ q → A q) (t0 : Nat) {cT : ClassId} (ht : tys[t0]? = some (cT, .object C))
    {n : Int} {N' : Nat} (hn : 0 ≤ n ∧ n < 2147483648) (hN : n.toNat = N') (hbytes : N' * 4 ≤ 536870912) (hcells : cells + 1 ≤ R.cells) (hslots : slots + N' ≤ R.slots) (hdg : decode cc pc = .ok (.anewarray index, 3))
    (kk : ∀ (q : Nat) (H1 : Heap), va_P D cl (ws ++ [(q, .inl (cT, N', .inr (.inr (.inr (.inr (fun _ => none))))))]) H1 → va_D A (ws ++ [(q, .inl (cT, N', .inr (.inr (.inr (.inr (fun _ => none))))))]) → va_S A H0 H1 locs →
      W p l e R s m args below meth c H1 locs (cells + 1) (slots + N') Q (F0 m (pc + 3) ls (.ref q :: rest))) : W p l e R s m args below meth c H locs cells slots Q (F0 m pc ls (.int (zI n) :: rest)) := by
  have hc : (zI n).toNatClampNeg = N' := by rw [zI_cl hn, hN]
  have hlt : ¬ zI n < 0 := fun q => absurd ((zI_lt (b := 0) (by omega) (by omega)).mp q) (by omega)
  refine va_newq hexec hb hown hclink hover hK hP hD hS hA hlt hc hbytes hcells hslots hdg (fun q cA H1 hK1 hP1 hD1 hS1 => ?_)
  have hlast : (tys ++ [(cA, FieldType.object C)])[tys.length]? = some (cA, .object C) := by simp
  obtain ⟨-, -, -, -, -, e1⟩ := (hK1.2 _ _ hlast).2
  obtain ⟨-, -, -, -, -, e2⟩ := (hK.2 _ _ ht).2
  obtain rfl : cA = cT := Option.some.inj (e1.symm.trans e2)
  exact kk q H1 hP1 hD1 hS1
theorem wr_callC {post : S → Prop} {aa : Array Value} (hr : va_Run p l e R s m args below meth c H locs cells slots mc ms (F0 m pc ls st0) rest (Qwv (va_A wc H.size) D post w1 aa) (va_A wc H.size))
    (hP : va_P D vwCl ws H) (hD : va_D A ws) (hS : va_S A s.heap H locs) (hA : ∀ q : Nat, s.heap.size ≤ q → A q) (isC isR perm : List Nat) (hC : isC.map (fun i => ws[i]?) = wc.map some) (hR : isR.map (fun i => ws[i]?) = wr.map some) (hn : va_nd isR = true) (hdis : ∀ i ∈ isR, i ∉ isC) (hpn : va_nd perm = true) (hperm : ∀ u : S, perm.map (fun i => (wr ++ w1 u)[i]?) = (ws' u).map some)
    (kk : ∀ (u : S) (H1 : Heap) (locs1 : List Loc), post u → va_P D vwCl (ws' u) H1 → va_D A (ws' u) → va_S A s.heap H1 locs1 → W p l e R s m args below meth c H1 locs1 (cells + mc) (slots + ms) Q (F0 m (pc + 3) ls rest)) : W p l e R s m args below meth c H locs cells slots Q (F0 m pc ls st0) := by
  have hF := va_free (wc := wc) hD hS hA isC hC
  refine va_callv hr hS (fun q _ h => hF q h) hF (fun u t H1 locs1 ht hvm hp hB hz hk hS1 => ?_)
  obtain ⟨hP1, hD1⟩ := hB
  rw [ht] at hP1
  obtain ⟨hP2, hD2⟩ := va_join (wr := wr) (w1 := w1 u) hP hD isC isR hC hR hn hdis hk hF hP1 hD1
  exact kk u H1 locs1 hp (hP2.sub perm (fm_of_map (hperm u))) (hD2.sub perm hpn (hperm u)) hS1
/-- a constructor of a nest mate -/
theorem wc_IN {post : S → Prop} {y : MethodName} {wl wl' : List Cond} {rf rl maxL index : Nat} {bytes : ByteArray} {host : String} {b : Nat}
    (M : MX p s m args meth c cc nL ret0 own Ts) (hO : va_AO "BedHouse$Moment" s) (hM : cCv l y wl (rmW rf mc ms rl) D tys [.ref b] wc H post w1 mc ms) (hT : GoodIn Ts wl) (hw : wl = Cond.code y bytes maxL none :: wl') (hlk : va_Nw (.methodLinkNest own index y host) s) (hin : Cond.initialized y.cls ∈ Ts) (him : Cond.instanceMethod y ∈ Ts) (hyn : y.name = "<init>") (hd : y.cls ≠ "java/lang/invoke/MethodHandle" ∧ y.cls ≠ "java/lang/invoke/VarHandle" ∧ (parseMethodDescriptor y.desc).map (fun d => d.parameters.length) = some 0) (hR0 : rf + 1 ≤ R.frames ∧ 8 + (maxL + 11) + rl ≤ R.locals)
    (hK : va_K D vwCl tys s) (hP : va_P D vwCl ws H) (hD : va_D A ws) (hS : va_S A s.heap H locs) (hA : ∀ q : Nat, s.heap.size ≤ q → A q) (isC isR perm : List Nat) (hC : isC.map (fun i => ws[i]?) = wc.map some) (hR : isR.map (fun i => ws[i]?) = wr.map some) (hn1 : va_nd isR = true) (hdis : ∀ i ∈ isR, i ∉ isC) (hpn : va_nd perm = true) (hperm : ∀ u : S, perm.map (fun i => (wr ++ w1 u)[i]?) = (ws' u).map some)
    (hl : ls.size = nL) (hst : st0 = .ref b :: rest) (hW : (rest.map fun v => v.category).sum ≤ 8) (hdg : decode cc pc = .ok (.invokespecial index, 3)) (hcap : cells + mc ≤ R.cells ∧ slots + ms ≤ R.slots) (hnC : va_nd isC = true)
    (kk : ∀ (u : S) (H1 : Heap) (locs1 : List Loc), post u → va_P D vwCl (ws' u) H1 → va_D A (ws' u) → va_S A s.heap H1 locs1 → W p l e R s m args below meth c H1 locs1 (cells + mc) (slots + ms) Q (F0 m (pc + 3) ls rest)) : W p l e R s m args below meth c H locs cells slots Q (F0 m pc ls st0) :=
  wr_callC (wc := wc) (va_runIN (As := []) (rest := rest) M.fix hM ⟨va_cnB 0 M.2.2.2.2.2.1 hT hw rfl rfl hlk (M.2.2.2.2.2.1 _ hin) hd hR0, hyn, M.2.2.2.2.2.1 _ him⟩ ⟨PZC_blind, fun U hU hW => ⟨rfl, hU, hP.sub isC (fm_of_map hC), va_K.moved hW.alike hK, M.2.2.2.2.2.2.2.warm hW, va_AO.moved hW.alike hO, (hD.sub isC (hnC) hC).weaken (fun _ _ _ _ => trivial)⟩⟩ rfl rfl hl hst (lv_room hW) hdg hcap) hP hD hS hA isC isR perm hC hR hn1 hdis hpn hperm kk
/-- a constructor by a plain link -/
theorem wc_I {post : S → Prop} {y : MethodName} {wl wl' : List Cond} {rf rl maxL index : Nat} {bytes : ByteArray} {b : Nat}
    (M : MX p s m args meth c cc nL ret0 own Ts) (hO : va_AO "BedHouse$Moment" s) (hM : cCv l y wl (rmW rf mc ms rl) D tys [.ref b] wc H post w1 mc ms) (hT : GoodIn Ts wl) (hw : wl = Cond.code y bytes maxL none :: wl') (hlk : Cond.methodLink own index y ∈ Ts) (hin : Cond.initialized y.cls ∈ Ts) (him : Cond.instanceMethod y ∈ Ts) (hyn : y.name = "<init>") (hd : y.cls ≠ "java/lang/invoke/MethodHandle" ∧ y.cls ≠ "java/lang/invoke/VarHandle" ∧ (parseMethodDescriptor y.desc).map (fun d => d.parameters.length) = some 0) (hR0 : rf + 1 ≤ R.frames ∧ 8 + (maxL + 11) + rl ≤ R.locals)
    (hK : va_K D vwCl tys s) (hP : va_P D vwCl ws H) (hD : va_D A ws) (hS : va_S A s.heap H locs) (hA : ∀ q : Nat, s.heap.size ≤ q → A q) (isC isR perm : List Nat) (hC : isC.map (fun i => ws[i]?) = wc.map some) (hR : isR.map (fun i => ws[i]?) = wr.map some) (hn1 : va_nd isR = true) (hdis : ∀ i ∈ isR, i ∉ isC) (hpn : va_nd perm = true) (hperm : ∀ u : S, perm.map (fun i => (wr ++ w1 u)[i]?) = (ws' u).map some)
    (hl : ls.size = nL) (hst : st0 = .ref b :: rest) (hW : (rest.map fun v => v.category).sum ≤ 8) (hdg : decode cc pc = .ok (.invokespecial index, 3)) (hcap : cells + mc ≤ R.cells ∧ slots + ms ≤ R.slots) (hnC : va_nd isC = true)
    (kk : ∀ (u : S) (H1 : Heap) (locs1 : List Loc), post u → va_P D vwCl (ws' u) H1 → va_D A (ws' u) → va_S A s.heap H1 locs1 → W p l e R s m args below meth c H1 locs1 (cells + mc) (slots + ms) Q (F0 m (pc + 3) ls rest)) : W p l e R s m args below meth c H locs cells slots Q (F0 m pc ls st0) :=
  wr_callC (wc := wc) (va_runI (As := []) (rest := rest) M.fix hM (cwI 0 M.2.2.2.2.2.1 hT hw rfl rfl (M.2.2.2.2.2.1 _ hin) (M.2.2.2.2.2.1 _ hlk) (M.2.2.2.2.2.1 _ him) hyn hd hR0) ⟨PZC_blind, fun U hU hW => ⟨rfl, hU, hP.sub isC (fm_of_map hC), va_K.moved hW.alike hK, M.2.2.2.2.2.2.2.warm hW, va_AO.moved hW.alike hO, (hD.sub isC (hnC) hC).weaken (fun _ _ _ _ => trivial)⟩⟩ rfl rfl hl hst (lv_room hW) hdg hcap) hP hD hS hA isC isR perm hC hR hn1 hdis hpn hperm kk
end ZI
