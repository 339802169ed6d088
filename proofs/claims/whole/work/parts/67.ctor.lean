/-! CONSTRUCTORS: they make cells; by the kit's rows -/
def zt (tC : FieldType → ClassId) : List (ClassId × FieldType) := [(tC .int, .int), (tC .long, .long), (tC .boolean, .boolean)]
def zX (p : Program) (s : State) (m : MethodId) (args : Array Value) (c : Code) (own : String) (cc : ByteArray) (nL : Nat) (D : va_G) (tC : FieldType → ClassId) : Prop := (p.tables.exec = Jvm.exec ∧ c.code = cc ∧ c.maxLocals = nL ∧ s.vm.findClass own = some m.cls ∧ ∀ w ∈ ww_T, w.before args s = true) ∧ va_K D vwCl (zt tC) s ∧ qq_nw ww_N s
def zPre (D : va_G) (tC : FieldType → ClassId) (sz : Nat) (ws0 : va_W) (U : State) : Prop := U.heap.size = sz ∧ va_P D vwCl ws0 U.heap ∧ va_K D vwCl (zt tC) U ∧ qq_nw ww_N U ∧ va_D (fun _ => True) ws0
def zB (D : va_G) (ws0 : va_W) (sz : Nat) (post : (Nat → Nat) → va_W) (q : Nat → Nat) (t : State) : Prop := va_P D vwCl (post q) t.heap ∧ va_D (va_A ws0 sz) (post q)
def zM (l : Launch) (y : MethodName) (b : ByteArray) (nL : Nat) (rm : Room) (mc ms : Nat) (As : List Value) (D : va_G) (tC : FieldType → ClassId) (ws0 : va_W) (post : (Nat → Nat) → va_W) : Prop := ∀ sz : Nat, Met l y (.code y b nL none :: ww_T) rm (va_Pc As (zPre D tC sz ws0)) (va_Qv (fun _ : Nat → Nat => True) (zB D ws0 sz post) (va_A ws0 sz)) mc ms (va_A ws0 sz)
theorem z_mk {l : Launch} {y : MethodName} {b : ByteArray} {nL : Nat} {rm : Room} {mc ms : Nat} {As : List Value} {D : va_G} {tC : FieldType → ClassId} {ws0 : va_W} {post : (Nat → Nat) → va_W} (hy : plainName y.cls = true) (hwd : (lg_sl As).length ≤ nL)
    (body : ∀ (p : Program) (e : Env) (s : State) (m : MethodId) (args : Array Value) (below : List Frame) (meth : Method) (c : Code) (Q : State → Prop), zX p s m args c y.cls b nL D tC → meth.name = y.name → ∀ (A : Nat → Prop), (∀ q, s.heap.size ≤ q → A q) → ∀ (ls : Array Slot) (H : Heap) (locs : List Loc), lv_has ls nL (lv_args 0 As) → va_P D vwCl ws0 H → va_D A ws0 → va_S A s.heap H locs → (∀ (H1 : Heap) (locs1 : List Loc) (q : Nat → Nat), va_P D vwCl (post q) H1 → va_D A (post q) → va_S A s.heap H1 locs1 → ∀ (pc : Nat) (ls : Array Slot), decode b pc = .ok (.return_, 1) → W p l e rm s m args below meth c H1 locs1 mc ms Q (F0 m pc ls [])) → W p l e rm s m args below meth c H locs 0 0 Q (F0 m 0 ls [])) : zM l y b nL rm mc ms As D tC ws0 post := by
  intro sz
  refine Met.ofW (cc := b) (maxL := nL) (ret := none) hy rfl ?_
  intro p e s m args below meth c s₁ B hml hv
  obtain ⟨rfl, hsz, hP, hK, hN, hD0⟩ := hv
  have hx := B.exec
  have hb := B.bytes
  have hr := B.returns
  have hts := atoms_spec (ws := .code y b nL none :: ww_T) B.pre
  have hown : s.vm.findClass y.cls = some m.cls := findClass_of_methodNamed B.named
  have hlocks := B.notSynchronized
  have hin : meth.name = y.name := (name_of_methodNamed B.named B.method).1
  subst hsz
  have X : zX p s m As.toArray c y.cls b nL D tC := ⟨⟨hx, hb, hml, hown, fun w hw => hts w (List.mem_cons_of_mem _ hw)⟩, hK, hN⟩
  have hD := hD0.self (sz := s.heap.size)
  have hS : va_S (va_A ws0 s.heap.size) s.heap s.heap [] := va_S.rf
  have hl := lv_entry As (n := nL) hwd
  rw [lg_entry_eq]
  generalize (lg_sl As ++ List.replicate (nL - (lg_sl As).length) Slot.unset).toArray = ls at hl ⊢
  refine body p e s m As.toArray below meth c _ X hin (va_A ws0 s.heap.size) (fun q h => Or.inr h) ls s.heap [] hl hP hD hS (fun H1 locs1 q hP1 hD1 hS1 pc ls hdg => ?_)
  exact W.vret hx hb hr (fun t ht hW => ⟨⟨q, rfl, trivial, by rw [ht]; exact hP1, hD1⟩, hS1.F ht⟩) hS1.2.2 hdg
section ZC
variable {p : Program} {l : Launch} {e : Env} {R : Room} {s : State} {m : MethodId} {args : Array Value} {below : List Frame} {meth : Method} {c : Code} {H : Heap} {locs : List Loc} {cells slots nL : Nat} {Q : State → Prop}
variable {D : va_G} {tC : FieldType → ClassId} {own : String} {cc : ByteArray} {A : Nat → Prop} {H0 : Heap} {ws : va_W} {ls : Array Slot} {pc : Nat} {rest : List Value}
theorem z_w (X : zX p s m args c own cc nL D tC) {w : Cond} (h : w ∈ ww_T) : w.before args s = true := X.1.2.2.2.2 w h
theorem z_obj (X : zX p s m args c own cc nL D tC) {idx a : Nat} (h1 : Cond.methodLink own idx Lib.objectInit ∈ ww_T) (h2 : Cond.instanceMethod Lib.objectInit ∈ ww_T) (h3 : Cond.code Lib.objectInit ⟨#[0xb1]⟩ 1 none ∈ ww_T) (hl : ls.size = nL) (hf : 1 ≤ R.frames) (hlo : 12 ≤ R.locals) (hd : decode cc pc = .ok (.invokespecial idx, 3))
    (kk : W p l e R s m args below meth c H locs cells slots Q (F0 m (pc + 3) ls [])) : W p l e R s m args below meth c H locs cells slots Q (F0 m pc ls [.ref a]) := by
  refine W.objInit X.1.1 X.1.2.1 X.1.2.2.2.1 (z_w X h1) (z_w X h2) (z_w X h3) rfl (by rw [X.1.2.2.1]; exact hl) rfl hd hf (by show 2 * 0 + 0 + 12 ≤ _; omega) ?_
  exact W.eq (g2 := F0 m (pc + 3) ls []) rfl kk
theorem z_newa (X : zX p s m args c own cc nL D tC) (hP : va_P D vwCl ws H) (hD : va_D A ws) (hS : va_S A H0 H locs) (hA : ∀ q, H0.size ≤ q → A q) {atype : ArrayType} {ty : FieldType} (hty : newarray.typeOf atype = ty) (h3 : ty = .int ∨ ty = .long ∨ ty = .boolean) (hw : Cond.arrayClass ty ∈ ww_T)
    {n : Int32} {N' : Nat} {a0 : vp_A} (ha : ∀ cA : ClassId, vp_cell cA a0 = arrV cA N' (fun _ => defaultValue ty)) (hn : ¬ n < 0) (hN : n.toNatClampNeg = N') (hbytes : N' * componentBytes ty ≤ 536870912) (hcells : cells + 1 ≤ R.cells) (hslots : slots + N' ≤ R.slots) (hdg : decode cc pc = .ok (.newarray atype, 2))
    (kk : ∀ (q : Nat) (H1 : Heap), va_P D vwCl (ws ++ [(q, .inl (tC ty, a0))]) H1 → va_D A (ws ++ [(q, .inl (tC ty, a0))]) → va_S A H0 H1 locs → W p l e R s m args below meth c H1 locs (cells + 1) (slots + N') Q (F0 m (pc + 2) ls (.ref q :: rest))) : W p l e R s m args below meth c H locs cells slots Q (F0 m pc ls (.int n :: rest)) := by
  refine va_newa X.1.1 X.1.2.1 (by rw [hty]; exact z_w X hw) hty X.2.1 hP hD hS hA ha hn hN hbytes hcells hslots hdg (fun q cA H1 hK1 hP1 hD1 hS1 => ?_)
  have e1 : va_RA s cA ty := (hK1.2 3 (cA, ty) rfl).2
  have e2 : va_RA s (tC ty) ty := by
    rcases h3 with rfl | rfl | rfl
    · exact (X.2.1.2 0 _ rfl).2
    · exact (X.2.1.2 1 _ rfl).2
    · exact (X.2.1.2 2 _ rfl).2
  have e : cA = tC ty := by
    rcases h3 with rfl | rfl | rfl <;> exact Option.some.inj (e1.symm.trans e2)
  subst e
  exact kk q H1 hP1 hD1 hS1
theorem z_put (X : zX p s m args c own cc nL D tC) {ci : Nat} {C : String} {T : u_T} {N : Nat} (hc : vwCl[ci]? = some (C, T, N)) (hin : ∀ w ∈ u_ws C T N, w ∈ ww_T) {ty0 : Nat → FieldType} (hty0 : ∀ k, k < N → parseFieldDescriptor (T k).2.2.1 = some (ty0 k)) (hnm : ∀ a, a < N → ∀ b, b < N → a ≠ b → (T a).2.1 ≠ (T b).2.1) (hP : va_P D vwCl ws H) (hD : va_D A ws) (hS : va_S A H0 H locs) (hin2 : meth.name = "<init>") (q0 : Nat) {h0 : Nat} {fs : List Value} (he : ws[q0]? = some (h0, .inr (ci, fs)))
    (k : Nat) {idx : Nat} (hk : k < N) (hlink : Cond.fieldLink own idx (T k).1 (T k).2.1 (T k).2.2.1 ∈ ww_T) (hfin : (T k).2.2.2 = true) (hdecl : (T k).1 = own) {fty : FieldType} (hd : parseFieldDescriptor (T k).2.2.1 = some fty) {v : Value} (hn : narrow fty v = v) (hfit : fits fty v = true) (hl : k < fs.length) (hdg : decode cc pc = .ok (.putfield idx, 3))
    (kk : ∀ (H1 : Heap) (locs1 : List Loc), va_P D vwCl (ws.set q0 (h0, .inr (ci, fs.set k v))) H1 → va_D A (ws.set q0 (h0, .inr (ci, fs.set k v))) → va_S A H0 H1 locs1 → W p l e R s m args below meth c H1 locs1 cells slots Q (F0 m (pc + 3) ls rest)) : W p l e R s m args below meth c H locs cells slots Q (F0 m pc ls (v :: .ref h0 :: rest)) :=
  va_putF (D := D) X.1.1 X.1.2.1 X.1.2.2.2.2 hin ty0 hty0 hnm X.1.2.2.2.1 X.2.1 hP hD hS q0 he hc k hk (z_w X hlink) (fun _ h => h) hfin hin2 hdecl hd hn hfit hl hdg kk
theorem z_get (X : zX p s m args c own cc nL D tC) {ci : Nat} {C : String} {T : u_T} {N : Nat} (hc : vwCl[ci]? = some (C, T, N)) (hin : ∀ w ∈ u_ws C T N, w ∈ ww_T) (hP : va_P D vwCl ws H) (q0 : Nat) {h0 : Nat} {fs : List Value} (he : ws[q0]? = some (h0, .inr (ci, fs))) (k : Nat) {idx : Nat} (hk : k < N) (hlink : Cond.fieldLink own idx (T k).1 (T k).2.1 (T k).2.2.1 ∈ ww_T) {v : Value} (hv : fs[k]? = some v) (hdg : decode cc pc = .ok (.getfield idx, 3))
    (kk : W p l e R s m args below meth c H locs cells slots Q (F0 m (pc + 3) ls (v :: rest))) : W p l e R s m args below meth c H locs cells slots Q (F0 m pc ls (.ref h0 :: rest)) :=
  va_get (D := D) X.1.1 X.1.2.1 X.1.2.2.2.2 hin X.1.2.2.2.1 X.2.1 hP q0 he hc k hk (z_w X hlink) (fun _ h => h) hv hdg kk
theorem z_new (X : zX p s m args c own cc nL D tC) {ci : Nat} {C : String} {T : u_T} {N : Nat} (hc : vwCl[ci]? = some (C, T, N)) (hin : ∀ w ∈ u_ws C T N, w ∈ ww_T) {ty0 : Nat → FieldType} (hty0 : ∀ k, k < N → parseFieldDescriptor (T k).2.2.1 = some (ty0 k)) (hP : va_P D vwCl ws H) (hD : va_D A ws) (hS : va_S A H0 H locs) (hA : ∀ q, H0.size ≤ q → A q) {idx : Nat} (hcl : Cond.classLink own idx C ∈ ww_T) (hinst : Cond.instantiable C N ∈ ww_T) (hini : Cond.initialized C ∈ ww_T) {fs : List Value} (hfs : ∀ j, j < N → defaultValue (ty0 j) = vp_V fs j) (hcells : cells + 1 ≤ R.cells) (hslots : slots + N ≤ R.slots) (hdg : decode cc pc = .ok (.new idx, 3))
    (kk : ∀ (q : Nat) (H1 : Heap), va_P D vwCl (ws ++ [(q, .inr (ci, fs))]) H1 → va_D A (ws ++ [(q, .inr (ci, fs))]) → va_S A H0 H1 locs → W p l e R s m args below meth c H1 locs (cells + 1) (slots + N) Q (F0 m (pc + 3) ls (.ref q :: rest))) : W p l e R s m args below meth c H locs cells slots Q (F0 m pc ls rest) :=
  va_new (D := D) X.1.1 X.1.2.1 X.1.2.2.2.2 hin ty0 hty0 X.1.2.2.2.1 (z_w X hcl) (z_w X hinst) (z_w X hini) X.2.1 hP hD hS hA hc hfs hcells hslots hdg kk
theorem z_call (X : zX p s m args c own cc nL D tC) (hP : va_P D vwCl ws H) (hD : va_D A ws) (hS : va_S A s.heap H locs) (hA : ∀ q, s.heap.size ≤ q → A q) {y : MethodName} {b : ByteArray} {nL' : Nat} {rm : Room} {mc ms a idx n : Nat} {As : List Value} {ws0 : va_W} {post : (Nat → Nat) → va_W} (hM : zM l y b nL' rm mc ms (.ref a :: As) D tC ws0 post) (i : Nat) (wr : va_W) (isR : List Nat) (hC : [i].map (fun j => ws[j]?) = ws0.map some) (hR : isR.map (fun j => ws[j]?) = wr.map some) (hnd : va_nd isR = true) (hdis : ∀ j ∈ isR, j ∉ [i])
    (hcode : Cond.code y b nL' none ∈ ww_T) (hini : Cond.initialized y.cls ∈ ww_T) (hlk : Cond.methodLink own idx y ∈ ww_T ∨ ∃ host, Cond.methodLinkNest own idx y host ∈ ww_N) (hinst : Cond.instanceMethod y ∈ ww_T) (hyn : y.name = "<init>") (hd : y.cls ≠ "java/lang/invoke/MethodHandle" ∧ y.cls ≠ "java/lang/invoke/VarHandle" ∧ (parseMethodDescriptor y.desc).map (fun d => d.parameters.length) = some n) (hn : As.length = n) (hrc : rm.cells = mc) (hrs : rm.slots = ms) (hR2 : rm.frames + 1 ≤ R.frames ∧ 8 + (nL' + 11) + rm.locals ≤ R.locals) (hl : ls.size = nL) (hw8 : (rest.map fun v => v.category).sum ≤ 8) (hf : cells + mc ≤ R.cells ∧ slots + ms ≤ R.slots) (hdg : decode cc pc = .ok (.invokespecial idx, 3))
    (kk : ∀ (q : Nat → Nat) (H1 : Heap) (locs1 : List Loc), va_P D vwCl (wr ++ post q) H1 → va_D A (wr ++ post q) → va_S A s.heap H1 locs1 → W p l e R s m args below meth c H1 locs1 (cells + mc) (slots + ms) Q (F0 m (pc + 3) ls rest)) : W p l e R s m args below meth c H locs cells slots Q (F0 m pc ls (As.reverse ++ .ref a :: rest)) := by
  have hFc := va_free (wc := ws0) hD hS hA [i] hC
  have hsub : [i].filterMap (fun j => ws[j]?) = ws0 := by
    cases h : ws[i]? with
    | none =>
      rw [List.map_cons, h, List.map_nil] at hC
      match ws0, hC with
      | [], hC => simp at hC
      | x :: r, hC => simp at hC
    | some x =>
      rw [List.map_cons, h, List.map_nil] at hC
      match ws0, hC with
      | [], hC => simp at hC
      | x :: r, hC =>
        simp at hC
        obtain ⟨e1, e2⟩ := hC
        simp [h, e1, e2]
  have hPc := hP.sub (ws' := ws0) [i] hsub
  have hDc := hD.sub (ws' := ws0) [i] (by simp [va_nd]) hC
  have hpre : PreS s H (va_Pc (.ref a :: As) (zPre D tC H.size ws0)) (.ref a :: As) := by
    refine ⟨fun a U g mk q => ?_, fun U hU hW => ⟨rfl, by rw [hU], by rw [hU]; exact hPc, va_K.moved hW.alike X.2.1, qq_nw_warm hW X.2.2, hDc.weaken (fun _ _ _ _ => trivial)⟩⟩
    obtain ⟨q0, q1, qP, qK, qN, qD⟩ := q
    exact ⟨q0, q1, qP, va_K.moved (u := U) (U := U.calling g mk a) (Vm.Alike.refl U.vm) qK, qq_nw_same (s := U) (U := U.calling g mk a) rfl qN, qD⟩
  have hgo : va_Run p l e R s m args below meth c H locs cells slots mc ms (F0 m pc ls (As.reverse ++ .ref a :: rest)) rest (va_Qv (fun _ : Nat → Nat => True) (zB D ws0 H.size post) (va_A ws0 H.size) (Value.ref a :: As).toArray) (va_A ws0 H.size) := by
    rcases hlk with h | ⟨host, h⟩
    · exact va_runI (As := As) (rest := rest) (Ts := ww_T) ⟨X.1.1, X.1.2.1, X.1.2.2.1, X.1.2.2.2.1, X.1.2.2.2.2⟩ (hM H.size) (cwI n X.1.2.2.2.2 (qq_gin ww_gd hcode) rfl hrc hrs (z_w X hini) (z_w X h) (z_w X hinst) hyn hd hR2) hpre rfl hn hl rfl (by show 2 * 0 + _ ≤ 8; omega) hdg hf
    · exact va_runIN (As := As) (rest := rest) (Ts := ww_T) (host := host) ⟨X.1.1, X.1.2.1, X.1.2.2.1, X.1.2.2.2.1, X.1.2.2.2.2⟩ (hM H.size) ⟨va_cnB n X.1.2.2.2.2 (qq_gin ww_gd hcode) rfl hrc hrs (X.2.2 _ h).2 (z_w X hini) hd hR2, hyn, z_w X hinst⟩ hpre rfl hn hl rfl (by show 2 * 0 + _ ≤ 8; omega) hdg hf
  refine va_callv hgo hS (fun q _ h => hFc q h) hFc (fun u t H1 locs1 ht hvm hw hB hz1 hk1 hS1 => ?_)
  obtain ⟨hP1, hD1⟩ := hB
  rw [ht] at hP1
  obtain ⟨hP2, hD2⟩ := va_join (wr := wr) (w1 := post u) hP hD [i] isR hC hR hnd hdis hk1 hFc hP1 hD1
  exact kk u H1 locs1 hP2 hD2 hS1
end ZC
