section QQ5
variable {p : Program} {l : Launch} {e : Env} {R : Room} {s : State} {m : MethodId} {args : Array Value} {below : List Frame} {meth : Method} {c : Code}
variable {D : va_G} {cl : List vw_C} {tys : List (ClassId × FieldType)} {sh : List qq_s} {ro : qq_R} {zs : List (String × String × String × Nat)} {tC : FieldType → ClassId} {ad : Nat → Nat} {cells slots nL : Nat} {Q : State → Prop} {cc : ByteArray}
variable {Ts Ns : List Cond} {own : String} {pc : Nat}
/-- what is fixed in a frame, with its statics -/
def qq_X (p : Program) (s : State) (m : MethodId) (args : Array Value) (c : Code) (Ts Ns : List Cond) (own : String) (cc : ByteArray) (nL : Nat) (D : va_G) (cl : List vw_C) (tys : List (ClassId × FieldType)) (tC : FieldType → ClassId) (sh : List qq_s) (ro : qq_R) (zs : List (String × String × String × Nat)) (ad : Nat → Nat) : Prop :=
  (p.tables.exec = Jvm.exec ∧ c.code = cc ∧ c.maxLocals = nL ∧ s.vm.findClass own = some m.cls ∧ ∀ w ∈ Ts, w.before args s = true) ∧ va_K D cl tys s ∧ (∀ ty, ty = .int ∨ ty = .long ∨ ty = .boolean → ∃ t0 : Nat, tys[t0]? = some (tC ty, ty)) ∧ qq_ap sh ad ∧ qq_rok ro sh ad (qq_A sh ad s.heap.size) s ∧ qq_zok zs ad (qq_A sh ad s.heap.size) s ∧ qq_nw Ns s
theorem qq_A_le {sz sz' : Nat} (h : sz ≤ sz') (q : Nat) (hq : qq_A sh ad sz' q) : qq_A sh ad sz q := hq.elim Or.inl fun z => Or.inr (Nat.le_trans h z)
theorem qq_X_U (X : qq_X p s m args c Ts Ns own cc nL D cl tys tC sh ro zs ad) {w : qq_w} {H : Heap} {locs : List Loc} (hP : va_P D cl (qq_c sh tC ad w) H) (hS : va_S (qq_A sh ad s.heap.size) s.heap H locs) {U : State} (hU : U.heap = H) (hWr : s.WarmedH U.vm) : qq_U D cl tys tC sh ro zs Ns ad w U := by
  obtain ⟨-, hK, htC, hap, hro, hzo, hN⟩ := X
  subst hU
  have hW := hWr.alike
  exact ⟨hP, hK.moved hW, htC, hap, fun k n f h => ((((hro k n f h).kept hS.2.1).narrow (fun q hq => qq_A_le hS.1 q hq)).moved hW), fun z hz => ((((hzo z hz).kept hS.2.1).narrow (fun q hq => qq_A_le hS.1 q hq)).moved hW), qq_nw_warm hWr hN⟩
theorem qq_U_blind {w : qq_w} {sz : Nat} {As : List Value} : FrameBlind (va_Pc (As.map (qq_g ad)) (fun U => U.heap.size = sz ∧ qq_U D cl tys tC sh ro zs Ns ad w U)) := by
  intro a U g mk h
  obtain ⟨h0, h1, h2, h3, h4, h5, h6, h7, h8⟩ := h
  exact ⟨h0, h1, h2, va_K.moved (u := U) (U := U.calling g mk a) (Vm.Alike.refl U.vm) h3, h4, h5, fun k n f h => (h6 k n f h).moved (u := U) (U := U.calling g mk a) (Vm.Alike.refl U.vm), fun z hz => (h7 z hz).moved (u := U) (U := U.calling g mk a) (Vm.Alike.refl U.vm), qq_nw_same (s := U) (U := U.calling g mk a) rfl h8⟩
/-- behind a call -/
theorem qq_back {a : Array Value} {P' : Option Value → qq_w → Prop} {lv : qq_L} {rest : List Value} {st0 : List Value} (hap : qq_ap sh ad)
    (kk : ∀ v w', P' v w' → qq_W p l e R s m args below meth c D cl sh tC ad (qq_A sh ad s.heap.size) cells slots nL Q (pc + 3) lv (v.toList ++ rest) w')
    {ls : Array Slot} {H : Heap} {locs : List Loc} (hS : va_S (qq_A sh ad s.heap.size) s.heap H locs) (hl : lv_has ls nL (qq_G ad lv))
    (hr : va_Run p l e R s m args below meth c H locs cells slots 0 0 (F0 m pc ls st0) (rest.map (qq_g ad)) (qq_Q D cl tC sh ad H.size P' a) (qq_A sh ad H.size)) : W p l e R s m args below meth c H locs cells slots Q (F0 m pc ls st0) := by
  intro T hT X
  obtain ⟨v, st₀, t, T', L, h0, X', hL, e1, e2, ⟨⟨u, w', hv, hp, hP1⟩, hz, hk⟩, st⟩ := hr T hT X
  cases hv
  rw [h0] at hz hk
  have hS1 : va_S (qq_A sh ad s.heap.size) s.heap T'.heap (locs ++ L) := by
    refine ⟨Nat.le_trans hS.1 (by rw [e1]; exact hz), fun q h1 h2 => ?_, fun q hq => ?_⟩
    · rw [e1, hk q (Nat.lt_of_lt_of_le h1 hS.1) (fun z => h2 (qq_A_le hS.1 q z))]
      exact hS.2.1 q h1 h2
    · rcases List.mem_append.mp hq with h | h
      · exact hS.2.2 q h
      · exact qq_A_le hS.1 _ (hL q h)
  have hd : va_D (qq_A sh ad s.heap.size) (qq_c sh tC ad w') := qq_D_of hap fun k hk => Or.inl ⟨k, hk, rfl⟩
  obtain ⟨t2, a1, b1⟩ := kk u w' hp ls T'.heap (locs ++ L) (by rw [e1]; exact hP1) hd hS1 hl T' rfl X'
  refine ⟨t2, st t2 ?_, b1⟩
  have e3 : (u.toList ++ rest).map (qq_g ad) = (u.map (qq_g ad)).toList ++ rest.map (qq_g ad) := by cases u <;> simp
  rw [e3] at a1
  exact a1
theorem qq_wd_cat (ad : Nat → Nat) : ∀ (st : List Value), ((st.map (qq_g ad)).map fun v => v.category).sum = qq_wd st
  | [] => rfl
  | v :: r => by
    have := qq_wd_cat ad r
    simp only [List.map_cons, List.sum_cons, qq_wd, this]
    cases v <;> rfl
def qq_gd (Ts : List Cond) : Prop := ∀ w ∈ Ts, (w.onTables && w.keeps) = true ∨ ∃ ty, w = .arrayClass ty
theorem qq_gin {y : MethodName} {b : ByteArray} {n : Nat} {r : Option FieldType} (hg : qq_gd Ts) (hc : Cond.code y b n r ∈ Ts) : GoodIn Ts (Cond.code y b n r :: Ts) := by
  intro w hw
  rcases List.mem_cons.mp hw with rfl | hw
  · exact ⟨hc, hg _ hc⟩
  · exact ⟨hw, hg _ hw⟩
theorem qq_cV {y : MethodName} {b : ByteArray} {nL' i n ci : Nat} {ret : Option FieldType} {rm : Room} {T : qq_t} {T0 : u_T} {N0 : Nat} (X : qq_X p s m args c Ts Ns own cc nL D cl tys tC sh ro zs ad) (hg : qq_gd Ts) (hM : qq_M l Ts Ns cl sh ro zs y b nL' ret rm T)
    (hc : Cond.code y b nL' ret ∈ Ts) (hlk : Cond.methodLink own i y ∈ Ts ∨ ∃ host, Cond.methodLinkNest own i y host ∈ Ns) (hin : Cond.instanceMethod y ∈ Ts) (hsel : Cond.selects y.cls y y ∈ Ts) (hini : Cond.initialized y.cls ∈ Ts)
    (hd : y.cls ≠ "java/lang/invoke/MethodHandle" ∧ y.cls ≠ "java/lang/invoke/VarHandle" ∧ (parseMethodDescriptor y.desc).map (fun d => d.parameters.length) = some n)
    (hcl : cl[ci]? = some (y.cls, T0, N0)) (hrc : rm.cells = 0) (hrs : rm.slots = 0) (hR : rm.frames + 1 ≤ R.frames ∧ 8 + (nL' + 11) + rm.locals ≤ R.locals) (hf : cells ≤ R.cells ∧ slots ≤ R.slots)
    (hrecv : ∀ As w P, T As w P → ∃ k r fs, As = .ref k :: r ∧ sh[k]? = some (.inr (ci, fs))) (hdg : decode cc pc = .ok (.invokevirtual i, 3)) :
    qq_ok p l e R s m args below meth c D cl sh tC ad (qq_A sh ad s.heap.size) cells slots nL Q pc (n + 1) T := by
  intro lv As rest w P' hn hwd hT kk ls H locs hP hD hS hl
  obtain ⟨k, r, fs, rfl, hk⟩ := hrecv As w P' hT
  have hX := X
  obtain ⟨hX0, hK, -, hap, -, -, hN⟩ := X
  have hts := hX0.2.2.2.2
  have hM' := hM D tys tC ad H.size (.ref k :: r) w P' hT
  have hpre : PreV s H y.cls (ad k) (va_Pc ((Value.ref k :: r).map (qq_g ad)) (fun U => U.heap.size = H.size ∧ qq_U D cl tys tC sh ro zs Ns ad w U)) (r.map (qq_g ad)) :=
    ⟨qq_U_blind, va_recv hK hP hcl (qq_c_at hk), fun U hU hW => ⟨rfl, by rw [hU], qq_X_U hX hP hS hU hW⟩⟩
  have hlen : (r.map (qq_g ad)).length = n := by simpa using hn
  have hstk : ((Value.ref k :: r).reverse ++ rest).map (qq_g ad) = (r.map (qq_g ad)).reverse ++ .ref (ad k) :: rest.map (qq_g ad) := by simp [qq_g]
  have hrm : 2 * (F0 m pc ls (((Value.ref k :: r).reverse ++ rest).map (qq_g ad))).monitorRoom + ((rest.map (qq_g ad)).map fun v => v.category).sum ≤ 8 := lv_room (by rw [qq_wd_cat]; exact hwd)
  refine qq_back (a := (Value.ref (ad k) :: r.map (qq_g ad)).toArray) hap kk hS hl ?_
  rcases hlk with hlk | ⟨host, hlk⟩
  · refine va_runV (g := F0 m pc ls (((Value.ref k :: r).reverse ++ rest).map (qq_g ad))) hX0 hM' (C := y.cls) (n := n) (bytes := b) (maxL := nL') (ret := ret) ⟨callB_of n hts (qq_gin hg hc) rfl hrc hrs (hts _ hini) (hts _ hlk) hd hR, hts _ hin, hts _ hsel⟩ hpre rfl hlen hl.1 hstk hrm hdg hf
  · refine va_runVN (host := host) (g := F0 m pc ls (((Value.ref k :: r).reverse ++ rest).map (qq_g ad))) hX0 hM' (C := y.cls) (n := n) (bytes := b) (maxL := nL') (ret := ret) ⟨va_cnB n hts (qq_gin hg hc) rfl hrc hrs (hN _ hlk).2 (hts _ hini) hd hR, hts _ hin, hts _ hsel⟩ hpre rfl hlen hl.1 hstk hrm hdg hf
theorem qq_cS {y : MethodName} {b : ByteArray} {nL' i n : Nat} {ret : Option FieldType} {rm : Room} {T : qq_t} (X : qq_X p s m args c Ts Ns own cc nL D cl tys tC sh ro zs ad) (hg : qq_gd Ts) (hM : qq_M l Ts Ns cl sh ro zs y b nL' ret rm T)
    (hc : Cond.code y b nL' ret ∈ Ts) (hlk : Cond.methodLink own i y ∈ Ts ∨ ∃ host, Cond.methodLinkNest own i y host ∈ Ns) (hst : Cond.static y ∈ Ts) (hini : Cond.initialized y.cls ∈ Ts)
    (hd : y.cls ≠ "java/lang/invoke/MethodHandle" ∧ y.cls ≠ "java/lang/invoke/VarHandle" ∧ (parseMethodDescriptor y.desc).map (fun d => d.parameters.length) = some n)
    (hrc : rm.cells = 0) (hrs : rm.slots = 0) (hR : rm.frames + 1 ≤ R.frames ∧ 8 + (nL' + 11) + rm.locals ≤ R.locals) (hf : cells ≤ R.cells ∧ slots ≤ R.slots) (hdg : decode cc pc = .ok (.invokestatic i, 3)) :
    qq_ok p l e R s m args below meth c D cl sh tC ad (qq_A sh ad s.heap.size) cells slots nL Q pc n T := by
  intro lv As rest w P' hn hwd hT kk ls H locs hP hD hS hl
  have hX := X
  obtain ⟨hX0, hK, -, hap, -, -, hN⟩ := X
  have hts := hX0.2.2.2.2
  have hM' := hM D tys tC ad H.size As w P' hT
  have hpre : PreS s H (va_Pc (As.map (qq_g ad)) (fun U => U.heap.size = H.size ∧ qq_U D cl tys tC sh ro zs Ns ad w U)) (As.map (qq_g ad)) :=
    ⟨qq_U_blind, fun U hU hW => ⟨rfl, by rw [hU], qq_X_U hX hP hS hU hW⟩⟩
  have hlen : (As.map (qq_g ad)).length = n := by simpa using hn
  have hstk : (As.reverse ++ rest).map (qq_g ad) = (As.map (qq_g ad)).reverse ++ rest.map (qq_g ad) := by simp
  have hrm : 2 * (F0 m pc ls ((As.reverse ++ rest).map (qq_g ad))).monitorRoom + ((rest.map (qq_g ad)).map fun v => v.category).sum ≤ 8 := lv_room (by rw [qq_wd_cat]; exact hwd)
  refine qq_back (a := (As.map (qq_g ad)).toArray) hap kk hS hl ?_
  rcases hlk with hlk | ⟨host, hlk⟩
  · refine va_runS (g := F0 m pc ls ((As.reverse ++ rest).map (qq_g ad))) hX0 hM' (n := n) (bytes := b) (maxL := nL') (ret := ret) ⟨callB_of n hts (qq_gin hg hc) rfl hrc hrs (hts _ hini) (hts _ hlk) hd hR, hts _ hst⟩ hpre rfl hlen hl.1 hstk hrm hdg hf
  · refine va_runSN (host := host) (g := F0 m pc ls ((As.reverse ++ rest).map (qq_g ad))) hX0 hM' (n := n) (bytes := b) (maxL := nL') (ret := ret) ⟨va_cnB n hts (qq_gin hg hc) rfl hrc hrs (hN _ hlk).2 (hts _ hini) hd hR, hts _ hst, trivial⟩ hpre rfl hlen hl.1 hstk hrm hdg hf
end QQ5
