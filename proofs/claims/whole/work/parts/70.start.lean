/-! THE CLAIM OUT OF ONE WALK OF THE LAW'S BODY. Your part is whole_start (and what it stands on); all else here is the same for every law, but numbers. -/
def R_law : String := "ValidPathsLaw"
def lw_P (b : Addr) (xs : List Int32) (args : Array Value) (s : State) : Prop := args = #[.ref b] ∧ s.IntsAt b xs ∧ xs.length ≤ 3072 ∧ (Jvm.Cond.and given_1 narrow_1).before args s = true
def lw_Q (_ : Array Value) (s : State) (o : Outcome) (t : State) : Prop := o = .returned (some (.int 1)) ∧ Framed s o t [] 600000 7302250
def lw_Z (below : List Frame) (a : Array Value) (s : State) : State → Prop := fun t => ∃ o, t.status = .running ∧ Ended t below o ∧ lw_Q a s o t
/-- the law's own end, with 1 on the stack, nothing written that was there before, its room as the claim has it -/
theorem lw_ret {p : Program} {l : Launch} {e : Env} {s : State} {m : MethodId} {below : List Frame} {meth : Method} {c : Code} {b : Nat} (hx : p.tables.exec = Jvm.exec) (hb : c.code = code) (hr : meth.sig.returnType = ret) (hlocks : meth.locks = false) {pc : Nat} {H : Heap} {ls : Array Slot} (hdg : decode code pc = .ok (.ireturn, 1)) : W p l e room_1 s m #[Value.ref b] below meth c H [] 600000 7302250 (lw_Z below #[Value.ref b] s) (F0 m pc ls [.int 1]) := by
  intro T hT X
  obtain ⟨fs, hret, hrun, hended, hW, hframe⟩ := X.leave (v := some (.int 1)) (hlocks := hlocks) (fun h => by rw [hr] at h; cases h)
  have hmeth' : T.vm.method? m = some meth := X.method'
  refine ⟨T.setFrames fs, ?_, .returned (some (.int 1)), hrun, hended, rfl, ⟨_, rfl⟩, hW, hframe⟩
  jvm_step X.here [X.here.top, hx, hb, hdg, hmeth', hr, ret, narrow_b1]
  (try refine ⟨rfl, ?_⟩); (try refine ⟨rfl, ?_⟩)
  first | (intro acts; rw [hret _ acts rfl rfl rfl]) | rw [hret _ _ rfl rfl rfl]
  exact Steps.refl _
/-- what holds at the law's entry: the machine, the code, the tables' words (any of lw_tbl by 'hts w (by decide +kernel)'), the script of L ints xs at the cell b, what the Statement gives of the start (any of its parts by flat_of_before) -/
def lw_At (p : Program) (s : State) (m : MethodId) (meth : Method) (c : Code) (b L : Nat) (xs : Nat → Int32) : Prop :=
  p.tables.exec = Jvm.exec ∧ c.code = code ∧ meth.sig.returnType = ret ∧ c.maxLocals = 4 ∧ s.vm.findClass R_law = some m.cls ∧ (∀ w ∈ lw_tbl, w.before #[Value.ref b] s = true) ∧ va_X b L xs s s.heap ∧ b < s.heap.size ∧ meth.locks = false ∧ (Jvm.Cond.and given_1 narrow_1).before #[Value.ref b] s = true
/-! FROM THE LAW'S ENTRY TO ITS LOOP -/
def lw_w0 : qq_w := (fun k => cond (Nat.beq k 18) (zff 2496 (-1)) (cond (Nat.beq k 54) (zff 2496 (-5)) (fun _ => 0)), fun _ _ => 0)
def lw_ad (a b0 : Nat) (u z : Nat → Nat) (t b : Nat) : Nat → Nat := fun k => cond (Nat.beq k 1000) t (cond (Nat.beq k 1001) b (List.getD [a, (u 0), (u 10), (u 12), (u 16), (u 24), (u 32), (u 17), b0, (u 1), (u 2), (u 3), (u 4), (u 5), (u 6), (u 7), (u 8), (u 9), (u 11), (u 13), (u 14), (u 15), (u 21), (u 22), (u 23), (u 25), (u 26), (u 27), (u 28), (u 29), (u 30), (u 31), (u 33), (u 18), (u 19), (u 20), (z 0), (z 1), (z 2), (z 3), (z 4), (z 5), (z 6), (z 7), (z 8), (z 9), (z 10), (z 11), (z 12), (z 13), (z 14), (z 15), (z 16), (z 17), (z 18), (z 19), (z 20), (z 21), (z 22), (z 23), (z 24), (z 25), (z 26), (z 27), (z 28)] k 0))
theorem lw_D {s : State} {args : Array Value} (hts : ∀ w ∈ ww_T, w.before args s = true) : ∃ D : va_G, ∀ (c : Nat) (q : vw_C), vwCl[c]? = some q → u_Kn s q.1 q.2.1 q.2.2 (D.1 c) (D.2 c) := by
  have h : ∀ c : Nat, ∃ r : ClassId × (Nat → Nat), ∀ q : vw_C, vwCl[c]? = some q → u_Kn s q.1 q.2.1 q.2.2 r.1 r.2 := by
    intro c
    match c with
    | 0 => obtain ⟨cC, iS, h⟩ := u_known (C := RX0) (T := TX0) (N := 2) hts ww_in0 (hts _ (ww_a2 (i := 13) (w := Cond.instantiable RX0 2) rfl rfl)); exact ⟨(cC, iS), fun q hq => by cases hq; exact h⟩
    | 1 => obtain ⟨cC, iS, h⟩ := u_known (C := RX1) (T := TX1) (N := 4) hts ww_in1 (hts _ (ww_a1 (i := 90) (w := Cond.instantiable RX1 4) rfl rfl)); exact ⟨(cC, iS), fun q hq => by cases hq; exact h⟩
    | 2 => obtain ⟨cC, iS, h⟩ := u_known (C := RX2) (T := TX2) (N := 7) hts ww_in2 (hts _ (ww_a1 (i := 147) (w := Cond.instantiable RX2 7) rfl rfl)); exact ⟨(cC, iS), fun q hq => by cases hq; exact h⟩
    | 3 => obtain ⟨cC, iS, h⟩ := u_known (C := RX3) (T := TX3) (N := 13) hts ww_in3 (hts _ (ww_a1 (i := 24) (w := Cond.instantiable RX3 13) rfl rfl)); exact ⟨(cC, iS), fun q hq => by cases hq; exact h⟩
    | 4 => obtain ⟨cC, iS, h⟩ := u_known (C := RX4) (T := TX4) (N := 4) hts ww_in4 (hts _ (ww_a1 (i := 153) (w := Cond.instantiable RX4 4) rfl rfl)); exact ⟨(cC, iS), fun q hq => by cases hq; exact h⟩
    | 5 => obtain ⟨cC, iS, h⟩ := u_known (C := RX5) (T := TX5) (N := 8) hts ww_in5 (hts _ (ww_a1 (i := 114) (w := Cond.instantiable RX5 8) rfl rfl)); exact ⟨(cC, iS), fun q hq => by cases hq; exact h⟩
    | 6 => obtain ⟨cC, iS, h⟩ := u_known (C := RX6) (T := TX6) (N := 15) hts ww_in6 (hts _ (ww_a1 (i := 196) (w := Cond.instantiable RX6 15) rfl rfl)); exact ⟨(cC, iS), fun q hq => by cases hq; exact h⟩
    | 7 => obtain ⟨cC, iS, h⟩ := u_known (C := RX7) (T := TX7) (N := 6) hts ww_in7 (hts _ (ww_a1 (i := 16) (w := Cond.instantiable RX7 6) rfl rfl)); exact ⟨(cC, iS), fun q hq => by cases hq; exact h⟩
    | 8 => obtain ⟨cC, iS, h⟩ := u_known (C := RX8) (T := TX8) (N := 47) hts ww_in8 (hts _ (ww_a4 (i := 165) (w := Cond.instantiable RX8 47) rfl rfl)); exact ⟨(cC, iS), fun q hq => by cases hq; exact h⟩
    | n + 9 => exact ⟨(default, fun _ => 0), fun q hq => by simp [vwCl] at hq⟩
  refine ⟨(fun c => (Classical.choose (h c)).1, fun c => (Classical.choose (h c)).2), fun c q hq => ?_⟩
  exact Classical.choose_spec (h c) q hq
theorem lw_t1 {s : State} {args : Array Value} {ty : FieldType} (h : (Cond.arrayClass ty).before args s = true) (h3 : ty = .int ∨ ty = .long ∨ ty = .boolean) : ∃ cA : ClassId, ArrOfT s cA ty ∧ va_RA s cA ty := by
  obtain ⟨cA, kA, comp, h1, h2, h4⟩ := Cond.arrayClass_spec h
  refine ⟨cA, fun n z => ⟨fun k h => (by cases h), kA, h2, comp, h4⟩, ?_⟩
  rcases h3 with rfl | rfl | rfl <;> exact h1
theorem lw_K {s : State} {args : Array Value} (hts : ∀ w ∈ ww_T, w.before args s = true) : ∃ (D : va_G) (tC : FieldType → ClassId), va_K D vwCl (zt tC) s := by
  obtain ⟨D, hD⟩ := lw_D hts
  obtain ⟨c1, h1⟩ := lw_t1 (ty := .int) (hts _ (ww_a1 (i := 87) (w := Cond.arrayClass .int) rfl rfl)) (by decide)
  obtain ⟨c2, h2⟩ := lw_t1 (ty := .long) (hts _ (ww_a1 (i := 88) (w := Cond.arrayClass .long) rfl rfl)) (by decide)
  obtain ⟨c3, h3⟩ := lw_t1 (ty := .boolean) (hts _ (ww_a1 (i := 194) (w := Cond.arrayClass .boolean) rfl rfl)) (by decide)
  refine ⟨D, fun ty => match ty with | .int => c1 | .long => c2 | .boolean => c3 | _ => c1, hD, fun k q hq => ?_⟩
  match k, hq with
  | 0, hq => cases hq; exact h1
  | 1, hq => cases hq; exact h2
  | 2, hq => cases hq; exact h3
  | n + 3, hq => simp [zt] at hq
theorem lw_nw {s : State} {args : Array Value} (hts : ∀ w ∈ lw_tbl, w.before args s = true) : qq_nw ww_N s := by
  intro w hw
  obtain ⟨h1, h2⟩ := List.mem_filter.mp hw
  refine ⟨h2, ?_⟩
  have h3 := hts w h1
  cases w <;> first | exact va_Nw.of rfl h3 | cases h2

theorem lw_above {s : State} {args : Array Value} {A : Nat → Prop} (htl : ∀ w ∈ lw_tbl, w.before args s = true) (hts : ∀ w ∈ ww_T, w.before args s = true) (hg : (Jvm.Cond.and given_1 narrow_1).before args s = true) (hA : ∀ a : Nat, a < s.heap.size → ¬ A a) : ∃ t : Nat, va_T .int t 11 (fun j => .int (ww_above.getD j 0)) A s s.heap ∧ va_Z "ValidPaths" "ABOVE" "[I" (.ref t) A s s.heap := by
  have hn := flat_of_before _ hg
  have harr : (Cond.arrayOf (.static "ValidPaths" "ABOVE" "[I") .int).before args s = true := hn _ (by decide +kernel)
  have hlen : (Cond.eq (.length (.static "ValidPaths" "ABOVE" "[I")) (.int 11)).before args s = true := hn _ (by decide +kernel)
  have hel : ∀ j : Nat, j < 11 → (Term.elem (.static "ValidPaths" "ABOVE" "[I") (.int (Int32.ofNat j))).eval args s none [] s = some (.int (ww_above.getD j 0)) := by
    intro j hj
    rcases (show j = 0 ∨ j = 1 ∨ j = 2 ∨ j = 3 ∨ j = 4 ∨ j = 5 ∨ j = 6 ∨ j = 7 ∨ j = 8 ∨ j = 9 ∨ j = 10 by omega) with rfl | rfl | rfl | rfl | rfl | rfl | rfl | rfl | rfl | rfl | rfl <;> exact va_eqt (hn _ (by decide +kernel))
  obtain ⟨t, ht, hT⟩ := va_Tof (N := 11) (f := fun j => .int (ww_above.getD j 0)) (by decide) harr (va_eqt hlen) hel hA
  exact ⟨t, hT, va_Zof (htl (Cond.laysStatic RX7 "ABOVE" "[I") (by decide +kernel)) (hts _ (ww_a1 (i := 1) (w := Cond.initialized RX7) rfl rfl)) ht hA⟩

theorem lw_mi {α β : Type} {f : Nat → α → β} {fs : List α} {vs : List β} (zl : List (Nat × α × β)) (h1 : zl.map (fun x => x.2.1) = fs) (h2 : zl.map (fun x => x.2.2) = vs) (h3 : zl.map (fun x => x.1) = List.range zl.length) (h : ∀ x ∈ zl, x.2.2 = f x.1 x.2.1) : vs = fs.mapIdx f := by
  subst h1 h2
  apply List.ext_getElem?
  intro k
  simp only [List.getElem?_map, List.getElem?_mapIdx]
  cases hk : zl[k]? with
  | none => rfl
  | some x =>
    have e : x.1 = k := by
      have h4 : (zl.map (fun x => x.1))[k]? = some x.1 := by rw [List.getElem?_map, hk]; rfl
      rw [h3] at h4
      have h5 := (List.getElem?_eq_some_iff.mp hk).1
      rw [List.getElem?_range h5] at h4
      exact (Option.some.inj h4).symm
    have h6 := h x (List.mem_of_getElem? hk)
    rw [e] at h6
    simp only [Option.map_some, h6]
theorem lw_pe0 (tC : FieldType → ClassId) (a b0 : Nat) (u z : Nat → Nat) (t b : Nat) : (zp_X7 tC a u ++ zp_X8 tC b0 z)[0]? = some (lw_ad a b0 u z t b 0, qq_e tC (lw_ad a b0 u z t b) lw_w0 0 (.inr (7, [4, 5, 6, 7, 8, 9]))) := rfl
theorem lw_pe1 (tC : FieldType → ClassId) (a b0 : Nat) (u z : Nat → Nat) (t b : Nat) : (zp_X7 tC a u ++ zp_X8 tC b0 z)[1]? = some (lw_ad a b0 u z t b 1, qq_e tC (lw_ad a b0 u z t b) lw_w0 1 (.inr (3, [12, 13, 14, 15, 16, 17, 18, 19, 20, 0, 0, 0, 0]))) := rfl
theorem lw_pe2 (tC : FieldType → ClassId) (a b0 : Nat) (u z : Nat → Nat) (t b : Nat) : (zp_X7 tC a u ++ zp_X8 tC b0 z)[11]? = some (lw_ad a b0 u z t b 2, qq_e tC (lw_ad a b0 u z t b) lw_w0 2 (.inr (1, [4, 21, 0, 0]))) := rfl
theorem lw_pe3 (tC : FieldType → ClassId) (a b0 : Nat) (u z : Nat → Nat) (t b : Nat) : (zp_X7 tC a u ++ zp_X8 tC b0 z)[13]? = some (lw_ad a b0 u z t b 3, qq_e tC (lw_ad a b0 u z t b) lw_w0 3 (.inr (5, [4, 5, 22, 23, 24, 0, 0, 2]))) := rfl
theorem lw_pe4 (tC : FieldType → ClassId) (a b0 : Nat) (u z : Nat → Nat) (t b : Nat) : (zp_X7 tC a u ++ zp_X8 tC b0 z)[17]? = some (lw_ad a b0 u z t b 4, qq_e tC (lw_ad a b0 u z t b) lw_w0 4 (.inr (2, [4, 6, 10, 25, 26, 27, 2]))) := rfl
theorem lw_pe5 (tC : FieldType → ClassId) (a b0 : Nat) (u z : Nat → Nat) (t b : Nat) : (zp_X7 tC a u ++ zp_X8 tC b0 z)[25]? = some (lw_ad a b0 u z t b 5, qq_e tC (lw_ad a b0 u z t b) lw_w0 5 (.inr (6, [4, 6, 7, 28, 29, 30, 31, 0, 32, 33, 34, 0, 0, 0, 0]))) := rfl
theorem lw_pe6 (tC : FieldType → ClassId) (a b0 : Nat) (u z : Nat → Nat) (t b : Nat) : (zp_X7 tC a u ++ zp_X8 tC b0 z)[33]? = some (lw_ad a b0 u z t b 6, qq_e tC (lw_ad a b0 u z t b) lw_w0 6 (.inr (0, [35, 0]))) := rfl
theorem lw_pe7 (tC : FieldType → ClassId) (a b0 : Nat) (u z : Nat → Nat) (t b : Nat) : (zp_X7 tC a u ++ zp_X8 tC b0 z)[18]? = some (lw_ad a b0 u z t b 7, qq_e tC (lw_ad a b0 u z t b) lw_w0 7 (.inr (4, [36, 37, 38, 0]))) := rfl
theorem lw_pv8 (tC : FieldType → ClassId) (a b0 : Nat) (u z : Nat → Nat) (t b : Nat) : ([.int 0, .ref (z 0), .int 0, .ref (z 1), .ref (z 2), .ref (z 3), .ref (z 4), .ref (z 5), .int 0, .int 0, .ref (z 6), .ref (z 7), .ref (z 8), .ref (z 9), .ref (z 10), .ref (z 11), .ref (z 12), .ref (z 13), .ref (z 14), .ref (z 15), .int 0, .ref (z 16), .ref (z 17), .int 0, .ref (z 18), .int 0, .ref (z 19), .int 0, .int 0, .ref (z 20), .ref (z 21), .ref (z 22), .int 0, .int 0, .int 0, .int 0, .int 0, .ref (z 23), .ref (z 24), .int 0, .ref (z 25), .ref (z 26), .ref (z 27), .ref (z 28), .int 0, .int 0, .int 0] : List Value) = ([0, 39, 0, 40, 41, 42, 43, 44, 0, 0, 45, 46, 47, 48, 49, 50, 51, 52, 53, 54, 0, 55, 56, 0, 57, 0, 58, 2, 0, 59, 60, 61, 0, 0, 0, 0, 2, 62, 63, 2, 64, 65, 66, 67, 0, 0, 0] : List Nat).mapIdx (fun j f => qq_g (lw_ad a b0 u z t b) (qq_fa lw_w0 8 j f)) := lw_mi [(0, 0, .int 0), (1, 39, .ref (z 0)), (2, 0, .int 0), (3, 40, .ref (z 1)), (4, 41, .ref (z 2)), (5, 42, .ref (z 3)), (6, 43, .ref (z 4)), (7, 44, .ref (z 5)), (8, 0, .int 0), (9, 0, .int 0), (10, 45, .ref (z 6)), (11, 46, .ref (z 7)), (12, 47, .ref (z 8)), (13, 48, .ref (z 9)), (14, 49, .ref (z 10)), (15, 50, .ref (z 11)), (16, 51, .ref (z 12)), (17, 52, .ref (z 13)), (18, 53, .ref (z 14)), (19, 54, .ref (z 15)), (20, 0, .int 0), (21, 55, .ref (z 16)), (22, 56, .ref (z 17)), (23, 0, .int 0), (24, 57, .ref (z 18)), (25, 0, .int 0), (26, 58, .ref (z 19)), (27, 2, .int 0), (28, 0, .int 0), (29, 59, .ref (z 20)), (30, 60, .ref (z 21)), (31, 61, .ref (z 22)), (32, 0, .int 0), (33, 0, .int 0), (34, 0, .int 0), (35, 0, .int 0), (36, 2, .int 0), (37, 62, .ref (z 23)), (38, 63, .ref (z 24)), (39, 2, .int 0), (40, 64, .ref (z 25)), (41, 65, .ref (z 26)), (42, 66, .ref (z 27)), (43, 67, .ref (z 28)), (44, 0, .int 0), (45, 0, .int 0), (46, 0, .int 0)] rfl rfl rfl
  (List.forall_mem_cons.mpr ⟨rfl, List.forall_mem_cons.mpr ⟨rfl, List.forall_mem_cons.mpr ⟨rfl, List.forall_mem_cons.mpr ⟨rfl, List.forall_mem_cons.mpr ⟨rfl, List.forall_mem_cons.mpr ⟨rfl, List.forall_mem_cons.mpr ⟨rfl, List.forall_mem_cons.mpr ⟨rfl, List.forall_mem_cons.mpr ⟨rfl, List.forall_mem_cons.mpr ⟨rfl, List.forall_mem_cons.mpr ⟨rfl, List.forall_mem_cons.mpr ⟨rfl, List.forall_mem_cons.mpr ⟨rfl, List.forall_mem_cons.mpr ⟨rfl, List.forall_mem_cons.mpr ⟨rfl, List.forall_mem_cons.mpr ⟨rfl, List.forall_mem_cons.mpr ⟨rfl, List.forall_mem_cons.mpr ⟨rfl, List.forall_mem_cons.mpr ⟨rfl, List.forall_mem_cons.mpr ⟨rfl, List.forall_mem_cons.mpr ⟨rfl, List.forall_mem_cons.mpr ⟨rfl, List.forall_mem_cons.mpr ⟨rfl, List.forall_mem_cons.mpr ⟨rfl, List.forall_mem_cons.mpr ⟨rfl, List.forall_mem_cons.mpr ⟨rfl, List.forall_mem_cons.mpr ⟨rfl, List.forall_mem_cons.mpr ⟨rfl, List.forall_mem_cons.mpr ⟨rfl, List.forall_mem_cons.mpr ⟨rfl, List.forall_mem_cons.mpr ⟨rfl, List.forall_mem_cons.mpr ⟨rfl, List.forall_mem_cons.mpr ⟨rfl, List.forall_mem_cons.mpr ⟨rfl, List.forall_mem_cons.mpr ⟨rfl, List.forall_mem_cons.mpr ⟨rfl, List.forall_mem_cons.mpr ⟨rfl, List.forall_mem_cons.mpr ⟨rfl, List.forall_mem_cons.mpr ⟨rfl, List.forall_mem_cons.mpr ⟨rfl, List.forall_mem_cons.mpr ⟨rfl, List.forall_mem_cons.mpr ⟨rfl, List.forall_mem_cons.mpr ⟨rfl, List.forall_mem_cons.mpr ⟨rfl, List.forall_mem_cons.mpr ⟨rfl, List.forall_mem_cons.mpr ⟨rfl, List.forall_mem_cons.mpr ⟨rfl, fun _ h => absurd h List.not_mem_nil⟩⟩⟩⟩⟩⟩⟩⟩⟩⟩⟩⟩⟩⟩⟩⟩⟩⟩⟩⟩⟩⟩⟩⟩⟩⟩⟩⟩⟩⟩⟩⟩⟩⟩⟩⟩⟩⟩⟩⟩⟩⟩⟩⟩⟩⟩⟩)
theorem lw_pe8 (tC : FieldType → ClassId) (a b0 : Nat) (u z : Nat → Nat) (t b : Nat) : (zp_X7 tC a u ++ zp_X8 tC b0 z)[35]? = some (lw_ad a b0 u z t b 8, qq_e tC (lw_ad a b0 u z t b) lw_w0 8 (.inr (8, [0, 39, 0, 40, 41, 42, 43, 44, 0, 0, 45, 46, 47, 48, 49, 50, 51, 52, 53, 54, 0, 55, 56, 0, 57, 0, 58, 2, 0, 59, 60, 61, 0, 0, 0, 0, 2, 62, 63, 2, 64, 65, 66, 67, 0, 0, 0]))) :=
  Eq.trans (b := some (b0, Sum.inr (8, ([.int 0, .ref (z 0), .int 0, .ref (z 1), .ref (z 2), .ref (z 3), .ref (z 4), .ref (z 5), .int 0, .int 0, .ref (z 6), .ref (z 7), .ref (z 8), .ref (z 9), .ref (z 10), .ref (z 11), .ref (z 12), .ref (z 13), .ref (z 14), .ref (z 15), .int 0, .ref (z 16), .ref (z 17), .int 0, .ref (z 18), .int 0, .ref (z 19), .int 0, .int 0, .ref (z 20), .ref (z 21), .ref (z 22), .int 0, .int 0, .int 0, .int 0, .int 0, .ref (z 23), .ref (z 24), .int 0, .ref (z 25), .ref (z 26), .ref (z 27), .ref (z 28), .int 0, .int 0, .int 0] : List Value)))) rfl (congrArg (fun v => some (b0, Sum.inr (8, v))) (lw_pv8 tC a b0 u z t b))
theorem lw_pe9 (tC : FieldType → ClassId) (a b0 : Nat) (u z : Nat → Nat) (t b : Nat) : (zp_X7 tC a u ++ zp_X8 tC b0 z)[2]? = some (lw_ad a b0 u z t b 9, qq_e tC (lw_ad a b0 u z t b) lw_w0 9 (.inl (.int, 8))) := rfl
theorem lw_pe10 (tC : FieldType → ClassId) (a b0 : Nat) (u z : Nat → Nat) (t b : Nat) : (zp_X7 tC a u ++ zp_X8 tC b0 z)[3]? = some (lw_ad a b0 u z t b 10, qq_e tC (lw_ad a b0 u z t b) lw_w0 10 (.inl (.int, 8))) := rfl
theorem lw_pe11 (tC : FieldType → ClassId) (a b0 : Nat) (u z : Nat → Nat) (t b : Nat) : (zp_X7 tC a u ++ zp_X8 tC b0 z)[4]? = some (lw_ad a b0 u z t b 11, qq_e tC (lw_ad a b0 u z t b) lw_w0 11 (.inl (.int, 8))) := rfl
theorem lw_pe12 (tC : FieldType → ClassId) (a b0 : Nat) (u z : Nat → Nat) (t b : Nat) : (zp_X7 tC a u ++ zp_X8 tC b0 z)[5]? = some (lw_ad a b0 u z t b 12, qq_e tC (lw_ad a b0 u z t b) lw_w0 12 (.inl (.int, 8))) := rfl
theorem lw_pe13 (tC : FieldType → ClassId) (a b0 : Nat) (u z : Nat → Nat) (t b : Nat) : (zp_X7 tC a u ++ zp_X8 tC b0 z)[6]? = some (lw_ad a b0 u z t b 13, qq_e tC (lw_ad a b0 u z t b) lw_w0 13 (.inl (.int, 640))) := rfl
theorem lw_pe14 (tC : FieldType → ClassId) (a b0 : Nat) (u z : Nat → Nat) (t b : Nat) : (zp_X7 tC a u ++ zp_X8 tC b0 z)[7]? = some (lw_ad a b0 u z t b 14, qq_e tC (lw_ad a b0 u z t b) lw_w0 14 (.inl (.int, 256))) := rfl
theorem lw_pe15 (tC : FieldType → ClassId) (a b0 : Nat) (u z : Nat → Nat) (t b : Nat) : (zp_X7 tC a u ++ zp_X8 tC b0 z)[8]? = some (lw_ad a b0 u z t b 15, qq_e tC (lw_ad a b0 u z t b) lw_w0 15 (.inl (.int, 120))) := rfl
theorem lw_pe16 (tC : FieldType → ClassId) (a b0 : Nat) (u z : Nat → Nat) (t b : Nat) : (zp_X7 tC a u ++ zp_X8 tC b0 z)[9]? = some (lw_ad a b0 u z t b 16, qq_e tC (lw_ad a b0 u z t b) lw_w0 16 (.inl (.int, 120))) := rfl
theorem lw_pe17 (tC : FieldType → ClassId) (a b0 : Nat) (u z : Nat → Nat) (t b : Nat) : (zp_X7 tC a u ++ zp_X8 tC b0 z)[10]? = some (lw_ad a b0 u z t b 17, qq_e tC (lw_ad a b0 u z t b) lw_w0 17 (.inl (.long, 64))) := rfl
theorem lw_pe18 (tC : FieldType → ClassId) (a b0 : Nat) (u z : Nat → Nat) (t b : Nat) : (zp_X7 tC a u ++ zp_X8 tC b0 z)[12]? = some (lw_ad a b0 u z t b 18, qq_e tC (lw_ad a b0 u z t b) lw_w0 18 (.inl (.int, 2496))) := rfl
theorem lw_pe19 (tC : FieldType → ClassId) (a b0 : Nat) (u z : Nat → Nat) (t b : Nat) : (zp_X7 tC a u ++ zp_X8 tC b0 z)[14]? = some (lw_ad a b0 u z t b 19, qq_e tC (lw_ad a b0 u z t b) lw_w0 19 (.inl (.int, 2496))) := rfl
theorem lw_pe20 (tC : FieldType → ClassId) (a b0 : Nat) (u z : Nat → Nat) (t b : Nat) : (zp_X7 tC a u ++ zp_X8 tC b0 z)[15]? = some (lw_ad a b0 u z t b 20, qq_e tC (lw_ad a b0 u z t b) lw_w0 20 (.inl (.int, 832))) := rfl
theorem lw_pe21 (tC : FieldType → ClassId) (a b0 : Nat) (u z : Nat → Nat) (t b : Nat) : (zp_X7 tC a u ++ zp_X8 tC b0 z)[16]? = some (lw_ad a b0 u z t b 21, qq_e tC (lw_ad a b0 u z t b) lw_w0 21 (.inl (.int, 10816))) := rfl
theorem lw_pe22 (tC : FieldType → ClassId) (a b0 : Nat) (u z : Nat → Nat) (t b : Nat) : (zp_X7 tC a u ++ zp_X8 tC b0 z)[22]? = some (lw_ad a b0 u z t b 22, qq_e tC (lw_ad a b0 u z t b) lw_w0 22 (.inl (.long, 104))) := rfl
theorem lw_pe23 (tC : FieldType → ClassId) (a b0 : Nat) (u z : Nat → Nat) (t b : Nat) : (zp_X7 tC a u ++ zp_X8 tC b0 z)[23]? = some (lw_ad a b0 u z t b 23, qq_e tC (lw_ad a b0 u z t b) lw_w0 23 (.inl (.boolean, 104))) := rfl
theorem lw_pe24 (tC : FieldType → ClassId) (a b0 : Nat) (u z : Nat → Nat) (t b : Nat) : (zp_X7 tC a u ++ zp_X8 tC b0 z)[24]? = some (lw_ad a b0 u z t b 24, qq_e tC (lw_ad a b0 u z t b) lw_w0 24 (.inl (.long, 832))) := rfl
theorem lw_pe25 (tC : FieldType → ClassId) (a b0 : Nat) (u z : Nat → Nat) (t b : Nat) : (zp_X7 tC a u ++ zp_X8 tC b0 z)[26]? = some (lw_ad a b0 u z t b 25, qq_e tC (lw_ad a b0 u z t b) lw_w0 25 (.inl (.int, 300))) := rfl
theorem lw_pe26 (tC : FieldType → ClassId) (a b0 : Nat) (u z : Nat → Nat) (t b : Nat) : (zp_X7 tC a u ++ zp_X8 tC b0 z)[27]? = some (lw_ad a b0 u z t b 26, qq_e tC (lw_ad a b0 u z t b) lw_w0 26 (.inl (.int, 300))) := rfl
theorem lw_pe27 (tC : FieldType → ClassId) (a b0 : Nat) (u z : Nat → Nat) (t b : Nat) : (zp_X7 tC a u ++ zp_X8 tC b0 z)[28]? = some (lw_ad a b0 u z t b 27, qq_e tC (lw_ad a b0 u z t b) lw_w0 27 (.inl (.int, 300))) := rfl
theorem lw_pe28 (tC : FieldType → ClassId) (a b0 : Nat) (u z : Nat → Nat) (t b : Nat) : (zp_X7 tC a u ++ zp_X8 tC b0 z)[29]? = some (lw_ad a b0 u z t b 28, qq_e tC (lw_ad a b0 u z t b) lw_w0 28 (.inl (.int, 300))) := rfl
theorem lw_pe29 (tC : FieldType → ClassId) (a b0 : Nat) (u z : Nat → Nat) (t b : Nat) : (zp_X7 tC a u ++ zp_X8 tC b0 z)[30]? = some (lw_ad a b0 u z t b 29, qq_e tC (lw_ad a b0 u z t b) lw_w0 29 (.inl (.int, 300))) := rfl
theorem lw_pe30 (tC : FieldType → ClassId) (a b0 : Nat) (u z : Nat → Nat) (t b : Nat) : (zp_X7 tC a u ++ zp_X8 tC b0 z)[31]? = some (lw_ad a b0 u z t b 30, qq_e tC (lw_ad a b0 u z t b) lw_w0 30 (.inl (.int, 300))) := rfl
theorem lw_pe31 (tC : FieldType → ClassId) (a b0 : Nat) (u z : Nat → Nat) (t b : Nat) : (zp_X7 tC a u ++ zp_X8 tC b0 z)[32]? = some (lw_ad a b0 u z t b 31, qq_e tC (lw_ad a b0 u z t b) lw_w0 31 (.inl (.int, 300))) := rfl
theorem lw_pe32 (tC : FieldType → ClassId) (a b0 : Nat) (u z : Nat → Nat) (t b : Nat) : (zp_X7 tC a u ++ zp_X8 tC b0 z)[34]? = some (lw_ad a b0 u z t b 32, qq_e tC (lw_ad a b0 u z t b) lw_w0 32 (.inl (.int, 6))) := rfl
theorem lw_pe33 (tC : FieldType → ClassId) (a b0 : Nat) (u z : Nat → Nat) (t b : Nat) : (zp_X7 tC a u ++ zp_X8 tC b0 z)[19]? = some (lw_ad a b0 u z t b 33, qq_e tC (lw_ad a b0 u z t b) lw_w0 33 (.inl (.long, 10816))) := rfl
theorem lw_pe34 (tC : FieldType → ClassId) (a b0 : Nat) (u z : Nat → Nat) (t b : Nat) : (zp_X7 tC a u ++ zp_X8 tC b0 z)[20]? = some (lw_ad a b0 u z t b 34, qq_e tC (lw_ad a b0 u z t b) lw_w0 34 (.inl (.int, 10816))) := rfl
theorem lw_pe35 (tC : FieldType → ClassId) (a b0 : Nat) (u z : Nat → Nat) (t b : Nat) : (zp_X7 tC a u ++ zp_X8 tC b0 z)[21]? = some (lw_ad a b0 u z t b 35, qq_e tC (lw_ad a b0 u z t b) lw_w0 35 (.inl (.int, 10816))) := rfl
theorem lw_pe36 (tC : FieldType → ClassId) (a b0 : Nat) (u z : Nat → Nat) (t b : Nat) : (zp_X7 tC a u ++ zp_X8 tC b0 z)[36]? = some (lw_ad a b0 u z t b 36, qq_e tC (lw_ad a b0 u z t b) lw_w0 36 (.inl (.int, 6))) := rfl
theorem lw_pe37 (tC : FieldType → ClassId) (a b0 : Nat) (u z : Nat → Nat) (t b : Nat) : (zp_X7 tC a u ++ zp_X8 tC b0 z)[37]? = some (lw_ad a b0 u z t b 37, qq_e tC (lw_ad a b0 u z t b) lw_w0 37 (.inl (.int, 8))) := rfl
theorem lw_pe38 (tC : FieldType → ClassId) (a b0 : Nat) (u z : Nat → Nat) (t b : Nat) : (zp_X7 tC a u ++ zp_X8 tC b0 z)[38]? = some (lw_ad a b0 u z t b 38, qq_e tC (lw_ad a b0 u z t b) lw_w0 38 (.inl (.int, 8))) := rfl
theorem lw_pe39 (tC : FieldType → ClassId) (a b0 : Nat) (u z : Nat → Nat) (t b : Nat) : (zp_X7 tC a u ++ zp_X8 tC b0 z)[39]? = some (lw_ad a b0 u z t b 39, qq_e tC (lw_ad a b0 u z t b) lw_w0 39 (.inl (.int, 8))) := rfl
theorem lw_pe40 (tC : FieldType → ClassId) (a b0 : Nat) (u z : Nat → Nat) (t b : Nat) : (zp_X7 tC a u ++ zp_X8 tC b0 z)[40]? = some (lw_ad a b0 u z t b 40, qq_e tC (lw_ad a b0 u z t b) lw_w0 40 (.inl (.int, 8))) := rfl
theorem lw_pe41 (tC : FieldType → ClassId) (a b0 : Nat) (u z : Nat → Nat) (t b : Nat) : (zp_X7 tC a u ++ zp_X8 tC b0 z)[41]? = some (lw_ad a b0 u z t b 41, qq_e tC (lw_ad a b0 u z t b) lw_w0 41 (.inl (.int, 8))) := rfl
theorem lw_pe42 (tC : FieldType → ClassId) (a b0 : Nat) (u z : Nat → Nat) (t b : Nat) : (zp_X7 tC a u ++ zp_X8 tC b0 z)[42]? = some (lw_ad a b0 u z t b 42, qq_e tC (lw_ad a b0 u z t b) lw_w0 42 (.inl (.int, 64))) := rfl
theorem lw_pe43 (tC : FieldType → ClassId) (a b0 : Nat) (u z : Nat → Nat) (t b : Nat) : (zp_X7 tC a u ++ zp_X8 tC b0 z)[43]? = some (lw_ad a b0 u z t b 43, qq_e tC (lw_ad a b0 u z t b) lw_w0 43 (.inl (.int, 64))) := rfl
theorem lw_pe44 (tC : FieldType → ClassId) (a b0 : Nat) (u z : Nat → Nat) (t b : Nat) : (zp_X7 tC a u ++ zp_X8 tC b0 z)[44]? = some (lw_ad a b0 u z t b 44, qq_e tC (lw_ad a b0 u z t b) lw_w0 44 (.inl (.int, 64))) := rfl
theorem lw_pe45 (tC : FieldType → ClassId) (a b0 : Nat) (u z : Nat → Nat) (t b : Nat) : (zp_X7 tC a u ++ zp_X8 tC b0 z)[45]? = some (lw_ad a b0 u z t b 45, qq_e tC (lw_ad a b0 u z t b) lw_w0 45 (.inl (.int, 64))) := rfl
theorem lw_pe46 (tC : FieldType → ClassId) (a b0 : Nat) (u z : Nat → Nat) (t b : Nat) : (zp_X7 tC a u ++ zp_X8 tC b0 z)[46]? = some (lw_ad a b0 u z t b 46, qq_e tC (lw_ad a b0 u z t b) lw_w0 46 (.inl (.int, 64))) := rfl
theorem lw_pe47 (tC : FieldType → ClassId) (a b0 : Nat) (u z : Nat → Nat) (t b : Nat) : (zp_X7 tC a u ++ zp_X8 tC b0 z)[47]? = some (lw_ad a b0 u z t b 47, qq_e tC (lw_ad a b0 u z t b) lw_w0 47 (.inl (.int, 64))) := rfl
theorem lw_pe48 (tC : FieldType → ClassId) (a b0 : Nat) (u z : Nat → Nat) (t b : Nat) : (zp_X7 tC a u ++ zp_X8 tC b0 z)[48]? = some (lw_ad a b0 u z t b 48, qq_e tC (lw_ad a b0 u z t b) lw_w0 48 (.inl (.int, 64))) := rfl
theorem lw_pe49 (tC : FieldType → ClassId) (a b0 : Nat) (u z : Nat → Nat) (t b : Nat) : (zp_X7 tC a u ++ zp_X8 tC b0 z)[49]? = some (lw_ad a b0 u z t b 49, qq_e tC (lw_ad a b0 u z t b) lw_w0 49 (.inl (.int, 64))) := rfl
theorem lw_pe50 (tC : FieldType → ClassId) (a b0 : Nat) (u z : Nat → Nat) (t b : Nat) : (zp_X7 tC a u ++ zp_X8 tC b0 z)[50]? = some (lw_ad a b0 u z t b 50, qq_e tC (lw_ad a b0 u z t b) lw_w0 50 (.inl (.int, 64))) := rfl
theorem lw_pe51 (tC : FieldType → ClassId) (a b0 : Nat) (u z : Nat → Nat) (t b : Nat) : (zp_X7 tC a u ++ zp_X8 tC b0 z)[51]? = some (lw_ad a b0 u z t b 51, qq_e tC (lw_ad a b0 u z t b) lw_w0 51 (.inl (.int, 256))) := rfl
theorem lw_pe52 (tC : FieldType → ClassId) (a b0 : Nat) (u z : Nat → Nat) (t b : Nat) : (zp_X7 tC a u ++ zp_X8 tC b0 z)[52]? = some (lw_ad a b0 u z t b 52, qq_e tC (lw_ad a b0 u z t b) lw_w0 52 (.inl (.int, 120))) := rfl
theorem lw_pe53 (tC : FieldType → ClassId) (a b0 : Nat) (u z : Nat → Nat) (t b : Nat) : (zp_X7 tC a u ++ zp_X8 tC b0 z)[53]? = some (lw_ad a b0 u z t b 53, qq_e tC (lw_ad a b0 u z t b) lw_w0 53 (.inl (.int, 120))) := rfl
theorem lw_pe54 (tC : FieldType → ClassId) (a b0 : Nat) (u z : Nat → Nat) (t b : Nat) : (zp_X7 tC a u ++ zp_X8 tC b0 z)[54]? = some (lw_ad a b0 u z t b 54, qq_e tC (lw_ad a b0 u z t b) lw_w0 54 (.inl (.int, 2496))) := rfl
theorem lw_pe55 (tC : FieldType → ClassId) (a b0 : Nat) (u z : Nat → Nat) (t b : Nat) : (zp_X7 tC a u ++ zp_X8 tC b0 z)[55]? = some (lw_ad a b0 u z t b 55, qq_e tC (lw_ad a b0 u z t b) lw_w0 55 (.inl (.int, 4))) := rfl
theorem lw_pe56 (tC : FieldType → ClassId) (a b0 : Nat) (u z : Nat → Nat) (t b : Nat) : (zp_X7 tC a u ++ zp_X8 tC b0 z)[56]? = some (lw_ad a b0 u z t b 56, qq_e tC (lw_ad a b0 u z t b) lw_w0 56 (.inl (.int, 832))) := rfl
theorem lw_pe57 (tC : FieldType → ClassId) (a b0 : Nat) (u z : Nat → Nat) (t b : Nat) : (zp_X7 tC a u ++ zp_X8 tC b0 z)[57]? = some (lw_ad a b0 u z t b 57, qq_e tC (lw_ad a b0 u z t b) lw_w0 57 (.inl (.int, 832))) := rfl
theorem lw_pe58 (tC : FieldType → ClassId) (a b0 : Nat) (u z : Nat → Nat) (t b : Nat) : (zp_X7 tC a u ++ zp_X8 tC b0 z)[58]? = some (lw_ad a b0 u z t b 58, qq_e tC (lw_ad a b0 u z t b) lw_w0 58 (.inl (.int, 10816))) := rfl
theorem lw_pe59 (tC : FieldType → ClassId) (a b0 : Nat) (u z : Nat → Nat) (t b : Nat) : (zp_X7 tC a u ++ zp_X8 tC b0 z)[59]? = some (lw_ad a b0 u z t b 59, qq_e tC (lw_ad a b0 u z t b) lw_w0 59 (.inl (.long, 10816))) := rfl
theorem lw_pe60 (tC : FieldType → ClassId) (a b0 : Nat) (u z : Nat → Nat) (t b : Nat) : (zp_X7 tC a u ++ zp_X8 tC b0 z)[60]? = some (lw_ad a b0 u z t b 60, qq_e tC (lw_ad a b0 u z t b) lw_w0 60 (.inl (.long, 832))) := rfl
theorem lw_pe61 (tC : FieldType → ClassId) (a b0 : Nat) (u z : Nat → Nat) (t b : Nat) : (zp_X7 tC a u ++ zp_X8 tC b0 z)[61]? = some (lw_ad a b0 u z t b 61, qq_e tC (lw_ad a b0 u z t b) lw_w0 61 (.inl (.int, 300))) := rfl
theorem lw_pe62 (tC : FieldType → ClassId) (a b0 : Nat) (u z : Nat → Nat) (t b : Nat) : (zp_X7 tC a u ++ zp_X8 tC b0 z)[62]? = some (lw_ad a b0 u z t b 62, qq_e tC (lw_ad a b0 u z t b) lw_w0 62 (.inl (.int, 300))) := rfl
theorem lw_pe63 (tC : FieldType → ClassId) (a b0 : Nat) (u z : Nat → Nat) (t b : Nat) : (zp_X7 tC a u ++ zp_X8 tC b0 z)[63]? = some (lw_ad a b0 u z t b 63, qq_e tC (lw_ad a b0 u z t b) lw_w0 63 (.inl (.int, 300))) := rfl
theorem lw_pe64 (tC : FieldType → ClassId) (a b0 : Nat) (u z : Nat → Nat) (t b : Nat) : (zp_X7 tC a u ++ zp_X8 tC b0 z)[64]? = some (lw_ad a b0 u z t b 64, qq_e tC (lw_ad a b0 u z t b) lw_w0 64 (.inl (.int, 300))) := rfl
def lw_pz : List (Nat × Nat × qq_s) := [(0, 0, .inr (7, [4, 5, 6, 7, 8, 9])), (1, 1, .inr (3, [12, 13, 14, 15, 16, 17, 18, 19, 20, 0, 0, 0, 0])), (2, 11, .inr (1, [4, 21, 0, 0])), (3, 13, .inr (5, [4, 5, 22, 23, 24, 0, 0, 2])), (4, 17, .inr (2, [4, 6, 10, 25, 26, 27, 2])), (5, 25, .inr (6, [4, 6, 7, 28, 29, 30, 31, 0, 32, 33, 34, 0, 0, 0, 0])), (6, 33, .inr (0, [35, 0])), (7, 18, .inr (4, [36, 37, 38, 0])), (8, 35, .inr (8, [0, 39, 0, 40, 41, 42, 43, 44, 0, 0, 45, 46, 47, 48, 49, 50, 51, 52, 53, 54, 0, 55, 56, 0, 57, 0, 58, 2, 0, 59, 60, 61, 0, 0, 0, 0, 2, 62, 63, 2, 64, 65, 66, 67, 0, 0, 0])), (9, 2, .inl (.int, 8)), (10, 3, .inl (.int, 8)), (11, 4, .inl (.int, 8)), (12, 5, .inl (.int, 8)), (13, 6, .inl (.int, 640)), (14, 7, .inl (.int, 256)), (15, 8, .inl (.int, 120)), (16, 9, .inl (.int, 120)), (17, 10, .inl (.long, 64)), (18, 12, .inl (.int, 2496)), (19, 14, .inl (.int, 2496)), (20, 15, .inl (.int, 832)), (21, 16, .inl (.int, 10816)), (22, 22, .inl (.long, 104)), (23, 23, .inl (.boolean, 104)), (24, 24, .inl (.long, 832)), (25, 26, .inl (.int, 300)), (26, 27, .inl (.int, 300)), (27, 28, .inl (.int, 300)), (28, 29, .inl (.int, 300)), (29, 30, .inl (.int, 300)), (30, 31, .inl (.int, 300)), (31, 32, .inl (.int, 300)), (32, 34, .inl (.int, 6)), (33, 19, .inl (.long, 10816)), (34, 20, .inl (.int, 10816)), (35, 21, .inl (.int, 10816)), (36, 36, .inl (.int, 6)), (37, 37, .inl (.int, 8)), (38, 38, .inl (.int, 8)), (39, 39, .inl (.int, 8)), (40, 40, .inl (.int, 8)), (41, 41, .inl (.int, 8)), (42, 42, .inl (.int, 64)), (43, 43, .inl (.int, 64)), (44, 44, .inl (.int, 64)), (45, 45, .inl (.int, 64)), (46, 46, .inl (.int, 64)), (47, 47, .inl (.int, 64)), (48, 48, .inl (.int, 64)), (49, 49, .inl (.int, 64)), (50, 50, .inl (.int, 64)), (51, 51, .inl (.int, 256)), (52, 52, .inl (.int, 120)), (53, 53, .inl (.int, 120)), (54, 54, .inl (.int, 2496)), (55, 55, .inl (.int, 4)), (56, 56, .inl (.int, 832)), (57, 57, .inl (.int, 832)), (58, 58, .inl (.int, 10816)), (59, 59, .inl (.long, 10816)), (60, 60, .inl (.long, 832)), (61, 61, .inl (.int, 300)), (62, 62, .inl (.int, 300)), (63, 63, .inl (.int, 300)), (64, 64, .inl (.int, 300))]
theorem lw_pok (tC : FieldType → ClassId) (a b0 : Nat) (u z : Nat → Nat) (t b : Nat) : ∀ x ∈ lw_pz, (zp_X7 tC a u ++ zp_X8 tC b0 z)[x.2.1]? = some (lw_ad a b0 u z t b x.1, qq_e tC (lw_ad a b0 u z t b) lw_w0 x.1 x.2.2) :=
  List.forall_mem_cons.mpr ⟨lw_pe0 tC a b0 u z t b, List.forall_mem_cons.mpr ⟨lw_pe1 tC a b0 u z t b, List.forall_mem_cons.mpr ⟨lw_pe2 tC a b0 u z t b, List.forall_mem_cons.mpr ⟨lw_pe3 tC a b0 u z t b, List.forall_mem_cons.mpr ⟨lw_pe4 tC a b0 u z t b, List.forall_mem_cons.mpr ⟨lw_pe5 tC a b0 u z t b, List.forall_mem_cons.mpr ⟨lw_pe6 tC a b0 u z t b, List.forall_mem_cons.mpr ⟨lw_pe7 tC a b0 u z t b, List.forall_mem_cons.mpr ⟨lw_pe8 tC a b0 u z t b, List.forall_mem_cons.mpr ⟨lw_pe9 tC a b0 u z t b, List.forall_mem_cons.mpr ⟨lw_pe10 tC a b0 u z t b, List.forall_mem_cons.mpr ⟨lw_pe11 tC a b0 u z t b, List.forall_mem_cons.mpr ⟨lw_pe12 tC a b0 u z t b, List.forall_mem_cons.mpr ⟨lw_pe13 tC a b0 u z t b, List.forall_mem_cons.mpr ⟨lw_pe14 tC a b0 u z t b, List.forall_mem_cons.mpr ⟨lw_pe15 tC a b0 u z t b, List.forall_mem_cons.mpr ⟨lw_pe16 tC a b0 u z t b, List.forall_mem_cons.mpr ⟨lw_pe17 tC a b0 u z t b, List.forall_mem_cons.mpr ⟨lw_pe18 tC a b0 u z t b, List.forall_mem_cons.mpr ⟨lw_pe19 tC a b0 u z t b, List.forall_mem_cons.mpr ⟨lw_pe20 tC a b0 u z t b, List.forall_mem_cons.mpr ⟨lw_pe21 tC a b0 u z t b, List.forall_mem_cons.mpr ⟨lw_pe22 tC a b0 u z t b, List.forall_mem_cons.mpr ⟨lw_pe23 tC a b0 u z t b, List.forall_mem_cons.mpr ⟨lw_pe24 tC a b0 u z t b, List.forall_mem_cons.mpr ⟨lw_pe25 tC a b0 u z t b, List.forall_mem_cons.mpr ⟨lw_pe26 tC a b0 u z t b, List.forall_mem_cons.mpr ⟨lw_pe27 tC a b0 u z t b, List.forall_mem_cons.mpr ⟨lw_pe28 tC a b0 u z t b, List.forall_mem_cons.mpr ⟨lw_pe29 tC a b0 u z t b, List.forall_mem_cons.mpr ⟨lw_pe30 tC a b0 u z t b, List.forall_mem_cons.mpr ⟨lw_pe31 tC a b0 u z t b, List.forall_mem_cons.mpr ⟨lw_pe32 tC a b0 u z t b, List.forall_mem_cons.mpr ⟨lw_pe33 tC a b0 u z t b, List.forall_mem_cons.mpr ⟨lw_pe34 tC a b0 u z t b, List.forall_mem_cons.mpr ⟨lw_pe35 tC a b0 u z t b, List.forall_mem_cons.mpr ⟨lw_pe36 tC a b0 u z t b, List.forall_mem_cons.mpr ⟨lw_pe37 tC a b0 u z t b, List.forall_mem_cons.mpr ⟨lw_pe38 tC a b0 u z t b, List.forall_mem_cons.mpr ⟨lw_pe39 tC a b0 u z t b, List.forall_mem_cons.mpr ⟨lw_pe40 tC a b0 u z t b, List.forall_mem_cons.mpr ⟨lw_pe41 tC a b0 u z t b, List.forall_mem_cons.mpr ⟨lw_pe42 tC a b0 u z t b, List.forall_mem_cons.mpr ⟨lw_pe43 tC a b0 u z t b, List.forall_mem_cons.mpr ⟨lw_pe44 tC a b0 u z t b, List.forall_mem_cons.mpr ⟨lw_pe45 tC a b0 u z t b, List.forall_mem_cons.mpr ⟨lw_pe46 tC a b0 u z t b, List.forall_mem_cons.mpr ⟨lw_pe47 tC a b0 u z t b, List.forall_mem_cons.mpr ⟨lw_pe48 tC a b0 u z t b, List.forall_mem_cons.mpr ⟨lw_pe49 tC a b0 u z t b, List.forall_mem_cons.mpr ⟨lw_pe50 tC a b0 u z t b, List.forall_mem_cons.mpr ⟨lw_pe51 tC a b0 u z t b, List.forall_mem_cons.mpr ⟨lw_pe52 tC a b0 u z t b, List.forall_mem_cons.mpr ⟨lw_pe53 tC a b0 u z t b, List.forall_mem_cons.mpr ⟨lw_pe54 tC a b0 u z t b, List.forall_mem_cons.mpr ⟨lw_pe55 tC a b0 u z t b, List.forall_mem_cons.mpr ⟨lw_pe56 tC a b0 u z t b, List.forall_mem_cons.mpr ⟨lw_pe57 tC a b0 u z t b, List.forall_mem_cons.mpr ⟨lw_pe58 tC a b0 u z t b, List.forall_mem_cons.mpr ⟨lw_pe59 tC a b0 u z t b, List.forall_mem_cons.mpr ⟨lw_pe60 tC a b0 u z t b, List.forall_mem_cons.mpr ⟨lw_pe61 tC a b0 u z t b, List.forall_mem_cons.mpr ⟨lw_pe62 tC a b0 u z t b, List.forall_mem_cons.mpr ⟨lw_pe63 tC a b0 u z t b, List.forall_mem_cons.mpr ⟨lw_pe64 tC a b0 u z t b, fun _ h => absurd h List.not_mem_nil⟩⟩⟩⟩⟩⟩⟩⟩⟩⟩⟩⟩⟩⟩⟩⟩⟩⟩⟩⟩⟩⟩⟩⟩⟩⟩⟩⟩⟩⟩⟩⟩⟩⟩⟩⟩⟩⟩⟩⟩⟩⟩⟩⟩⟩⟩⟩⟩⟩⟩⟩⟩⟩⟩⟩⟩⟩⟩⟩⟩⟩⟩⟩⟩⟩
theorem lw_perm0 {is : List Nat} {sh : List qq_s} {ws : va_W} {tC : FieldType → ClassId} {ad : Nat → Nat} {w : qq_w} {zl : List (Nat × Nat × qq_s)} (h1 : zl.map (fun x => x.2.1) = is) (h2 : zl.map (fun x => x.2.2) = sh) (h3 : zl.map (fun x => x.1) = List.range zl.length) (h : ∀ x ∈ zl, ws[x.2.1]? = some (ad x.1, qq_e tC ad w x.1 x.2.2)) : is.map (fun i => ws[i]?) = (qq_c sh tC ad w).map some := by
  subst h1 h2
  apply List.ext_getElem?
  intro k
  simp only [qq_c, List.getElem?_map, List.getElem?_mapIdx]
  cases hk : zl[k]? with
  | none => rfl
  | some x =>
    have e : x.1 = k := by
      have h4 : (zl.map (fun x => x.1))[k]? = some x.1 := by rw [List.getElem?_map, hk]; rfl
      rw [h3] at h4
      have h5 := (List.getElem?_eq_some_iff.mp hk).1
      rw [List.getElem?_range h5] at h4
      exact (Option.some.inj h4).symm
    have h6 := h x (List.mem_of_getElem? hk)
    rw [e] at h6
    simp only [Option.map_some, h6]
theorem lw_perm (tC : FieldType → ClassId) (a b0 : Nat) (u z : Nat → Nat) (t b : Nat) : ([0, 1, 11, 13, 17, 25, 33, 18, 35, 2, 3, 4, 5, 6, 7, 8, 9, 10, 12, 14, 15, 16, 22, 23, 24, 26, 27, 28, 29, 30, 31, 32, 34, 19, 20, 21, 36, 37, 38, 39, 40, 41, 42, 43, 44, 45, 46, 47, 48, 49, 50, 51, 52, 53, 54, 55, 56, 57, 58, 59, 60, 61, 62, 63, 64] : List Nat).map (fun i => (zp_X7 tC a u ++ zp_X8 tC b0 z)[i]?) = (qq_c ww_sh tC (lw_ad a b0 u z t b) lw_w0).map some := lw_perm0 (zl := lw_pz) (by decide +kernel) (by decide +kernel) (by decide +kernel) (lw_pok tC a b0 u z t b)
theorem lw_fm {ws ws' : va_W} : ∀ {is : List Nat} {ws' : va_W}, is.map (fun i => ws[i]?) = ws'.map some → is.filterMap (fun i => ws[i]?) = ws'
  | [], [], _ => rfl
  | [], x :: r, h => by cases h
  | i :: is, [], h => by cases h
  | i :: is, x :: r, h => by
    simp only [List.map_cons] at h
    have h1 := (List.cons.inj h).1
    have h2 := (List.cons.inj h).2
    rw [List.filterMap_cons, h1, lw_fm (ws' := ws') h2]

theorem lw_start {Inv : qq_w → Prop} (hO : lwOwed Inv) (h0 : Inv lw_w0) {p : Program} {e : Env} {s : State} {m : MethodId} {below : List Frame} {meth : Method} {c : Code} (l : Launch) {b L : Nat} {xs : Nat → Int32} (hL : L ≤ 3072) (C0 : lw_At p s m meth c b L xs) : W p l e room_1 s m #[Value.ref b] below meth c s.heap [] 0 0 (lw_Z below #[Value.ref b] s) (entryFrame m ([Value.ref b] : List Value).toArray 4) := by
  obtain ⟨hx, hb, hr, hml, hown, hts, hX, hbl, hlocks, hgv⟩ := C0
  have hT : ∀ w ∈ ww_T, w.before #[Value.ref b] s = true := fun w hw => hts w (List.mem_filter.mp hw).1
  obtain ⟨D, tC, hK⟩ := lw_K hT
  have X : zX p s m #[Value.ref b] c RL cL_law 4 D tC := ⟨⟨hx, hb, hml, hown, hT⟩, hK, lw_nw hts⟩
  have hl := lv_entry [Value.ref b] (n := 4) (by simp [lg_sl, Value.category])
  rw [lg_entry_eq]
  generalize (lg_sl [Value.ref b] ++ List.replicate (4 - (lg_sl [Value.ref b]).length) Slot.unset).toArray = ls at hl ⊢
  generalize hAe : (fun q : Nat => s.heap.size ≤ q) = A
  have hA : ∀ q, s.heap.size ≤ q → A q := fun q h => by rw [← hAe]; exact h
  have hA' : ∀ q, A q → s.heap.size ≤ q := fun q h => by rw [← hAe] at h; exact h
  have hP : va_P D vwCl [] s.heap := fun k q h => by simp at h
  have hD : va_D A [] := ⟨fun i j x y h => by simp at h, fun k q h => by simp at h⟩
  have hS : va_S A s.heap s.heap [] := va_S.rf
  refine z_new X (C := RX7) (T := TX7) (N := 6) (ci := 7) rfl ww_in7 tyX7_ok hP hD hS hA (ww_a1 (i := 15) (w := Cond.classLink RL 7 RX7) rfl rfl) (ww_a1 (i := 16) (w := Cond.instantiable RX7 6) rfl rfl) (ww_a1 (i := 1) (w := Cond.initialized RX7) rfl rfl) (fs := [.null, .null, .null, .null, .null, .null]) zd_7 (by show 0 + 1 ≤ 600000; decide) (by show 0 + 6 ≤ 7302250; decide) (by decide +kernel) ?_
  intro a H hP hD hS
  replace hP : va_P D vwCl [(a, .inr (7, [.null, .null, .null, .null, .null, .null]))] _ := hP
  replace hD : va_D A [(a, .inr (7, [.null, .null, .null, .null, .null, .null]))] := hD
  refine lv_dup X.1.1 X.1.2.1 (by decide +kernel) rfl ?_
  refine z_call X hP hD hS hA (As := []) (rest := [.ref a]) (n := 0) (zi_X7 l D tC a) 0 [] [] rfl rfl (by decide) (by decide) (ww_a1 (i := 19) (w := Cond.code yX7_init cX7_init 1 none) rfl rfl) (ww_a1 (i := 1) (w := Cond.initialized RX7) rfl rfl) (Or.inl (ww_a1 (i := 17) (w := Cond.methodLink RL 9 yX7_init) rfl rfl)) (ww_a1 (i := 18) (w := Cond.instanceMethod yX7_init) rfl rfl) rfl ⟨by decide, by decide, by decide +kernel⟩ rfl rfl rfl (by show 3 + 1 ≤ 2048 ∧ 8 + (1 + 11) + 120 ≤ 84000; decide) hl.1 (by simp [Value.category]) (by show 1 + 34 ≤ 600000 ∧ 6 + 53519 ≤ 7302250; decide) (by decide +kernel) ?_
  intro u H locs hP hD hS
  replace hP : va_P D vwCl (zp_X7 tC a u) _ := hP
  replace hD : va_D A (zp_X7 tC a u) := hD
  refine lv_astore_n X.1.1 X.1.2.1 (k := 1) (i := 1) (by decide +kernel) rfl hl (by decide) rfl ?_
  intro ls hl
  refine z_new X (C := RX8) (T := TX8) (N := 47) (ci := 8) rfl ww_in8 tyX8_ok hP hD hS hA (ww_a4 (i := 164) (w := Cond.classLink RL 10 RX8) rfl rfl) (ww_a4 (i := 165) (w := Cond.instantiable RX8 47) rfl rfl) (ww_a1 (i := 10) (w := Cond.initialized RX8) rfl rfl) (fs := [.int 0, .null, .int 0, .null, .null, .null, .null, .null, .int 0, .int 0, .null, .null, .null, .null, .null, .null, .null, .null, .null, .null, .int 0, .null, .null, .int 0, .null, .int 0, .null, .int 0, .int 0, .null, .null, .null, .int 0, .int 0, .int 0, .int 0, .int 0, .null, .null, .int 0, .null, .null, .null, .null, .int 0, .int 0, .int 0]) zd_8 (by show 35 + 1 ≤ 600000; decide) (by show 53525 + 47 ≤ 7302250; decide) (by decide +kernel) ?_
  intro b0 H hP hD hS
  refine lv_dup X.1.1 X.1.2.1 (by decide +kernel) rfl ?_
  refine z_call X hP hD hS hA (As := []) (rest := [.ref b0]) (n := 0) (zi_X8 l D tC b0) 35 (zp_X7 tC a u) [0, 1, 2, 3, 4, 5, 6, 7, 8, 9, 10, 11, 12, 13, 14, 15, 16, 17, 18, 19, 20, 21, 22, 23, 24, 25, 26, 27, 28, 29, 30, 31, 32, 33, 34] rfl rfl (by decide) (by decide) (ww_a4 (i := 168) (w := Cond.code yX8_init cX8_init 2 none) rfl rfl) (ww_a1 (i := 10) (w := Cond.initialized RX8) rfl rfl) (Or.inl (ww_a4 (i := 166) (w := Cond.methodLink RL 12 yX8_init) rfl rfl)) (ww_a4 (i := 167) (w := Cond.instanceMethod yX8_init) rfl rfl) rfl ⟨by decide, by decide, by decide +kernel⟩ rfl rfl rfl (by show 1 + 1 ≤ 2048 ∧ 8 + (2 + 11) + 40 ≤ 84000; decide) hl.1 (by simp [Value.category]) (by show 36 + 29 ≤ 600000 ∧ 53572 + 28946 ≤ 7302250; decide) (by decide +kernel) ?_
  intro z H locs hP hD hS
  refine lv_astore_n X.1.1 X.1.2.1 (k := 2) (i := 2) (by decide +kernel) rfl hl (by decide) rfl ?_
  intro ls hl
  refine lv_iconst X.1.1 X.1.2.1 (n := 0) (v := 0) (by decide +kernel) (by decide) ?_
  refine lv_istore_n X.1.1 X.1.2.1 (k := 3) (i := 3) (by decide +kernel) rfl hl (by decide) rfl ?_
  intro ls hl
  obtain ⟨t, hTa, hZa⟩ := lw_above (A := A) hts hT hgv (fun q h1 h2 => by have := hA' q h2; omega)
  have hP1 : va_P D vwCl (qq_c ww_sh tC (lw_ad a b0 u z t b) lw_w0) H := hP.sub [0, 1, 11, 13, 17, 25, 33, 18, 35, 2, 3, 4, 5, 6, 7, 8, 9, 10, 12, 14, 15, 16, 22, 23, 24, 26, 27, 28, 29, 30, 31, 32, 34, 19, 20, 21, 36, 37, 38, 39, 40, 41, 42, 43, 44, 45, 46, 47, 48, 49, 50, 51, 52, 53, 54, 55, 56, 57, 58, 59, 60, 61, 62, 63, 64] (lw_fm (ws' := []) (lw_perm tC a b0 u z t b))
  have hD1 : va_D A (qq_c ww_sh tC (lw_ad a b0 u z t b) lw_w0) := hD.sub [0, 1, 11, 13, 17, 25, 33, 18, 35, 2, 3, 4, 5, 6, 7, 8, 9, 10, 12, 14, 15, 16, 22, 23, 24, 26, 27, 28, 29, 30, 31, 32, 34, 19, 20, 21, 36, 37, 38, 39, 40, 41, 42, 43, 44, 45, 46, 47, 48, 49, 50, 51, 52, 53, 54, 55, 56, 57, 58, 59, 60, 61, 62, 63, 64] (by decide) (lw_perm tC a b0 u z t b)
  have hap := qq_ap_of hD1
  generalize had : lw_ad a b0 u z t b = ad at hP1 hD1 hap
  have had0 : ad 1000 = t := by rw [← had]; rfl
  have had1 : ad 1001 = b := by rw [← had]; rfl
  have had2 : ad 0 = a := by rw [← had]; rfl
  have had3 : ad 8 = b0 := by rw [← had]; rfl
  have hAq : qq_A ww_sh ad s.heap.size = A := by
    funext q
    apply propext
    constructor
    · rintro (⟨k, hk, rfl⟩ | h)
      · obtain ⟨e, he⟩ := qq_c_ex (tC := tC) (ad := ad) (w := lw_w0) hk
        exact hD1.2 k _ he
      · exact hA q h
    · intro h
      exact Or.inr (hA' q h)
  have XX : qq_X p s m #[Value.ref b] c ww_T ww_N RL cL_law 4 D vwCl (zt tC) tC ww_sh (lw_ro L xs) ww_zs ad := by
    refine ⟨X.1, hK, fun ty h => ?_, hap, fun k n f h => ?_, fun zz hz => ?_, X.2.2⟩
    · rcases h with rfl | rfl | rfl
      · exact ⟨0, rfl⟩
      · exact ⟨1, rfl⟩
      · exact ⟨2, rfl⟩
    · rw [hAq]
      unfold lw_ro at h
      cases hb1 : Nat.beq k 1001 with
      | true =>
        rw [hb1] at h
        cases h
        have e := Nat.eq_of_beq_eq_true hb1
        subst e
        rw [had1]
        obtain ⟨scr, g1, g2, g3, g4, g5⟩ := hX
        exact ⟨scr, g1, g2, g3, by omega, by rw [g4], g5, fun h => by have := hA' b h; omega⟩
      | false =>
        rw [hb1] at h
        unfold ww_ro at h
        cases hb0 : Nat.beq k 1000 with
        | true =>
          rw [hb0] at h
          cases h
          have e := Nat.eq_of_beq_eq_true hb0
          subst e
          rw [had0]
          exact hTa
        | false =>
          rw [hb0] at h
          cases h
    · rw [hAq]
      obtain rfl : zz = ("ValidPaths", "ABOVE", "[I", 1000) := by simpa [ww_zs] using hz
      show va_Z _ _ _ (.ref (ad 1000)) _ _ _
      rw [had0]
      exact hZa
  have S := qq_sat (l := l) (e := e) (R := room_1) (below := below) (meth := meth) (cells := 65) (slots := 82518) (Q := lw_Z below #[Value.ref b] s) (P := fun v _ => v = some (.int 1)) (rt := some .boolean) ww_k1 ww_fl0 ww_so ww_so2 kc_L_law kv_L_law kg_L_law (lw_cs l L xs) XX
    (fun pc lv w x hdg ht hp ls H locs hP hD hS hl => by
      cases hp
      refine va_forget (fun q hq => hA' _ (by rw [← hAq]; exact hS.2.2 q hq)) ?_
      refine W.widen (k := 600000) (n := 7302250) (by decide) (by decide) ?_
      exact lw_ret hx hb hr hlocks hdg)
    (fun pc lv w x hdg ht hp => by cases ht)
    (fun pc lv w hdg ht hp => by cases ht)
  have hl1 : lv_has ls 4 (qq_G ad [(3, .int (nI 0)), (2, .ref 8), (1, .ref 0), (0, .ref 1001)]) := by
    show lv_has ls 4 [(3, .int (nI 0)), (2, .ref (ad 8)), (1, .ref (ad 0)), (0, .ref (ad 1001))]
    rw [had1, had2, had3]
    exact hl
  rw [← hAq] at hD1 hS
  exact lw_loop hL S hO (fun w => rfl) 513 0 lw_w0 (by omega) (by omega) h0 ls H locs hP1 hD1 hS hl1

