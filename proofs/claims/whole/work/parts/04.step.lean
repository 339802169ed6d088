/-! ONE STEP of the small machine: K is what may come behind, P what an end must meet -/
def qq_1 (st : List Value) (k : Int32 → List Value → Prop) : Prop := match st with
  | .int x :: r => k x r
  | _ => False
def qq_2 (st : List Value) (k : Int32 → Int32 → List Value → Prop) : Prop := match st with
  | .int y :: .int x :: r => k x y r
  | _ => False
def qq_l1 (st : List Value) (k : Int64 → List Value → Prop) : Prop := match st with
  | .long x :: r => k x r
  | _ => False
def qq_l2 (st : List Value) (k : Int64 → Int64 → List Value → Prop) : Prop := match st with
  | .long y :: .long x :: r => k x y r
  | _ => False
def qq_li (st : List Value) (k : Int64 → Int32 → List Value → Prop) : Prop := match st with
  | .int y :: .long x :: r => k x y r
  | _ => False
def qq_r1 (st : List Value) (k : Nat → List Value → Prop) : Prop := match st with
  | .ref x :: r => k x r
  | _ => False
def qq_ri (st : List Value) (k : Nat → Int32 → List Value → Prop) : Prop := match st with
  | .int i :: .ref x :: r => k x i r
  | _ => False
def qq_rii (st : List Value) (k : Nat → Int32 → Int32 → List Value → Prop) : Prop := match st with
  | .int v :: .int i :: .ref x :: r => k x i v r
  | _ => False
def qq_ril (st : List Value) (k : Nat → Int32 → Int64 → List Value → Prop) : Prop := match st with
  | .long v :: .int i :: .ref x :: r => k x i v r
  | _ => False
def qq_rv (st : List Value) (k : Nat → Value → List Value → Prop) : Prop := match st with
  | v :: .ref x :: r => k x v r
  | _ => False
def qq_v1 (st : List Value) (k : Value → List Value → Prop) : Prop := match st with
  | v :: r => k v r
  | _ => False
def qq_v2 (st : List Value) (k : Value → Value → List Value → Prop) : Prop := match st with
  | v :: u :: r => k v u r
  | _ => False
def qq_v3 (st : List Value) (k : Value → Value → Value → List Value → Prop) : Prop := match st with
  | v :: u :: z :: r => k v u z r
  | _ => False
def qq_some {α : Type} (o : Option α) (k : α → Prop) : Prop := match o with
  | some x => k x
  | none => False
def qq_if (b : Bool) (k : Prop) : Prop := match b with
  | true => k
  | false => False
theorem qq_1_inv {st : List Value} {k : Int32 → List Value → Prop} (h : qq_1 st k) : ∃ x r, st = .int x :: r ∧ k x r := by
  unfold qq_1 at h
  split at h
  · exact ⟨_, _, rfl, h⟩
  · exact h.elim
theorem qq_2_inv {st : List Value} {k : Int32 → Int32 → List Value → Prop} (h : qq_2 st k) : ∃ x y r, st = .int y :: .int x :: r ∧ k x y r := by
  unfold qq_2 at h
  split at h
  · exact ⟨_, _, _, rfl, h⟩
  · exact h.elim
theorem qq_l1_inv {st : List Value} {k : Int64 → List Value → Prop} (h : qq_l1 st k) : ∃ x r, st = .long x :: r ∧ k x r := by
  unfold qq_l1 at h
  split at h
  · exact ⟨_, _, rfl, h⟩
  · exact h.elim
theorem qq_l2_inv {st : List Value} {k : Int64 → Int64 → List Value → Prop} (h : qq_l2 st k) : ∃ x y r, st = .long y :: .long x :: r ∧ k x y r := by
  unfold qq_l2 at h
  split at h
  · exact ⟨_, _, _, rfl, h⟩
  · exact h.elim
theorem qq_li_inv {st : List Value} {k : Int64 → Int32 → List Value → Prop} (h : qq_li st k) : ∃ x y r, st = .int y :: .long x :: r ∧ k x y r := by
  unfold qq_li at h
  split at h
  · exact ⟨_, _, _, rfl, h⟩
  · exact h.elim
theorem qq_r1_inv {st : List Value} {k : Nat → List Value → Prop} (h : qq_r1 st k) : ∃ x r, st = .ref x :: r ∧ k x r := by
  unfold qq_r1 at h
  split at h
  · exact ⟨_, _, rfl, h⟩
  · exact h.elim
theorem qq_ri_inv {st : List Value} {k : Nat → Int32 → List Value → Prop} (h : qq_ri st k) : ∃ x i r, st = .int i :: .ref x :: r ∧ k x i r := by
  unfold qq_ri at h
  split at h
  · exact ⟨_, _, _, rfl, h⟩
  · exact h.elim
theorem qq_rii_inv {st : List Value} {k : Nat → Int32 → Int32 → List Value → Prop} (h : qq_rii st k) : ∃ x i v r, st = .int v :: .int i :: .ref x :: r ∧ k x i v r := by
  unfold qq_rii at h
  split at h
  · exact ⟨_, _, _, _, rfl, h⟩
  · exact h.elim
theorem qq_ril_inv {st : List Value} {k : Nat → Int32 → Int64 → List Value → Prop} (h : qq_ril st k) : ∃ x i v r, st = .long v :: .int i :: .ref x :: r ∧ k x i v r := by
  unfold qq_ril at h
  split at h
  · exact ⟨_, _, _, _, rfl, h⟩
  · exact h.elim
theorem qq_rv_inv {st : List Value} {k : Nat → Value → List Value → Prop} (h : qq_rv st k) : ∃ x v r, st = v :: .ref x :: r ∧ k x v r := by
  unfold qq_rv at h
  split at h
  · exact ⟨_, _, _, rfl, h⟩
  · exact h.elim
theorem qq_v1_inv {st : List Value} {k : Value → List Value → Prop} (h : qq_v1 st k) : ∃ x r, st = x :: r ∧ k x r := by
  unfold qq_v1 at h
  split at h
  · exact ⟨_, _, rfl, h⟩
  · exact h.elim
theorem qq_v2_inv {st : List Value} {k : Value → Value → List Value → Prop} (h : qq_v2 st k) : ∃ x y r, st = x :: y :: r ∧ k x y r := by
  unfold qq_v2 at h
  split at h
  · exact ⟨_, _, _, rfl, h⟩
  · exact h.elim
theorem qq_v3_inv {st : List Value} {k : Value → Value → Value → List Value → Prop} (h : qq_v3 st k) : ∃ x y z r, st = x :: y :: z :: r ∧ k x y z r := by
  unfold qq_v3 at h
  split at h
  · exact ⟨_, _, _, _, rfl, h⟩
  · exact h.elim
theorem qq_some_inv {α : Type} {o : Option α} {k : α → Prop} (h : qq_some o k) : ∃ x, o = some x ∧ k x := by
  unfold qq_some at h
  split at h
  · exact ⟨_, rfl, h⟩
  · exact h.elim
theorem qq_if_inv {b : Bool} {k : Prop} (h : qq_if b k) : b = true ∧ k := by
  unfold qq_if at h
  split at h
  · exact ⟨rfl, h⟩
  · exact h.elim
/-- an array's place: its length and what is read there -/
def qq_ai (sh : List qq_s) (ro : qq_R) (w : qq_w) (k : Nat) : Option (Nat × (Nat → Int32)) := match sh[k]? with
  | some (.inl (.int, n)) => some (n, w.1 k)
  | some _ => none
  | none => ro k
def qq_arr (sh : List qq_s) (ty : FieldType) (k : Nat) : Option Nat := match sh[k]? with
  | some (.inl (t, n)) => cond (decide (t = ty)) (some n) none
  | _ => none
def qq_alen (sh : List qq_s) (ro : qq_R) (k : Nat) : Option Nat := match sh[k]? with
  | some (.inl (_, n)) => some n
  | some _ => none
  | none => (ro k).map Prod.fst
def qq_fld (sh : List qq_s) (k ci j : Nat) : Option Nat := match sh[k]? with
  | some (.inr (c, fs)) => cond (Nat.beq c ci) fs[j]? none
  | _ => none
def qq_ci (v : Value) : Nat := match v with
  | .retAddr n => n
  | _ => 0
def qq_iv (v : Value) : Int32 := match v with
  | .int n => n
  | _ => 0
def qq_wd (st : List Value) : Nat := match st with
  | [] => 0
  | v :: r => (cond (qq_two v) 2 1) + qq_wd r
def qq_j (pc : Nat) (off : Int) : Nat := ((pc : Int) + off).toNat
/-- the places of a table of jumps, one after the other -/
def qq_tab (K : Nat → Prop) (pc : Nat) (x : Int32) (d : Int) : Int → List Int → Prop
  | _, [] => K (qq_j pc d)
  | lo, o :: r => (x.toInt = lo → K (qq_j pc o)) ∧ (¬ x.toInt = lo → qq_tab K pc x d (lo + 1) r)
/-- a boolean's two values -/
def qq_01 (x : Int32) : Bool := decide (x = 0) || decide (x = 1)
theorem qq_01_inv {x : Int32} (h : qq_01 x = true) : x = 0 ∨ x = 1 := by
  rcases Bool.or_eq_true_iff.mp h with h | h
  · exact Or.inl (of_decide_eq_true h)
  · exact Or.inr (of_decide_eq_true h)
def qq_st (sh : List qq_s) (ro : qq_R) (cs : List (Nat × qq_t)) (rt : Option FieldType) (K : Nat → qq_L → List Value → qq_w → Prop) (P : Option Value → qq_w → Prop) (pc : Nat) (lv : qq_L) (st : List Value) (w : qq_w) (q : qq_I) : Prop := match q.1 with
  | .iconst _ => K q.2.1 lv (q.2.2.2 :: st) w
  | .bipush _ => K q.2.1 lv (q.2.2.2 :: st) w
  | .sipush _ => K q.2.1 lv (q.2.2.2 :: st) w
  | .lconst _ => K q.2.1 lv (q.2.2.2 :: st) w
  | .ldc _ => K q.2.1 lv (q.2.2.2 :: st) w
  | .ldc_w _ => K q.2.1 lv (q.2.2.2 :: st) w
  | .ldc2_w _ => K q.2.1 lv (q.2.2.2 :: st) w
  | .getstatic _ => K q.2.1 lv (q.2.2.2 :: st) w
  | .iload _ => qq_some (qq_ld lv q.2.2.1) fun v => qq_1 [v] fun x _ => K q.2.1 lv (.int x :: st) w
  | .iload_n _ => qq_some (qq_ld lv q.2.2.1) fun v => qq_1 [v] fun x _ => K q.2.1 lv (.int x :: st) w
  | .lload _ => qq_some (qq_ld lv q.2.2.1) fun v => qq_l1 [v] fun x _ => K q.2.1 lv (.long x :: st) w
  | .lload_n _ => qq_some (qq_ld lv q.2.2.1) fun v => qq_l1 [v] fun x _ => K q.2.1 lv (.long x :: st) w
  | .aload _ => qq_some (qq_ld lv q.2.2.1) fun v => qq_r1 [v] fun x _ => K q.2.1 lv (.ref x :: st) w
  | .aload_n _ => qq_some (qq_ld lv q.2.2.1) fun v => qq_r1 [v] fun x _ => K q.2.1 lv (.ref x :: st) w
  | .istore _ => qq_1 st fun x r => K q.2.1 ((q.2.2.1, .int x) :: qq_rm q.2.2.1 lv) r w
  | .istore_n _ => qq_1 st fun x r => K q.2.1 ((q.2.2.1, .int x) :: qq_rm q.2.2.1 lv) r w
  | .lstore _ => qq_l1 st fun x r => K q.2.1 ((q.2.2.1, .long x) :: qq_rm2 q.2.2.1 lv) r w
  | .lstore_n _ => qq_l1 st fun x r => K q.2.1 ((q.2.2.1, .long x) :: qq_rm2 q.2.2.1 lv) r w
  | .astore _ => qq_r1 st fun x r => K q.2.1 ((q.2.2.1, .ref x) :: qq_rm q.2.2.1 lv) r w
  | .astore_n _ => qq_r1 st fun x r => K q.2.1 ((q.2.2.1, .ref x) :: qq_rm q.2.2.1 lv) r w
  | .iinc _ _ => qq_some (qq_ld lv q.2.2.1) fun v => qq_1 [v] fun x _ => K q.2.1 ((q.2.2.1, .int (x + qq_iv q.2.2.2)) :: qq_rm q.2.2.1 lv) st w
  | .iadd => qq_2 st fun x y r => K q.2.1 lv (.int (x + y) :: r) w
  | .isub => qq_2 st fun x y r => K q.2.1 lv (.int (x - y) :: r) w
  | .imul => qq_2 st fun x y r => K q.2.1 lv (.int (x * y) :: r) w
  | .iand => qq_2 st fun x y r => K q.2.1 lv (.int (x &&& y) :: r) w
  | .ior => qq_2 st fun x y r => K q.2.1 lv (.int (x ||| y) :: r) w
  | .ixor => qq_2 st fun x y r => K q.2.1 lv (.int (x ^^^ y) :: r) w
  | .ishl => qq_2 st fun x y r => K q.2.1 lv (.int (x <<< (y &&& 31)) :: r) w
  | .ishr => qq_2 st fun x y r => K q.2.1 lv (.int (x >>> (y &&& 31)) :: r) w
  | .iushr => qq_2 st fun x y r => K q.2.1 lv (.int (x.toUInt32 >>> (y.toUInt32 &&& Int32.toUInt32 31)).toInt32 :: r) w
  | .idiv => qq_2 st fun x y r => ¬ y = 0 ∧ K q.2.1 lv (.int (x / y) :: r) w
  | .irem => qq_2 st fun x y r => ¬ y = 0 ∧ K q.2.1 lv (.int (x - x / y * y) :: r) w
  | .ineg => qq_1 st fun x r => K q.2.1 lv (.int (-x) :: r) w
  | .ladd => qq_l2 st fun x y r => K q.2.1 lv (.long (x + y) :: r) w
  | .lsub => qq_l2 st fun x y r => K q.2.1 lv (.long (x - y) :: r) w
  | .lmul => qq_l2 st fun x y r => K q.2.1 lv (.long (x * y) :: r) w
  | .land => qq_l2 st fun x y r => K q.2.1 lv (.long (x &&& y) :: r) w
  | .lor => qq_l2 st fun x y r => K q.2.1 lv (.long (x ||| y) :: r) w
  | .lneg => qq_l1 st fun x r => K q.2.1 lv (.long (-x) :: r) w
  | .lshl => qq_li st fun x y r => K q.2.1 lv (.long (x <<< (y.toInt64 &&& 63)) :: r) w
  | .lshr => qq_li st fun x y r => K q.2.1 lv (.long (x >>> (y.toInt64 &&& 63)) :: r) w
  | .lushr => qq_li st fun x y r => K q.2.1 lv (.long (x.toUInt64 >>> (y.toInt64.toUInt64 &&& Int64.toUInt64 63)).toInt64 :: r) w
  | .lcmp => qq_l2 st fun x y r => K q.2.1 lv (.int (lg_cmp x y) :: r) w
  | .i2l => qq_1 st fun x r => K q.2.1 lv (.long x.toInt64 :: r) w
  | .l2i => qq_l1 st fun x r => K q.2.1 lv (.int x.toInt32 :: r) w
  | .dup => qq_v1 st fun v r => qq_if (!qq_two v) (K q.2.1 lv (v :: v :: r) w)
  | .pop => qq_v1 st fun v r => qq_if (!qq_two v) (K q.2.1 lv r w)
  | .dup_x1 => qq_v2 st fun v u r => qq_if (!qq_two v && !qq_two u) (K q.2.1 lv (v :: u :: v :: r) w)
  | .dup_x2 => qq_v3 st fun v u z r => qq_if (!qq_two v && (!qq_two u && !qq_two z)) (K q.2.1 lv (v :: u :: z :: v :: r) w)
  | .dup2 => qq_v2 st fun v u r => qq_if (!qq_two v && !qq_two u) (K q.2.1 lv (v :: u :: v :: u :: r) w)
  | .ifCond .eq _ => qq_1 st fun x r => (x = 0 → K q.2.2.1 lv r w) ∧ (¬ x = 0 → K q.2.1 lv r w)
  | .ifCond .ne _ => qq_1 st fun x r => (¬ x = 0 → K q.2.2.1 lv r w) ∧ (x = 0 → K q.2.1 lv r w)
  | .ifCond .lt _ => qq_1 st fun x r => (x < 0 → K q.2.2.1 lv r w) ∧ (¬ x < 0 → K q.2.1 lv r w)
  | .ifCond .ge _ => qq_1 st fun x r => (0 ≤ x → K q.2.2.1 lv r w) ∧ (¬ 0 ≤ x → K q.2.1 lv r w)
  | .ifCond .gt _ => qq_1 st fun x r => (0 < x → K q.2.2.1 lv r w) ∧ (¬ 0 < x → K q.2.1 lv r w)
  | .ifCond .le _ => qq_1 st fun x r => (x ≤ 0 → K q.2.2.1 lv r w) ∧ (¬ x ≤ 0 → K q.2.1 lv r w)
  | .if_icmp .eq _ => qq_2 st fun x y r => (x = y → K q.2.2.1 lv r w) ∧ (¬ x = y → K q.2.1 lv r w)
  | .if_icmp .ne _ => qq_2 st fun x y r => (¬ x = y → K q.2.2.1 lv r w) ∧ (x = y → K q.2.1 lv r w)
  | .if_icmp .lt _ => qq_2 st fun x y r => (x < y → K q.2.2.1 lv r w) ∧ (¬ x < y → K q.2.1 lv r w)
  | .if_icmp .ge _ => qq_2 st fun x y r => (y ≤ x → K q.2.2.1 lv r w) ∧ (¬ y ≤ x → K q.2.1 lv r w)
  | .if_icmp .gt _ => qq_2 st fun x y r => (y < x → K q.2.2.1 lv r w) ∧ (¬ y < x → K q.2.1 lv r w)
  | .if_icmp .le _ => qq_2 st fun x y r => (x ≤ y → K q.2.2.1 lv r w) ∧ (¬ x ≤ y → K q.2.1 lv r w)
  | .goto _ => K q.2.2.1 lv st w
  | .tableswitch d lo _ os => qq_1 st fun x r => qq_tab (fun t => K t lv r w) pc x d lo os.toList
  | .iaload => qq_ri st fun k i r => qq_some (qq_ai sh ro w k) fun a => vp_in i a.1 ∧ K q.2.1 lv (.int (a.2 i.toNatClampNeg) :: r) w
  | .laload => qq_ri st fun k i r => qq_some (qq_arr sh .long k) fun n => vp_in i n ∧ K q.2.1 lv (.long (w.2 k i.toNatClampNeg) :: r) w
  | .baload => qq_ri st fun k i r => qq_some (qq_arr sh .boolean k) fun n => vp_in i n ∧ K q.2.1 lv (.int (w.1 k i.toNatClampNeg) :: r) w
  | .iastore => qq_rii st fun k i x r => qq_some (qq_arr sh .int k) fun n => vp_in i n ∧ K q.2.1 lv r (qq_ui w k i.toNatClampNeg x)
  | .lastore => qq_ril st fun k i x r => qq_some (qq_arr sh .long k) fun n => vp_in i n ∧ K q.2.1 lv r (qq_ul w k i.toNatClampNeg x)
  | .bastore => qq_rii st fun k i x r => qq_some (qq_arr sh .boolean k) fun n => (vp_in i n ∧ (x = 0 ∨ x = 1)) ∧ K q.2.1 lv r (qq_ui w k i.toNatClampNeg x)
  | .arraylength => qq_r1 st fun k r => qq_some (qq_alen sh ro k) fun n => K q.2.1 lv (.int (Int32.ofNat n) :: r) w
  | .getfield _ => qq_r1 st fun k r => qq_some (qq_fld sh k (qq_ci q.2.2.2) q.2.2.1) fun f => K q.2.1 lv (qq_fa w k q.2.2.1 f :: r) w
  | .putfield _ => qq_rv st fun k v r => qq_some (qq_fld sh k (qq_ci q.2.2.2) q.2.2.1) fun f => match f, v with
    | 0, .int x => K q.2.1 lv r (qq_ui w k q.2.2.1 x)
    | 1, .long x => K q.2.1 lv r (qq_ul w k q.2.2.1 x)
    | 2, .int x => (x = 0 ∨ x = 1) ∧ K q.2.1 lv r (qq_ui w k q.2.2.1 x)
    | _, _ => False
  | .invokevirtual _ => qq_some cs[q.2.2.1]? fun c => qq_if (Nat.ble c.1 st.length && Nat.ble (qq_wd (st.drop c.1)) 8) (c.2 (st.take c.1).reverse w fun v w' => K q.2.1 lv (v.toList ++ st.drop c.1) w')
  | .invokestatic _ => qq_some cs[q.2.2.1]? fun c => qq_if (Nat.ble c.1 st.length && Nat.ble (qq_wd (st.drop c.1)) 8) (c.2 (st.take c.1).reverse w fun v w' => K q.2.1 lv (v.toList ++ st.drop c.1) w')
  | .ireturn => match st with
    | [.int x] => match rt with
      | some .int => P (some (.int x)) w
      | some .boolean => qq_if (qq_01 x) (P (some (.int x)) w)
      | _ => False
    | _ => False
  | .lreturn => match st with
    | [.long x] => match rt with
      | some .long => P (some (.long x)) w
      | _ => False
    | _ => False
  | .return_ => match st with
    | [] => match rt with
      | none => P none w
      | _ => False
    | _ => False
  | _ => False
/-- the locals that are listed first are held by the second list -/
def qq_le : qq_L → qq_L → Prop
  | [], _ => True
  | q :: r, lv => qq_ld lv q.1 = some q.2 ∧ qq_le r lv
theorem qq_le_mem : ∀ {lv0 lv : qq_L}, qq_le lv0 lv → ∀ q ∈ lv0, q ∈ lv
  | [], _, _, q, hq => absurd hq List.not_mem_nil
  | _ :: _, _, h, q, hq => by
    rcases List.mem_cons.mp hq with rfl | hq
    · exact qq_ld_mem h.1
    · exact qq_le_mem h.2 q hq
/-- K holds wherever one step of the code leads to what K follows from; and with more locals known -/
def qq_Sat (sh : List qq_s) (ro : qq_R) (cs : List (Nat × qq_t)) (cd : Nat → Option qq_I) (rt : Option FieldType) (P : Option Value → qq_w → Prop) (K : Nat → qq_L → List Value → qq_w → Prop) : Prop :=
  (∀ K' : Nat → qq_L → List Value → qq_w → Prop, (∀ pc lv st w, K' pc lv st w → K pc lv st w) → ∀ pc lv st w q, cd pc = some q → qq_st sh ro cs rt K' P pc lv st w q → K pc lv st w) ∧ ∀ pc lv0 lv st w, qq_le lv0 lv → K pc lv0 st w → K pc lv st w
/-- steps, up to the pcs that 'sp' names -/
def qq_run (sh : List qq_s) (ro : qq_R) (cs : List (Nat × qq_t)) (cd : Nat → Option qq_I) (rt : Option FieldType) (sp : Nat → Bool) (P : Option Value → qq_w → Prop) (K : Nat → qq_L → List Value → qq_w → Prop) : Nat → Nat → qq_L → List Value → qq_w → Prop
  | 0, pc, lv, st, w => K pc lv st w
  | n + 1, pc, lv, st, w => match sp pc with
    | true => K pc lv st w
    | false => qq_some (cd pc) fun q => qq_st sh ro cs rt (qq_run sh ro cs cd rt sp P K n) P pc lv st w q
def qq_go (sh : List qq_s) (ro : qq_R) (cs : List (Nat × qq_t)) (cd : Nat → Option qq_I) (rt : Option FieldType) (sp : Nat → Bool) (P : Option Value → qq_w → Prop) (K : Nat → qq_L → List Value → qq_w → Prop) (n pc : Nat) (lv : qq_L) (st : List Value) (w : qq_w) : Prop := qq_some (cd pc) fun q => qq_st sh ro cs rt (qq_run sh ro cs cd rt sp P K n) P pc lv st w q
theorem qq_run_ok {sh : List qq_s} {ro : qq_R} {cs : List (Nat × qq_t)} {cd : Nat → Option qq_I} {rt : Option FieldType} {sp : Nat → Bool} {P : Option Value → qq_w → Prop} {K K0 : Nat → qq_L → List Value → qq_w → Prop} (S : qq_Sat sh ro cs cd rt P K) (h0 : ∀ pc lv st w, K0 pc lv st w → K pc lv st w) : ∀ n pc lv st w, qq_run sh ro cs cd rt sp P K0 n pc lv st w → K pc lv st w
  | 0, _, _, _, _, h => h0 _ _ _ _ h
  | n + 1, pc, lv, st, w, h => by
    unfold qq_run at h
    split at h
    · exact h0 _ _ _ _ h
    · obtain ⟨q, hq, h⟩ := qq_some_inv h
      exact S.1 _ (qq_run_ok S h0 n) pc lv st w q hq h
theorem qq_go_ok {sh : List qq_s} {ro : qq_R} {cs : List (Nat × qq_t)} {cd : Nat → Option qq_I} {rt : Option FieldType} {P : Option Value → qq_w → Prop} {K : Nat → qq_L → List Value → qq_w → Prop} (S : qq_Sat sh ro cs cd rt P K) (sp : Nat → Bool) (n : Nat) {pc : Nat} {lv : qq_L} {st : List Value} {w : qq_w} (h : qq_go sh ro cs cd rt sp P K n pc lv st w) : K pc lv st w := by
  obtain ⟨q, hq, h⟩ := qq_some_inv h
  exact S.1 _ (qq_run_ok S (fun _ _ _ _ z => z) n) pc lv st w q hq h
abbrev qq_no : Nat → qq_L → List Value → qq_w → Prop := fun _ _ _ _ => False
theorem qq_go_all {sh : List qq_s} {ro : qq_R} {cs : List (Nat × qq_t)} {cd : Nat → Option qq_I} {rt : Option FieldType} {P : Option Value → qq_w → Prop} {K : Nat → qq_L → List Value → qq_w → Prop} {sp : Nat → Bool} {n : Nat} {pc : Nat} {lv : qq_L} {st : List Value} {w : qq_w} (S : qq_Sat sh ro cs cd rt P K) (h : qq_go sh ro cs cd rt sp P qq_no n pc lv st w) : K pc lv st w := by
  obtain ⟨q, hq, h⟩ := qq_some_inv h
  exact S.1 _ (qq_run_ok S (fun _ _ _ _ z => z.elim) n) pc lv st w q hq h
theorem qq_wk {sh : List qq_s} {ro : qq_R} {cs : List (Nat × qq_t)} {cd : Nat → Option qq_I} {rt : Option FieldType} {P : Option Value → qq_w → Prop} {K : Nat → qq_L → List Value → qq_w → Prop} (S : qq_Sat sh ro cs cd rt P K) {pc : Nat} {lv0 lv : qq_L} {st : List Value} {w : qq_w} (k : K pc lv0 st w) (h : qq_le lv0 lv) : K pc lv st w := S.2 pc lv0 lv st w h k
