/-! THE SMALL MACHINE: a world of cells of fixed shape, by places; what a method's code does there, as a predicate on what comes behind.
  A world: ints and longs by place and slot. A shape: an array (its type, its length) or an object (its kind's number, its fields: 0 an int, 1 a long, 2 a boolean, p + 3 the cell at place p). -/
abbrev qq_w : Type := (Nat → Nat → Int32) × (Nat → Nat → Int64)
abbrev qq_s : Type := (FieldType × Nat) ⊕ (Nat × List Nat)
abbrev qq_t : Type := List Value → qq_w → (Option Value → qq_w → Prop) → Prop
abbrev qq_L : Type := List (Nat × Value)
abbrev qq_I : Type := Instr × Nat × Nat × Value
abbrev qq_R : Type := Nat → Option (Nat × (Nat → Int32))
def qq_ui (w : qq_w) (k j : Nat) (x : Int32) : qq_w := (va_up w.1 k (upd (w.1 k) j x), w.2)
def qq_ul (w : qq_w) (k j : Nat) (x : Int64) : qq_w := (w.1, va_up w.2 k (vp_updL (w.2 k) j x))
def qq_g (ad : Nat → Nat) (v : Value) : Value := match v with
  | .ref k => .ref (ad k)
  | v => v
def qq_fa (w : qq_w) (k j f : Nat) : Value := match f with
  | 0 => .int (w.1 k j)
  | 1 => .long (w.2 k j)
  | 2 => .int (w.1 k j)
  | p + 3 => .ref p
def qq_e (tC : FieldType → ClassId) (ad : Nat → Nat) (w : qq_w) (k : Nat) (e : qq_s) : va_E := match e with
  | .inl (.long, n) => .inl (tC .long, n, .inr (.inl (w.2 k)))
  | .inl (ty, n) => .inl (tC ty, n, .inl (w.1 k))
  | .inr (ci, fs) => .inr (ci, fs.mapIdx fun j f => qq_g ad (qq_fa w k j f))
def qq_c (sh : List qq_s) (tC : FieldType → ClassId) (ad : Nat → Nat) (w : qq_w) : va_W := sh.mapIdx fun k e => (ad k, qq_e tC ad w k e)
theorem qq_c_at {sh : List qq_s} {tC : FieldType → ClassId} {ad : Nat → Nat} {w : qq_w} {k : Nat} {e : qq_s} (h : sh[k]? = some e) : (qq_c sh tC ad w)[k]? = some (ad k, qq_e tC ad w k e) := by
  simp [qq_c, List.getElem?_mapIdx, h]
theorem qq_e_congr {tC : FieldType → ClassId} {ad : Nat → Nat} {w w' : qq_w} {k : Nat} (h1 : w'.1 k = w.1 k) (h2 : w'.2 k = w.2 k) (e : qq_s) : qq_e tC ad w' k e = qq_e tC ad w k e := by
  have hf : ∀ j f, qq_fa w' k j f = qq_fa w k j f := by
    intro j f
    match f with
    | 0 => simp [qq_fa, h1]
    | 1 => simp [qq_fa, h2]
    | 2 => simp [qq_fa, h1]
    | p + 3 => simp [qq_fa]
  cases e with
  | inl q =>
    obtain ⟨ty, n⟩ := q
    cases ty <;> simp [qq_e, h1, h2]
  | inr q =>
    obtain ⟨ci, fs⟩ := q
    simp [qq_e, hf]
/-- a world in which one place alone has changed -/
theorem qq_c_set {sh : List qq_s} {tC : FieldType → ClassId} {ad : Nat → Nat} {w w' : qq_w} {k : Nat} {e : qq_s} {E : va_E} (h : sh[k]? = some e) (he : qq_e tC ad w' k e = E) (h1 : ∀ i, i ≠ k → w'.1 i = w.1 i) (h2 : ∀ i, i ≠ k → w'.2 i = w.2 i) : (qq_c sh tC ad w).set k (ad k, E) = qq_c sh tC ad w' := by
  have hl : k < sh.length := (List.getElem?_eq_some_iff.mp h).1
  apply List.ext_getElem?
  intro i
  by_cases hi : i = k
  · subst hi
    rw [List.getElem?_set_self (by simpa [qq_c] using hl), qq_c_at h, he]
  · rw [List.getElem?_set_ne (Ne.symm hi)]
    simp only [qq_c, List.getElem?_mapIdx]
    cases sh[i]? with
    | none => rfl
    | some x => simp [qq_e_congr (h1 i hi) (h2 i hi)]
theorem qq_c_i {sh : List qq_s} {tC : FieldType → ClassId} {ad : Nat → Nat} {w : qq_w} {k n j : Nat} {x : Int32} {ty : FieldType} (h : sh[k]? = some (.inl (ty, n))) (hty : ty ≠ .long) : (qq_c sh tC ad w).set k (ad k, .inl (tC ty, n, .inl (upd (w.1 k) j x))) = qq_c sh tC ad (qq_ui w k j x) := by
  refine qq_c_set h ?_ (fun i hi => by simp [qq_ui, va_up, hi]) (fun i _ => rfl)
  cases ty <;> simp_all [qq_e, qq_ui, va_up]
theorem qq_c_l {sh : List qq_s} {tC : FieldType → ClassId} {ad : Nat → Nat} {w : qq_w} {k n j : Nat} {x : Int64} (h : sh[k]? = some (.inl (.long, n))) : (qq_c sh tC ad w).set k (ad k, .inl (tC .long, n, .inr (.inl (vp_updL (w.2 k) j x)))) = qq_c sh tC ad (qq_ul w k j x) := by
  refine qq_c_set h ?_ (fun i _ => rfl) (fun i hi => by simp [qq_ul, va_up, hi])
  simp [qq_e, qq_ul, va_up]
theorem qq_c_f {sh : List qq_s} {tC : FieldType → ClassId} {ad : Nat → Nat} {w : qq_w} {k ci j f : Nat} {fs : List Nat} {x : Int32} (h : sh[k]? = some (.inr (ci, fs))) (hj : fs[j]? = some f) (hf : f = 0 ∨ f = 2) : (qq_c sh tC ad w).set k (ad k, .inr (ci, (fs.mapIdx fun j f => qq_g ad (qq_fa w k j f)).set j (.int x))) = qq_c sh tC ad (qq_ui w k j x) := by
  refine qq_c_set h ?_ (fun i hi => by simp [qq_ui, va_up, hi]) (fun i _ => rfl)
  have hl : j < fs.length := (List.getElem?_eq_some_iff.mp hj).1
  show Sum.inr (ci, _) = Sum.inr (ci, _)
  congr 2
  apply List.ext_getElem?
  intro i
  by_cases hi : i = j
  · subst hi
    rw [List.getElem?_set_self (by simpa using hl), List.getElem?_mapIdx, hj]
    rcases hf with rfl | rfl <;> simp [qq_fa, qq_ui, va_up, upd, qq_g]
  · rw [List.getElem?_set_ne (Ne.symm hi), List.getElem?_mapIdx, List.getElem?_mapIdx]
    cases fs[i]? with
    | none => rfl
    | some x' =>
      match x' with
      | 0 => simp [qq_fa, qq_ui, va_up, upd, hi]
      | 1 => simp [qq_fa, qq_ui]
      | 2 => simp [qq_fa, qq_ui, va_up, upd, hi]
      | p + 3 => simp [qq_fa]
theorem qq_c_j {sh : List qq_s} {tC : FieldType → ClassId} {ad : Nat → Nat} {w : qq_w} {k ci j : Nat} {fs : List Nat} {x : Int64} (h : sh[k]? = some (.inr (ci, fs))) (hj : fs[j]? = some 1) : (qq_c sh tC ad w).set k (ad k, .inr (ci, (fs.mapIdx fun j f => qq_g ad (qq_fa w k j f)).set j (.long x))) = qq_c sh tC ad (qq_ul w k j x) := by
  refine qq_c_set h ?_ (fun i _ => rfl) (fun i hi => by simp [qq_ul, va_up, hi])
  have hl : j < fs.length := (List.getElem?_eq_some_iff.mp hj).1
  show Sum.inr (ci, _) = Sum.inr (ci, _)
  congr 2
  apply List.ext_getElem?
  intro i
  by_cases hi : i = j
  · subst hi
    rw [List.getElem?_set_self (by simpa using hl), List.getElem?_mapIdx, hj]
    simp [qq_fa, qq_ul, va_up, vp_updL, qq_g]
  · rw [List.getElem?_set_ne (Ne.symm hi), List.getElem?_mapIdx, List.getElem?_mapIdx]
    cases fs[i]? with
    | none => rfl
    | some x' =>
      match x' with
      | 0 => simp [qq_fa, qq_ul]
      | 1 => simp [qq_fa, qq_ul, va_up, vp_updL, hi]
      | 2 => simp [qq_fa, qq_ul]
      | p + 3 => simp [qq_fa]
/-! locals -/
def qq_ld (lv : qq_L) (i : Nat) : Option Value := match lv with
  | [] => none
  | q :: r => cond (Nat.beq q.1 i) (some q.2) (qq_ld r i)
def qq_two (v : Value) : Bool := match v with
  | .long _ => true
  | .double _ => true
  | _ => false
def qq_rm (i : Nat) (lv : qq_L) : qq_L := match lv with
  | [] => []
  | q :: r => cond (Nat.beq q.1 i || (Nat.beq (q.1 + 1) i && qq_two q.2)) (qq_rm i r) (q :: qq_rm i r)
def qq_rm2 (i : Nat) (lv : qq_L) : qq_L := match lv with
  | [] => []
  | q :: r => cond (Nat.beq q.1 i || (Nat.beq q.1 (i + 1) || (Nat.beq (q.1 + 1) i && qq_two q.2))) (qq_rm2 i r) (q :: qq_rm2 i r)
def qq_G (ad : Nat → Nat) (lv : qq_L) : qq_L := lv.map fun q => (q.1, qq_g ad q.2)
theorem qq_ld_mem {i : Nat} {v : Value} : ∀ {lv : qq_L}, qq_ld lv i = some v → (i, v) ∈ lv
  | [], h => by simp [qq_ld] at h
  | (j, u) :: r, h => by
    unfold qq_ld at h
    cases hb : Nat.beq j i with
    | true =>
      simp only [hb, cond_true] at h
      have hj := Nat.eq_of_beq_eq_true hb
      cases h
      rw [hj]
      exact List.mem_cons_self
    | false =>
      simp only [hb, cond_false] at h
      exact List.mem_cons_of_mem _ (qq_ld_mem h)
theorem qq_g_cat (ad : Nat → Nat) (v : Value) : (qq_g ad v).category = v.category := by cases v <;> rfl
theorem qq_two_cat (v : Value) : qq_two v = (v.category == 2) := by cases v <;> rfl
theorem qq_beq (a b : Nat) : Nat.beq a b = (a == b) := by
  rw [Bool.eq_iff_iff, Nat.beq_eq, beq_iff_eq]
theorem qq_rm_sub {i : Nat} {q : Nat × Value} : ∀ {lv : qq_L}, q ∈ qq_rm i lv → q ∈ lv.filter (fun q => !(q.1 == i) && !(q.1 + 1 == i && q.2.category == 2))
  | [], h => by simp [qq_rm] at h
  | u :: r, h => by
    unfold qq_rm at h
    cases hb : (Nat.beq u.1 i || (Nat.beq (u.1 + 1) i && qq_two u.2)) with
    | true =>
      simp only [hb, cond_true] at h
      have := qq_rm_sub h
      exact List.mem_filter.mpr ⟨List.mem_cons_of_mem _ (List.mem_filter.mp this).1, (List.mem_filter.mp this).2⟩
    | false =>
      simp only [hb, cond_false] at h
      rcases List.mem_cons.mp h with rfl | h
      · refine List.mem_filter.mpr ⟨List.mem_cons_self, ?_⟩
        have e1 : Nat.beq q.1 i = (q.1 == i) := qq_beq _ _
        have e2 : Nat.beq (q.1 + 1) i = (q.1 + 1 == i) := qq_beq _ _
        rw [e1, e2, qq_two_cat] at hb
        revert hb
        cases (q.1 == i) <;> cases (q.1 + 1 == i) <;> cases (q.2.category == 2) <;> simp
      · have := qq_rm_sub h
        exact List.mem_filter.mpr ⟨List.mem_cons_of_mem _ (List.mem_filter.mp this).1, (List.mem_filter.mp this).2⟩
theorem qq_rm2_sub {i : Nat} {q : Nat × Value} : ∀ {lv : qq_L}, q ∈ qq_rm2 i lv → q ∈ lv.filter (fun q => !(q.1 == i) && (!(q.1 == i + 1) && !(q.1 + 1 == i && q.2.category == 2)))
  | [], h => by simp [qq_rm2] at h
  | u :: r, h => by
    unfold qq_rm2 at h
    cases hb : (Nat.beq u.1 i || (Nat.beq u.1 (i + 1) || (Nat.beq (u.1 + 1) i && qq_two u.2))) with
    | true =>
      simp only [hb, cond_true] at h
      have := qq_rm2_sub h
      exact List.mem_filter.mpr ⟨List.mem_cons_of_mem _ (List.mem_filter.mp this).1, (List.mem_filter.mp this).2⟩
    | false =>
      simp only [hb, cond_false] at h
      rcases List.mem_cons.mp h with rfl | h
      · refine List.mem_filter.mpr ⟨List.mem_cons_self, ?_⟩
        have e1 : Nat.beq q.1 i = (q.1 == i) := qq_beq _ _
        have e2 : Nat.beq (q.1 + 1) i = (q.1 + 1 == i) := qq_beq _ _
        have e3 : Nat.beq q.1 (i + 1) = (q.1 == i + 1) := qq_beq _ _
        rw [e1, e2, e3, qq_two_cat] at hb
        revert hb
        cases (q.1 == i) <;> cases (q.1 == i + 1) <;> cases (q.1 + 1 == i) <;> cases (q.2.category == 2) <;> simp
      · have := qq_rm2_sub h
        exact List.mem_filter.mpr ⟨List.mem_cons_of_mem _ (List.mem_filter.mp this).1, (List.mem_filter.mp this).2⟩
theorem qq_G_f1 (ad : Nat → Nat) (i : Nat) (lv : qq_L) : (qq_G ad lv).filter (fun q => !(q.1 == i) && !(q.1 + 1 == i && q.2.category == 2)) = qq_G ad (lv.filter (fun q => !(q.1 == i) && !(q.1 + 1 == i && q.2.category == 2))) := by
  unfold qq_G
  rw [List.filter_map]
  congr 1
  apply List.filter_congr
  intro q _
  simp [qq_g_cat]
theorem qq_G_f2 (ad : Nat → Nat) (i : Nat) (lv : qq_L) : (qq_G ad lv).filter (fun q => !(q.1 == i) && (!(q.1 == i + 1) && !(q.1 + 1 == i && q.2.category == 2))) = qq_G ad (lv.filter (fun q => !(q.1 == i) && (!(q.1 == i + 1) && !(q.1 + 1 == i && q.2.category == 2)))) := by
  unfold qq_G
  rw [List.filter_map]
  congr 1
  apply List.filter_congr
  intro q _
  simp [qq_g_cat]
theorem qq_has_mono {ls : Array Slot} {nL : Nat} {l l' : qq_L} (h : lv_has ls nL l) (hs : ∀ q ∈ l', q ∈ l) : lv_has ls nL l' := ⟨h.1, h.2.1, fun q hq => h.2.2 q (hs q hq)⟩
theorem qq_has1 {ad : Nat → Nat} {ls : Array Slot} {nL i : Nat} {v : Value} {lv : qq_L} (h : lv_has ls nL ((i, qq_g ad v) :: (qq_G ad lv).filter (fun q => !(q.1 == i) && !(q.1 + 1 == i && q.2.category == 2)))) : lv_has ls nL (qq_G ad ((i, v) :: qq_rm i lv)) := by
  refine qq_has_mono h fun q hq => ?_
  rcases List.mem_cons.mp hq with rfl | hq
  · exact List.mem_cons_self
  · refine List.mem_cons_of_mem _ ?_
    rw [qq_G_f1]
    obtain ⟨u, hu, rfl⟩ := List.mem_map.mp hq
    exact List.mem_map.mpr ⟨u, qq_rm_sub hu, rfl⟩
theorem qq_has2 {ad : Nat → Nat} {ls : Array Slot} {nL i : Nat} {v : Value} {lv : qq_L} (h : lv_has ls nL ((i, qq_g ad v) :: (qq_G ad lv).filter (fun q => !(q.1 == i) && (!(q.1 == i + 1) && !(q.1 + 1 == i && q.2.category == 2))))) : lv_has ls nL (qq_G ad ((i, v) :: qq_rm2 i lv)) := by
  refine qq_has_mono h fun q hq => ?_
  rcases List.mem_cons.mp hq with rfl | hq
  · exact List.mem_cons_self
  · refine List.mem_cons_of_mem _ ?_
    rw [qq_G_f2]
    obtain ⟨u, hu, rfl⟩ := List.mem_map.mp hq
    exact List.mem_map.mpr ⟨u, qq_rm2_sub hu, rfl⟩
theorem qq_has_at {ad : Nat → Nat} {ls : Array Slot} {nL i : Nat} {v : Value} {lv : qq_L} (h : lv_has ls nL (qq_G ad lv)) (hv : qq_ld lv i = some v) : ls[i]? = some (.val (qq_g ad v)) := h.2.2 (i, qq_g ad v) (List.mem_map.mpr ⟨(i, v), qq_ld_mem hv, rfl⟩)
