/-! THE SMALL MACHINE AND THE KIT'S -/
section QQ
variable {p : Program} {l : Launch} {e : Env} {R : Room} {s : State} {m : MethodId} {args : Array Value} {below : List Frame} {meth : Method} {c : Code}
variable {D : va_G} {cl : List vw_C} {tys : List (ClassId × FieldType)} {sh : List qq_s} {ro : qq_R} {tC : FieldType → ClassId} {ad : Nat → Nat} {A : Nat → Prop} {cells slots nL : Nat} {Q : State → Prop} {cc : ByteArray}
variable {cs : List (Nat × qq_t)} {P : Option Value → qq_w → Prop} {K' : Nat → qq_L → List Value → qq_w → Prop} {pc nx tg len : Nat} {lv : qq_L} {st : List Value} {w : qq_w} {v : Value}
def qq_W (p : Program) (l : Launch) (e : Env) (R : Room) (s : State) (m : MethodId) (args : Array Value) (below : List Frame) (meth : Method) (c : Code) (D : va_G) (cl : List vw_C) (sh : List qq_s) (tC : FieldType → ClassId) (ad : Nat → Nat) (A : Nat → Prop) (cells slots nL : Nat) (Q : State → Prop) (pc : Nat) (lv : qq_L) (st : List Value) (w : qq_w) : Prop :=
  ∀ (ls : Array Slot) (H : Heap) (locs : List Loc), va_P D cl (qq_c sh tC ad w) H → va_D A (qq_c sh tC ad w) → va_S A s.heap H locs → lv_has ls nL (qq_G ad lv) → W p l e R s m args below meth c H locs cells slots Q (F0 m pc ls (st.map (qq_g ad)))
abbrev qq_H (p : Program) (l : Launch) (e : Env) (R : Room) (s : State) (m : MethodId) (args : Array Value) (below : List Frame) (meth : Method) (c : Code) (D : va_G) (cl : List vw_C) (sh : List qq_s) (tC : FieldType → ClassId) (ad : Nat → Nat) (A : Nat → Prop) (cells slots nL : Nat) (Q : State → Prop) (K' : Nat → qq_L → List Value → qq_w → Prop) : Prop := ∀ pc lv st w, K' pc lv st w → qq_W p l e R s m args below meth c D cl sh tC ad A cells slots nL Q pc lv st w
/-- what is fixed in a method's frame -/
def qq_F (p : Program) (s : State) (c : Code) (D : va_G) (cl : List vw_C) (tys : List (ClassId × FieldType)) (tC : FieldType → ClassId) (cc : ByteArray) : Prop :=
  p.tables.exec = Jvm.exec ∧ c.code = cc ∧ va_K D cl tys s ∧ (∀ ty, ty = .int ∨ ty = .long ∨ ty = .boolean → ∃ t0 : Nat, tys[t0]? = some (tC ty, ty))
theorem qq_push (X : qq_F p s c D cl tys tC cc) (hK : qq_H p l e R s m args below meth c D cl sh tC ad A cells slots nL Q K') (h : K' nx lv (v :: st) w)
    (go : ∀ {H : Heap} {locs : List Loc} {ls : Array Slot} {rest : List Value}, W p l e R s m args below meth c H locs cells slots Q (F0 m nx ls (qq_g ad v :: rest)) → W p l e R s m args below meth c H locs cells slots Q (F0 m pc ls rest)) : qq_W p l e R s m args below meth c D cl sh tC ad A cells slots nL Q pc lv st w := by
  intro ls H locs hP hD hS hl
  exact go (hK _ _ _ _ h ls H locs hP hD hS hl)
theorem qq_loadi (hK : qq_H p l e R s m args below meth c D cl sh tC ad A cells slots nL Q K') (h : qq_some (qq_ld lv tg) fun v => qq_1 [v] fun x _ => K' nx lv (.int x :: st) w)
    (go : ∀ {H : Heap} {locs : List Loc} {ls : Array Slot} {rest : List Value} {x : Int32}, ls[tg]? = some (.val (qq_g ad (.int x))) → W p l e R s m args below meth c H locs cells slots Q (F0 m nx ls (qq_g ad (.int x) :: rest)) → W p l e R s m args below meth c H locs cells slots Q (F0 m pc ls rest)) : qq_W p l e R s m args below meth c D cl sh tC ad A cells slots nL Q pc lv st w := by
  obtain ⟨u, hu, h⟩ := qq_some_inv h
  obtain ⟨x, r, hr, h⟩ := qq_1_inv h
  cases hr
  intro ls H locs hP hD hS hl
  exact go (qq_has_at hl hu) (hK _ _ _ _ h ls H locs hP hD hS hl)
theorem qq_loadl (hK : qq_H p l e R s m args below meth c D cl sh tC ad A cells slots nL Q K') (h : qq_some (qq_ld lv tg) fun v => qq_l1 [v] fun x _ => K' nx lv (.long x :: st) w)
    (go : ∀ {H : Heap} {locs : List Loc} {ls : Array Slot} {rest : List Value} {x : Int64}, ls[tg]? = some (.val (qq_g ad (.long x))) → W p l e R s m args below meth c H locs cells slots Q (F0 m nx ls (qq_g ad (.long x) :: rest)) → W p l e R s m args below meth c H locs cells slots Q (F0 m pc ls rest)) : qq_W p l e R s m args below meth c D cl sh tC ad A cells slots nL Q pc lv st w := by
  obtain ⟨u, hu, h⟩ := qq_some_inv h
  obtain ⟨x, r, hr, h⟩ := qq_l1_inv h
  cases hr
  intro ls H locs hP hD hS hl
  exact go (qq_has_at hl hu) (hK _ _ _ _ h ls H locs hP hD hS hl)
theorem qq_loada (hK : qq_H p l e R s m args below meth c D cl sh tC ad A cells slots nL Q K') (h : qq_some (qq_ld lv tg) fun v => qq_r1 [v] fun x _ => K' nx lv (.ref x :: st) w)
    (go : ∀ {H : Heap} {locs : List Loc} {ls : Array Slot} {rest : List Value} {x : Nat}, ls[tg]? = some (.val (qq_g ad (.ref x))) → W p l e R s m args below meth c H locs cells slots Q (F0 m nx ls (qq_g ad (.ref x) :: rest)) → W p l e R s m args below meth c H locs cells slots Q (F0 m pc ls rest)) : qq_W p l e R s m args below meth c D cl sh tC ad A cells slots nL Q pc lv st w := by
  obtain ⟨u, hu, h⟩ := qq_some_inv h
  obtain ⟨x, r, hr, h⟩ := qq_r1_inv h
  cases hr
  intro ls H locs hP hD hS hl
  exact go (qq_has_at hl hu) (hK _ _ _ _ h ls H locs hP hD hS hl)
theorem qq_iiop {f : Int32 → Int32 → Int32} (hK : qq_H p l e R s m args below meth c D cl sh tC ad A cells slots nL Q K') (h : qq_2 st fun x y r => K' nx lv (.int (f x y) :: r) w)
    (go : ∀ {H : Heap} {locs : List Loc} {ls : Array Slot} {rest : List Value} {x y : Int32}, W p l e R s m args below meth c H locs cells slots Q (F0 m nx ls (.int (f x y) :: rest)) → W p l e R s m args below meth c H locs cells slots Q (F0 m pc ls (.int y :: .int x :: rest))) : qq_W p l e R s m args below meth c D cl sh tC ad A cells slots nL Q pc lv st w := by
  obtain ⟨x, y, r, rfl, h⟩ := qq_2_inv h
  intro ls H locs hP hD hS hl
  exact go (hK _ _ _ _ h ls H locs hP hD hS hl)
theorem qq_iiopc {f : Int32 → Int32 → Int32} (hK : qq_H p l e R s m args below meth c D cl sh tC ad A cells slots nL Q K') (h : qq_2 st fun x y r => ¬ y = 0 ∧ K' nx lv (.int (f x y) :: r) w)
    (go : ∀ {H : Heap} {locs : List Loc} {ls : Array Slot} {rest : List Value} {x y : Int32}, ¬ y = 0 → W p l e R s m args below meth c H locs cells slots Q (F0 m nx ls (.int (f x y) :: rest)) → W p l e R s m args below meth c H locs cells slots Q (F0 m pc ls (.int y :: .int x :: rest))) : qq_W p l e R s m args below meth c D cl sh tC ad A cells slots nL Q pc lv st w := by
  obtain ⟨x, y, r, rfl, hy, h⟩ := qq_2_inv h
  intro ls H locs hP hD hS hl
  exact go hy (hK _ _ _ _ h ls H locs hP hD hS hl)
theorem qq_iop {f : Int32 → Int32} (hK : qq_H p l e R s m args below meth c D cl sh tC ad A cells slots nL Q K') (h : qq_1 st fun x r => K' nx lv (.int (f x) :: r) w)
    (go : ∀ {H : Heap} {locs : List Loc} {ls : Array Slot} {rest : List Value} {x : Int32}, W p l e R s m args below meth c H locs cells slots Q (F0 m nx ls (.int (f x) :: rest)) → W p l e R s m args below meth c H locs cells slots Q (F0 m pc ls (.int x :: rest))) : qq_W p l e R s m args below meth c D cl sh tC ad A cells slots nL Q pc lv st w := by
  obtain ⟨x, r, rfl, h⟩ := qq_1_inv h
  intro ls H locs hP hD hS hl
  exact go (hK _ _ _ _ h ls H locs hP hD hS hl)
theorem qq_llop {f : Int64 → Int64 → Value} (hK : qq_H p l e R s m args below meth c D cl sh tC ad A cells slots nL Q K') (h : qq_l2 st fun x y r => K' nx lv (f x y :: r) w)
    (go : ∀ {H : Heap} {locs : List Loc} {ls : Array Slot} {rest : List Value} {x y : Int64}, W p l e R s m args below meth c H locs cells slots Q (F0 m nx ls (qq_g ad (f x y) :: rest)) → W p l e R s m args below meth c H locs cells slots Q (F0 m pc ls (.long y :: .long x :: rest))) : qq_W p l e R s m args below meth c D cl sh tC ad A cells slots nL Q pc lv st w := by
  obtain ⟨x, y, r, rfl, h⟩ := qq_l2_inv h
  intro ls H locs hP hD hS hl
  exact go (hK _ _ _ _ h ls H locs hP hD hS hl)
theorem qq_lop {f : Int64 → Value} (hK : qq_H p l e R s m args below meth c D cl sh tC ad A cells slots nL Q K') (h : qq_l1 st fun x r => K' nx lv (f x :: r) w)
    (go : ∀ {H : Heap} {locs : List Loc} {ls : Array Slot} {rest : List Value} {x : Int64}, W p l e R s m args below meth c H locs cells slots Q (F0 m nx ls (qq_g ad (f x) :: rest)) → W p l e R s m args below meth c H locs cells slots Q (F0 m pc ls (.long x :: rest))) : qq_W p l e R s m args below meth c D cl sh tC ad A cells slots nL Q pc lv st w := by
  obtain ⟨x, r, rfl, h⟩ := qq_l1_inv h
  intro ls H locs hP hD hS hl
  exact go (hK _ _ _ _ h ls H locs hP hD hS hl)
theorem qq_liop {f : Int64 → Int32 → Int64} (hK : qq_H p l e R s m args below meth c D cl sh tC ad A cells slots nL Q K') (h : qq_li st fun x y r => K' nx lv (.long (f x y) :: r) w)
    (go : ∀ {H : Heap} {locs : List Loc} {ls : Array Slot} {rest : List Value} {x : Int64} {y : Int32}, W p l e R s m args below meth c H locs cells slots Q (F0 m nx ls (.long (f x y) :: rest)) → W p l e R s m args below meth c H locs cells slots Q (F0 m pc ls (.int y :: .long x :: rest))) : qq_W p l e R s m args below meth c D cl sh tC ad A cells slots nL Q pc lv st w := by
  obtain ⟨x, y, r, rfl, h⟩ := qq_li_inv h
  intro ls H locs hP hD hS hl
  exact go (hK _ _ _ _ h ls H locs hP hD hS hl)
theorem qq_br1 {Ct Cf : Int32 → Prop} (hK : qq_H p l e R s m args below meth c D cl sh tC ad A cells slots nL Q K') (h : qq_1 st fun x r => (Ct x → K' tg lv r w) ∧ (Cf x → K' nx lv r w))
    (go : ∀ {H : Heap} {locs : List Loc} {ls : Array Slot} {rest : List Value} {x : Int32}, (Ct x → W p l e R s m args below meth c H locs cells slots Q (F0 m tg ls rest)) → (Cf x → W p l e R s m args below meth c H locs cells slots Q (F0 m nx ls rest)) → W p l e R s m args below meth c H locs cells slots Q (F0 m pc ls (.int x :: rest))) : qq_W p l e R s m args below meth c D cl sh tC ad A cells slots nL Q pc lv st w := by
  obtain ⟨x, r, rfl, h1, h2⟩ := qq_1_inv h
  intro ls H locs hP hD hS hl
  exact go (fun z => hK _ _ _ _ (h1 z) ls H locs hP hD hS hl) (fun z => hK _ _ _ _ (h2 z) ls H locs hP hD hS hl)
theorem qq_br2 {Ct Cf : Int32 → Int32 → Prop} (hK : qq_H p l e R s m args below meth c D cl sh tC ad A cells slots nL Q K') (h : qq_2 st fun x y r => (Ct x y → K' tg lv r w) ∧ (Cf x y → K' nx lv r w))
    (go : ∀ {H : Heap} {locs : List Loc} {ls : Array Slot} {rest : List Value} {x y : Int32}, (Ct x y → W p l e R s m args below meth c H locs cells slots Q (F0 m tg ls rest)) → (Cf x y → W p l e R s m args below meth c H locs cells slots Q (F0 m nx ls rest)) → W p l e R s m args below meth c H locs cells slots Q (F0 m pc ls (.int y :: .int x :: rest))) : qq_W p l e R s m args below meth c D cl sh tC ad A cells slots nL Q pc lv st w := by
  obtain ⟨x, y, r, rfl, h1, h2⟩ := qq_2_inv h
  intro ls H locs hP hD hS hl
  exact go (fun z => hK _ _ _ _ (h1 z) ls H locs hP hD hS hl) (fun z => hK _ _ _ _ (h2 z) ls H locs hP hD hS hl)
end QQ
