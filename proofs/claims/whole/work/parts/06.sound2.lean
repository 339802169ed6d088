section QQ2
variable {p : Program} {l : Launch} {e : Env} {R : Room} {s : State} {m : MethodId} {args : Array Value} {below : List Frame} {meth : Method} {c : Code}
variable {D : va_G} {cl : List vw_C} {tys : List (ClassId × FieldType)} {sh : List qq_s} {ro : qq_R} {tC : FieldType → ClassId} {ad : Nat → Nat} {A : Nat → Prop} {cells slots nL : Nat} {Q : State → Prop} {cc : ByteArray}
variable {cs : List (Nat × qq_t)} {P : Option Value → qq_w → Prop} {K' : Nat → qq_L → List Value → qq_w → Prop} {pc nx tg len : Nat} {lv : qq_L} {st : List Value} {w : qq_w} {v : Value}
theorem qq_ist (hK : qq_H p l e R s m args below meth c D cl sh tC ad A cells slots nL Q K') (h : qq_1 st fun x r => K' nx ((tg, .int x) :: qq_rm tg lv) r w)
    (go : ∀ {H : Heap} {locs : List Loc} {ls : Array Slot} {rest : List Value} {x : Int32}, lv_has ls nL (qq_G ad lv) → (∀ ls' : Array Slot, lv_has ls' nL ((tg, .int x) :: (qq_G ad lv).filter (fun q => !(q.1 == tg) && !(q.1 + 1 == tg && q.2.category == 2))) → W p l e R s m args below meth c H locs cells slots Q (F0 m nx ls' rest)) → W p l e R s m args below meth c H locs cells slots Q (F0 m pc ls (.int x :: rest))) : qq_W p l e R s m args below meth c D cl sh tC ad A cells slots nL Q pc lv st w := by
  obtain ⟨x, r, rfl, h⟩ := qq_1_inv h
  intro ls H locs hP hD hS hl
  exact go hl fun ls' hl' => hK _ _ _ _ h ls' H locs hP hD hS (qq_has1 (v := .int x) hl')
theorem qq_ast (hK : qq_H p l e R s m args below meth c D cl sh tC ad A cells slots nL Q K') (h : qq_r1 st fun x r => K' nx ((tg, .ref x) :: qq_rm tg lv) r w)
    (go : ∀ {H : Heap} {locs : List Loc} {ls : Array Slot} {rest : List Value} {x : Nat}, lv_has ls nL (qq_G ad lv) → (∀ ls' : Array Slot, lv_has ls' nL ((tg, .ref x) :: (qq_G ad lv).filter (fun q => !(q.1 == tg) && !(q.1 + 1 == tg && q.2.category == 2))) → W p l e R s m args below meth c H locs cells slots Q (F0 m nx ls' rest)) → W p l e R s m args below meth c H locs cells slots Q (F0 m pc ls (.ref x :: rest))) : qq_W p l e R s m args below meth c D cl sh tC ad A cells slots nL Q pc lv st w := by
  obtain ⟨x, r, rfl, h⟩ := qq_r1_inv h
  intro ls H locs hP hD hS hl
  exact go hl fun ls' hl' => hK _ _ _ _ h ls' H locs hP hD hS (qq_has1 (v := .ref x) hl')
theorem qq_lst (hK : qq_H p l e R s m args below meth c D cl sh tC ad A cells slots nL Q K') (h : qq_l1 st fun x r => K' nx ((tg, .long x) :: qq_rm2 tg lv) r w)
    (go : ∀ {H : Heap} {locs : List Loc} {ls : Array Slot} {rest : List Value} {x : Int64}, lv_has ls nL (qq_G ad lv) → (∀ ls' : Array Slot, lv_has ls' nL ((tg, .long x) :: (qq_G ad lv).filter (fun q => !(q.1 == tg) && (!(q.1 == tg + 1) && !(q.1 + 1 == tg && q.2.category == 2)))) → W p l e R s m args below meth c H locs cells slots Q (F0 m nx ls' rest)) → W p l e R s m args below meth c H locs cells slots Q (F0 m pc ls (.long x :: rest))) : qq_W p l e R s m args below meth c D cl sh tC ad A cells slots nL Q pc lv st w := by
  obtain ⟨x, r, rfl, h⟩ := qq_l1_inv h
  intro ls H locs hP hD hS hl
  exact go hl fun ls' hl' => hK _ _ _ _ h ls' H locs hP hD hS (qq_has2 (v := .long x) hl')
theorem qq_inc {n : Int} (X : qq_F p s c D cl tys tC cc) (hdg : decode cc pc = .ok (.iinc tg n, 3)) (hn : tg < nL) (hK : qq_H p l e R s m args below meth c D cl sh tC ad A cells slots nL Q K') (h : qq_some (qq_ld lv tg) fun v => qq_1 [v] fun x _ => K' (pc + 3) ((tg, .int (x + Int32.ofInt n)) :: qq_rm tg lv) st w) : qq_W p l e R s m args below meth c D cl sh tC ad A cells slots nL Q pc lv st w := by
  obtain ⟨u, hu, h⟩ := qq_some_inv h
  obtain ⟨x, r, hr, h⟩ := qq_1_inv h
  cases hr
  intro ls H locs hP hD hS hl
  obtain ⟨k, hk⟩ := List.getElem?_of_mem (List.mem_map.mpr ⟨(tg, Value.int x), qq_ld_mem hu, rfl⟩ : (tg, qq_g ad (.int x)) ∈ qq_G ad lv)
  exact lv_iinc X.1 X.2.1 hdg hl hk rfl hn rfl fun ls' hl' => hK _ _ _ _ h ls' H locs hP hD hS (qq_has1 (v := .int (x + Int32.ofInt n)) hl')
theorem qq_v1op {f : Value → List Value} {ck : Value → Bool} (hK : qq_H p l e R s m args below meth c D cl sh tC ad A cells slots nL Q K') (h : qq_v1 st fun v r => qq_if (ck v) (K' nx lv (f v ++ r) w))
    (go : ∀ {H : Heap} {locs : List Loc} {ls : Array Slot} {rest : List Value} {v : Value}, ck v = true → W p l e R s m args below meth c H locs cells slots Q (F0 m nx ls ((f v).map (qq_g ad) ++ rest)) → W p l e R s m args below meth c H locs cells slots Q (F0 m pc ls (qq_g ad v :: rest))) : qq_W p l e R s m args below meth c D cl sh tC ad A cells slots nL Q pc lv st w := by
  obtain ⟨v, r, rfl, h⟩ := qq_v1_inv h
  obtain ⟨hc, h⟩ := qq_if_inv h
  intro ls H locs hP hD hS hl
  have := hK _ _ _ _ h ls H locs hP hD hS hl
  rw [List.map_append] at this
  exact go hc this
theorem qq_v2op {f : Value → Value → List Value} {ck : Value → Value → Bool} (hK : qq_H p l e R s m args below meth c D cl sh tC ad A cells slots nL Q K') (h : qq_v2 st fun v u r => qq_if (ck v u) (K' nx lv (f v u ++ r) w))
    (go : ∀ {H : Heap} {locs : List Loc} {ls : Array Slot} {rest : List Value} {v u : Value}, ck v u = true → W p l e R s m args below meth c H locs cells slots Q (F0 m nx ls ((f v u).map (qq_g ad) ++ rest)) → W p l e R s m args below meth c H locs cells slots Q (F0 m pc ls (qq_g ad v :: qq_g ad u :: rest))) : qq_W p l e R s m args below meth c D cl sh tC ad A cells slots nL Q pc lv st w := by
  obtain ⟨v, u, r, rfl, h⟩ := qq_v2_inv h
  obtain ⟨hc, h⟩ := qq_if_inv h
  intro ls H locs hP hD hS hl
  have := hK _ _ _ _ h ls H locs hP hD hS hl
  rw [List.map_append] at this
  exact go hc this
theorem qq_one {v : Value} (h : (!qq_two v) = true) : (qq_g ad v).category = 1 := by
  cases v <;> first | rfl | cases h
/-! arrays -/
def qq_rok (ro : qq_R) (sh : List qq_s) (ad : Nat → Nat) (A : Nat → Prop) (s : State) : Prop := ∀ (k n : Nat) (f : Nat → Int32), ro k = some (n, f) → va_T .int (ad k) n (fun j => .int (f j)) A s s.heap
theorem qq_ial (X : qq_F p s c D cl tys tC cc) (hro : qq_rok ro sh ad A s) (hdg : decode cc pc = .ok (.iaload, 1)) (hK : qq_H p l e R s m args below meth c D cl sh tC ad A cells slots nL Q K') (h : qq_ri st fun k i r => qq_some (qq_ai sh ro w k) fun a => vp_in i a.1 ∧ K' (pc + 1) lv (.int (a.2 i.toNatClampNeg) :: r) w) : qq_W p l e R s m args below meth c D cl sh tC ad A cells slots nL Q pc lv st w := by
  obtain ⟨k, i, r, rfl, h⟩ := qq_ri_inv h
  obtain ⟨⟨n, f⟩, ha, hin, h⟩ := qq_some_inv h
  intro ls H locs hP hD hS hl
  have kk := hK _ _ _ _ h ls H locs hP hD hS hl
  obtain ⟨t0, ht0⟩ := X.2.2.2 .int (Or.inl rfl)
  unfold qq_ai at ha
  split at ha
  · rename_i n' hk
    cases ha
    exact va_iald X.1 X.2.1 X.2.2.1 hP k t0 (qq_c_at hk) ht0 hin hdg kk
  · cases ha
  · exact va_ti X.1 X.2.1 (hro k n f ha) hS hin rfl hdg kk
theorem qq_arr_inv {ty : FieldType} {k n : Nat} (h : qq_arr sh ty k = some n) : sh[k]? = some (.inl (ty, n)) := by
  unfold qq_arr at h
  split at h
  · rename_i t n' hk
    cases hd : decide (t = ty) with
    | true =>
      rw [hd] at h
      cases h
      rw [hk, of_decide_eq_true hd]
    | false => rw [hd] at h; cases h
  · cases h
theorem qq_lal (X : qq_F p s c D cl tys tC cc) (hdg : decode cc pc = .ok (.laload, 1)) (hK : qq_H p l e R s m args below meth c D cl sh tC ad A cells slots nL Q K') (h : qq_ri st fun k i r => qq_some (qq_arr sh .long k) fun n => vp_in i n ∧ K' (pc + 1) lv (.long (w.2 k i.toNatClampNeg) :: r) w) : qq_W p l e R s m args below meth c D cl sh tC ad A cells slots nL Q pc lv st w := by
  obtain ⟨k, i, r, rfl, h⟩ := qq_ri_inv h
  obtain ⟨n, ha, hin, h⟩ := qq_some_inv h
  intro ls H locs hP hD hS hl
  obtain ⟨t0, ht0⟩ := X.2.2.2 .long (Or.inr (Or.inl rfl))
  exact va_lald X.1 X.2.1 X.2.2.1 hP k t0 (qq_c_at (qq_arr_inv ha)) ht0 hin hdg (hK _ _ _ _ h ls H locs hP hD hS hl)
theorem qq_bal (X : qq_F p s c D cl tys tC cc) (hdg : decode cc pc = .ok (.baload, 1)) (hK : qq_H p l e R s m args below meth c D cl sh tC ad A cells slots nL Q K') (h : qq_ri st fun k i r => qq_some (qq_arr sh .boolean k) fun n => vp_in i n ∧ K' (pc + 1) lv (.int (w.1 k i.toNatClampNeg) :: r) w) : qq_W p l e R s m args below meth c D cl sh tC ad A cells slots nL Q pc lv st w := by
  obtain ⟨k, i, r, rfl, h⟩ := qq_ri_inv h
  obtain ⟨n, ha, hin, h⟩ := qq_some_inv h
  intro ls H locs hP hD hS hl
  obtain ⟨t0, ht0⟩ := X.2.2.2 .boolean (Or.inr (Or.inr rfl))
  exact va_zald X.1 X.2.1 X.2.2.1 hP k t0 (qq_c_at (qq_arr_inv ha)) ht0 hin hdg (hK _ _ _ _ h ls H locs hP hD hS hl)
theorem qq_ias (X : qq_F p s c D cl tys tC cc) (hdg : decode cc pc = .ok (.iastore, 1)) (hK : qq_H p l e R s m args below meth c D cl sh tC ad A cells slots nL Q K') (h : qq_rii st fun k i x r => qq_some (qq_arr sh .int k) fun n => vp_in i n ∧ K' (pc + 1) lv r (qq_ui w k i.toNatClampNeg x)) : qq_W p l e R s m args below meth c D cl sh tC ad A cells slots nL Q pc lv st w := by
  obtain ⟨k, i, x, r, rfl, h⟩ := qq_rii_inv h
  obtain ⟨n, ha, hin, h⟩ := qq_some_inv h
  intro ls H locs hP hD hS hl
  obtain ⟨t0, ht0⟩ := X.2.2.2 .int (Or.inl rfl)
  have hk := qq_arr_inv ha
  refine va_iast X.1 X.2.1 X.2.2.1 hP hD hS k t0 (qq_c_at hk) ht0 hin hdg fun H1 locs1 hP1 hD1 hS1 => ?_
  rw [qq_c_i hk (by decide)] at hP1 hD1
  exact hK _ _ _ _ h ls H1 locs1 hP1 hD1 hS1 hl
theorem qq_las (X : qq_F p s c D cl tys tC cc) (hdg : decode cc pc = .ok (.lastore, 1)) (hK : qq_H p l e R s m args below meth c D cl sh tC ad A cells slots nL Q K') (h : qq_ril st fun k i x r => qq_some (qq_arr sh .long k) fun n => vp_in i n ∧ K' (pc + 1) lv r (qq_ul w k i.toNatClampNeg x)) : qq_W p l e R s m args below meth c D cl sh tC ad A cells slots nL Q pc lv st w := by
  obtain ⟨k, i, x, r, rfl, h⟩ := qq_ril_inv h
  obtain ⟨n, ha, hin, h⟩ := qq_some_inv h
  intro ls H locs hP hD hS hl
  obtain ⟨t0, ht0⟩ := X.2.2.2 .long (Or.inr (Or.inl rfl))
  have hk := qq_arr_inv ha
  refine va_last X.1 X.2.1 X.2.2.1 hP hD hS k t0 (qq_c_at hk) ht0 hin hdg fun H1 locs1 hP1 hD1 hS1 => ?_
  rw [qq_c_l hk] at hP1 hD1
  exact hK _ _ _ _ h ls H1 locs1 hP1 hD1 hS1 hl
theorem qq_nar {x : Int32} (h : x = 0 ∨ x = 1) : vp_nar .boolean x = x := by
  rcases h with rfl | rfl <;> decide
theorem qq_bas (X : qq_F p s c D cl tys tC cc) (hdg : decode cc pc = .ok (.bastore, 1)) (hK : qq_H p l e R s m args below meth c D cl sh tC ad A cells slots nL Q K') (h : qq_rii st fun k i x r => qq_some (qq_arr sh .boolean k) fun n => (vp_in i n ∧ (x = 0 ∨ x = 1)) ∧ K' (pc + 1) lv r (qq_ui w k i.toNatClampNeg x)) : qq_W p l e R s m args below meth c D cl sh tC ad A cells slots nL Q pc lv st w := by
  obtain ⟨k, i, x, r, rfl, h⟩ := qq_rii_inv h
  obtain ⟨n, ha, ⟨hin, hx⟩, h⟩ := qq_some_inv h
  intro ls H locs hP hD hS hl
  obtain ⟨t0, ht0⟩ := X.2.2.2 .boolean (Or.inr (Or.inr rfl))
  have hk := qq_arr_inv ha
  refine va_zast X.1 X.2.1 X.2.2.1 hP hD hS k t0 (qq_c_at hk) ht0 hin hdg fun H1 locs1 hP1 hD1 hS1 => ?_
  rw [qq_nar hx, qq_c_i hk (by decide)] at hP1 hD1
  exact hK _ _ _ _ h ls H1 locs1 hP1 hD1 hS1 hl
/-- all arrays of a shape are of the three types -/
def qq_sok (sh : List qq_s) : Prop := ∀ (k : Nat) (ty : FieldType) (n : Nat), sh[k]? = some (.inl (ty, n)) → ty = .int ∨ ty = .long ∨ ty = .boolean
theorem qq_aln (X : qq_F p s c D cl tys tC cc) (hso : qq_sok sh) (hro : qq_rok ro sh ad A s) (hdg : decode cc pc = .ok (.arraylength, 1)) (hK : qq_H p l e R s m args below meth c D cl sh tC ad A cells slots nL Q K') (h : qq_r1 st fun k r => qq_some (qq_alen sh ro k) fun n => K' (pc + 1) lv (.int (Int32.ofNat n) :: r) w) : qq_W p l e R s m args below meth c D cl sh tC ad A cells slots nL Q pc lv st w := by
  obtain ⟨k, r, rfl, h⟩ := qq_r1_inv h
  obtain ⟨n, ha, h⟩ := qq_some_inv h
  intro ls H locs hP hD hS hl
  have kk := hK _ _ _ _ h ls H locs hP hD hS hl
  unfold qq_alen at ha
  split at ha
  · rename_i ty n' hk
    cases ha
    obtain ⟨t0, ht0⟩ := X.2.2.2 ty (hso k ty n hk)
    have hc := qq_c_at (tC := tC) (ad := ad) (w := w) hk
    rcases hso k ty n hk with rfl | rfl | rfl
    · exact va_alen X.1 X.2.1 X.2.2.1 hP k t0 hc ht0 rfl hdg kk
    · exact va_alen X.1 X.2.1 X.2.2.1 hP k t0 hc ht0 rfl hdg kk
    · exact va_alen X.1 X.2.1 X.2.2.1 hP k t0 hc ht0 rfl hdg kk
  · cases ha
  · cases hr : ro k with
    | none => rw [hr] at ha; cases ha
    | some x =>
      rw [hr] at ha
      cases ha
      exact va_tlen X.1 X.2.1 (hro k x.1 x.2 hr) hS rfl hdg kk
/-! fields -/
def qq_K1 (cl : List vw_C) (Ts : List Cond) : Prop := ∀ (ci : Nat) (C : String) (T : u_T) (N : Nat), cl[ci]? = some (C, T, N) → (∀ w ∈ u_ws C T N, w ∈ Ts) ∧ (∃ ty0 : Nat → FieldType, ∀ k, k < N → parseFieldDescriptor (T k).2.2.1 = some (ty0 k)) ∧ ∀ a, a < N → ∀ b, b < N → a ≠ b → (T a).2.1 ≠ (T b).2.1
def qq_fl (own host : String) (cl : List vw_C) (Ts : List Cond) (flt : List (Nat × Nat × Nat)) : Prop := ∀ idx ci j, (idx, ci, j) ∈ flt → ∃ C T N, cl[ci]? = some (C, T, N) ∧ j < N ∧ (Cond.fieldLink own idx (T j).1 (T j).2.1 (T j).2.2.1 ∈ Ts ∨ Cond.fieldLinkNest own idx (T j).1 (T j).2.1 (T j).2.2.1 host ∈ Ts)
/-- what a field's kind says of its table -/
def qq_fty (f : Nat) : Option FieldType := match f with
  | 0 => some .int
  | 1 => some .long
  | 2 => some .boolean
  | _ => none
def qq_so2 (cl : List vw_C) (sh : List qq_s) : Prop := ∀ (k ci : Nat) (fs : List Nat), sh[k]? = some (.inr (ci, fs)) → ∀ (j f : Nat), fs[j]? = some f → ∀ ty, qq_fty f = some ty → ∀ C T N, cl[ci]? = some (C, T, N) → parseFieldDescriptor (T j).2.2.1 = some ty ∧ (T j).2.2.2 = false
theorem qq_fld_inv {k ci j f : Nat} (h : qq_fld sh k ci j = some f) : ∃ fs, sh[k]? = some (.inr (ci, fs)) ∧ fs[j]? = some f := by
  unfold qq_fld at h
  split at h
  · rename_i c' fs hk
    cases hb : Nat.beq c' ci with
    | true =>
      rw [hb] at h
      rw [Nat.eq_of_beq_eq_true hb] at hk
      exact ⟨fs, hk, h⟩
    | false => rw [hb] at h; cases h
  · cases h
theorem qq_gf {own host : String} {Ts : List Cond} {flt : List (Nat × Nat × Nat)} {idx ci : Nat} (X : qq_F p s c D cl tys tC cc) (hts : ∀ w ∈ Ts, w.before args s = true) (hown : s.vm.findClass own = some m.cls) (hk1 : qq_K1 cl Ts) (hfl : qq_fl own host cl Ts flt) (hi : (idx, ci, tg) ∈ flt) (hdg : decode cc pc = .ok (.getfield idx, 3)) (hK : qq_H p l e R s m args below meth c D cl sh tC ad A cells slots nL Q K') (h : qq_r1 st fun k r => qq_some (qq_fld sh k ci tg) fun f => K' (pc + 3) lv (qq_fa w k tg f :: r) w) : qq_W p l e R s m args below meth c D cl sh tC ad A cells slots nL Q pc lv st w := by
  obtain ⟨k, r, rfl, h⟩ := qq_r1_inv h
  obtain ⟨f, ha, h⟩ := qq_some_inv h
  obtain ⟨fs, hk, hf⟩ := qq_fld_inv ha
  obtain ⟨C, T, N, hc, hj, hl1⟩ := hfl _ _ _ hi
  obtain ⟨hin, -, -⟩ := hk1 _ _ _ _ hc
  intro ls H locs hP hD hS hl
  have kk := hK _ _ _ _ h ls H locs hP hD hS hl
  have he : (qq_c sh tC ad w)[k]? = some (ad k, .inr (ci, fs.mapIdx fun j f => qq_g ad (qq_fa w k j f))) := qq_c_at hk
  have hv : (fs.mapIdx fun j f => qq_g ad (qq_fa w k j f))[tg]? = some (qq_g ad (qq_fa w k tg f)) := by rw [List.getElem?_mapIdx, hf]; rfl
  rcases hl1 with hl1 | hl1
  · exact va_get X.1 X.2.1 hts hin hown X.2.2.1 hP k he hc tg hj (hts _ hl1) (fun _ z => z) hv hdg kk
  · exact va_getN X.1 X.2.1 hts hin hown X.2.2.1 hP k he hc tg hj (hts _ hl1) (fun _ z => z) hv hdg kk
end QQ2
