section QQ3
variable {p : Program} {l : Launch} {e : Env} {R : Room} {s : State} {m : MethodId} {args : Array Value} {below : List Frame} {meth : Method} {c : Code}
variable {D : va_G} {cl : List vw_C} {tys : List (ClassId × FieldType)} {sh : List qq_s} {ro : qq_R} {tC : FieldType → ClassId} {ad : Nat → Nat} {A : Nat → Prop} {cells slots nL : Nat} {Q : State → Prop} {cc : ByteArray}
variable {cs : List (Nat × qq_t)} {P : Option Value → qq_w → Prop} {K' : Nat → qq_L → List Value → qq_w → Prop} {pc nx tg len : Nat} {lv : qq_L} {st : List Value} {w : qq_w} {v : Value}
theorem qq_pf0 {own host : String} {Ts : List Cond} {flt : List (Nat × Nat × Nat)} {idx ci k f : Nat} {fs : List Nat} {x : Value} {ty : FieldType} {w' : qq_w} (X : qq_F p s c D cl tys tC cc) (hts : ∀ w ∈ Ts, w.before args s = true) (hown : s.vm.findClass own = some m.cls) (hk1 : qq_K1 cl Ts) (hfl : qq_fl own host cl Ts flt) (hi : (idx, ci, tg) ∈ flt) (hdg : decode cc pc = .ok (.putfield idx, 3))
    (hso : qq_so2 cl sh) (hk : sh[k]? = some (.inr (ci, fs))) (hf : fs[tg]? = some f) (hty : qq_fty f = some ty) (hn : narrow ty x = x) (hfit : fits ty x = true)
    (hset : (qq_c sh tC ad w).set k (ad k, .inr (ci, (fs.mapIdx fun j f => qq_g ad (qq_fa w k j f)).set tg x)) = qq_c sh tC ad w') {H : Heap} {locs : List Loc} {ls : Array Slot} {rest : List Value}
    (hP : va_P D cl (qq_c sh tC ad w) H) (hD : va_D A (qq_c sh tC ad w)) (hS : va_S A s.heap H locs)
    (kk : ∀ (H1 : Heap) (locs1 : List Loc), va_P D cl (qq_c sh tC ad w') H1 → va_D A (qq_c sh tC ad w') → va_S A s.heap H1 locs1 → W p l e R s m args below meth c H1 locs1 cells slots Q (F0 m (pc + 3) ls rest)) : W p l e R s m args below meth c H locs cells slots Q (F0 m pc ls (x :: .ref (ad k) :: rest)) := by
  obtain ⟨C, T, N, hc, hj, hl1⟩ := hfl _ _ _ hi
  obtain ⟨hin, ⟨ty0, hty0⟩, hnm⟩ := hk1 _ _ _ _ hc
  obtain ⟨hpd, hfin⟩ := hso k ci fs hk tg f hf ty hty C T N hc
  have he : (qq_c sh tC ad w)[k]? = some (ad k, .inr (ci, fs.mapIdx fun j f => qq_g ad (qq_fa w k j f))) := qq_c_at hk
  have hlen : tg < (fs.mapIdx fun j f => qq_g ad (qq_fa w k j f)).length := by simpa using (List.getElem?_eq_some_iff.mp hf).1
  rcases hl1 with hl1 | hl1
  · refine va_put X.1 X.2.1 hts hin ty0 hty0 hnm hown X.2.2.1 hP hD hS k he hc tg hj (hts _ hl1) (fun _ z => z) hfin hpd hn hfit hlen hdg fun H1 locs1 h1 h2 h3 => ?_
    rw [hset] at h1 h2
    exact kk H1 locs1 h1 h2 h3
  · refine va_putN X.1 X.2.1 hts hin ty0 hty0 hnm hown X.2.2.1 hP hD hS k he hc tg hj (hts _ hl1) (fun _ z => z) hfin hpd hn hfit hlen hdg fun H1 locs1 h1 h2 h3 => ?_
    rw [hset] at h1 h2
    exact kk H1 locs1 h1 h2 h3
theorem qq_bfit {x : Int32} (h : x = 0 ∨ x = 1) : narrow .boolean (.int x) = .int x ∧ fits .boolean (.int x) = true := by
  rcases h with rfl | rfl <;> exact ⟨by decide, by decide⟩
theorem qq_pf {own host : String} {Ts : List Cond} {flt : List (Nat × Nat × Nat)} {idx ci : Nat} (X : qq_F p s c D cl tys tC cc) (hts : ∀ w ∈ Ts, w.before args s = true) (hown : s.vm.findClass own = some m.cls) (hk1 : qq_K1 cl Ts) (hfl : qq_fl own host cl Ts flt) (hi : (idx, ci, tg) ∈ flt) (hdg : decode cc pc = .ok (.putfield idx, 3)) (hso : qq_so2 cl sh) (hK : qq_H p l e R s m args below meth c D cl sh tC ad A cells slots nL Q K')
    (h : qq_rv st fun k v r => qq_some (qq_fld sh k ci tg) fun f => match f, v with
      | 0, .int x => K' (pc + 3) lv r (qq_ui w k tg x)
      | 1, .long x => K' (pc + 3) lv r (qq_ul w k tg x)
      | 2, .int x => (x = 0 ∨ x = 1) ∧ K' (pc + 3) lv r (qq_ui w k tg x)
      | _, _ => False) : qq_W p l e R s m args below meth c D cl sh tC ad A cells slots nL Q pc lv st w := by
  obtain ⟨k, v, r, rfl, h⟩ := qq_rv_inv h
  obtain ⟨f, ha, h⟩ := qq_some_inv h
  obtain ⟨fs, hk, hf⟩ := qq_fld_inv ha
  intro ls H locs hP hD hS hl
  split at h
  · exact qq_pf0 X hts hown hk1 hfl hi hdg hso hk hf (ty := .int) rfl rfl rfl (qq_c_f hk hf (Or.inl rfl)) hP hD hS fun H1 locs1 h1 h2 h3 => hK _ _ _ _ h ls H1 locs1 h1 h2 h3 hl
  · exact qq_pf0 X hts hown hk1 hfl hi hdg hso hk hf (ty := .long) rfl rfl rfl (qq_c_j hk hf) hP hD hS fun H1 locs1 h1 h2 h3 => hK _ _ _ _ h ls H1 locs1 h1 h2 h3 hl
  · have hb := qq_bfit h.1
    exact qq_pf0 X hts hown hk1 hfl hi hdg hso hk hf (ty := .boolean) rfl hb.1 hb.2 (qq_c_f hk hf (Or.inr rfl)) hP hD hS fun H1 locs1 h1 h2 h3 => hK _ _ _ _ h.2 ls H1 locs1 h1 h2 h3 hl
  · exact h.elim
theorem qq_swt (X : qq_F p s c D cl tys tC cc) {d lo hi : Int} {os : Array Int} (hdg : decode cc pc = .ok (.tableswitch d lo hi os, len)) (hhi : hi = lo + os.size - 1) (hpos : ∀ o ∈ os, 0 ≤ (pc : Int) + o) (hd : 0 ≤ (pc : Int) + d) (hK : qq_H p l e R s m args below meth c D cl sh tC ad A cells slots nL Q K') (h : qq_1 st fun x r => qq_tab (fun t => K' t lv r w) pc x d lo os.toList) : qq_W p l e R s m args below meth c D cl sh tC ad A cells slots nL Q pc lv st w := by
  obtain ⟨x, r, rfl, h⟩ := qq_1_inv h
  intro ls H locs hP hD hS hl
  have key : ∀ (xs : List Int) (z : Int), qq_tab (fun t => K' t lv r w) pc x d z xs → z ≤ x.toInt → (∃ o, xs[(x.toInt - z).toNat]? = some o ∧ K' (qq_j pc o) lv r w) ∨ (z + xs.length ≤ x.toInt ∧ K' (qq_j pc d) lv r w) := by
    intro xs
    induction xs with
    | nil => intro z h hz; exact Or.inr ⟨by simpa using hz, h⟩
    | cons o xs ih =>
      intro z h hz
      by_cases hx : x.toInt = z
      · exact Or.inl ⟨o, by rw [hx]; simp, h.1 hx⟩
      · rcases ih (z + 1) (h.2 hx) (by omega) with ⟨o', h1, h2⟩ | ⟨h1, h2⟩
        · refine Or.inl ⟨o', ?_, h2⟩
          have e : (x.toInt - z).toNat = (x.toInt - (z + 1)).toNat + 1 := by omega
          rw [e, List.getElem?_cons_succ]
          exact h1
        · exact Or.inr ⟨by simp only [List.length_cons]; omega, h2⟩
  have out : ∀ (xs : List Int) (z : Int), qq_tab (fun t => K' t lv r w) pc x d z xs → x.toInt < z → K' (qq_j pc d) lv r w := by
    intro xs
    induction xs with
    | nil => intro z h _; exact h
    | cons o xs ih => intro z h hz; exact ih (z + 1) (h.2 (by omega)) (by omega)
  have hj : ∀ o : Int, 0 ≤ (pc : Int) + o → (pc : Int) + o = (qq_j pc o : Nat) := fun o ho => by unfold qq_j; omega
  by_cases hlo : x.toInt < lo
  · exact lv_tableOut X.1 X.2.1 hdg (Or.inl hlo) (hj d hd) (hK _ _ _ _ (out _ _ h hlo) ls H locs hP hD hS hl)
  · rcases key _ _ h (by omega) with ⟨o, h1, h2⟩ | ⟨h1, h2⟩
    · have h1' : os[(x.toInt - lo).toNat]? = some o := by rw [← Array.getElem?_toList]; exact h1
      have hlt : (x.toInt - lo).toNat < os.size := (Array.getElem?_eq_some_iff.mp h1').1
      exact lv_tableIn X.1 X.2.1 hdg hlo (by omega) h1' (hj o (hpos o (Array.mem_of_getElem? h1'))) (hK _ _ _ _ h2 ls H locs hP hD hS hl)
    · rw [Array.length_toList] at h1
      exact lv_tableOut X.1 X.2.1 hdg (Or.inr (by omega)) (hj d hd) (hK _ _ _ _ h2 ls H locs hP hD hS hl)
/-- a call, by what its callee's contract says -/
def qq_ok (p : Program) (l : Launch) (e : Env) (R : Room) (s : State) (m : MethodId) (args : Array Value) (below : List Frame) (meth : Method) (c : Code) (D : va_G) (cl : List vw_C) (sh : List qq_s) (tC : FieldType → ClassId) (ad : Nat → Nat) (A : Nat → Prop) (cells slots nL : Nat) (Q : State → Prop) (pc : Nat) (n : Nat) (T : qq_t) : Prop :=
  ∀ lv As rest w P', As.length = n → qq_wd rest ≤ 8 → T As w P' → (∀ v w', P' v w' → qq_W p l e R s m args below meth c D cl sh tC ad A cells slots nL Q (pc + 3) lv (v.toList ++ rest) w') → qq_W p l e R s m args below meth c D cl sh tC ad A cells slots nL Q pc lv (As.reverse ++ rest) w
theorem qq_inv {k : Nat} (hok : ∀ q, cs[k]? = some q → qq_ok p l e R s m args below meth c D cl sh tC ad A cells slots nL Q pc q.1 q.2) (hK : qq_H p l e R s m args below meth c D cl sh tC ad A cells slots nL Q K')
    (h : qq_some cs[k]? fun c => qq_if (Nat.ble c.1 st.length && Nat.ble (qq_wd (st.drop c.1)) 8) (c.2 (st.take c.1).reverse w fun v w' => K' (pc + 3) lv (v.toList ++ st.drop c.1) w')) : qq_W p l e R s m args below meth c D cl sh tC ad A cells slots nL Q pc lv st w := by
  obtain ⟨q, hq, h⟩ := qq_some_inv h
  obtain ⟨hb, h⟩ := qq_if_inv h
  rw [Bool.and_eq_true] at hb
  have h1 : q.1 ≤ st.length := Nat.le_of_ble_eq_true hb.1
  have h2 : qq_wd (st.drop q.1) ≤ 8 := Nat.le_of_ble_eq_true hb.2
  have := hok q hq lv (st.take q.1).reverse (st.drop q.1) w _ (by simp [h1]) h2 h (fun v w' z => hK _ _ _ _ z)
  rw [List.reverse_reverse, List.take_append_drop] at this
  exact this
/-! the code's table against the code -/
def qq_len (i : Instr) : Nat := match i with
  | .bipush _ => 2
  | .sipush _ => 3
  | .ldc _ => 2
  | .ldc_w _ => 3
  | .ldc2_w _ => 3
  | .getstatic _ => 3
  | .iload _ => 2
  | .lload _ => 2
  | .aload _ => 2
  | .istore _ => 2
  | .lstore _ => 2
  | .astore _ => 2
  | .iinc _ _ => 3
  | .ifCond _ _ => 3
  | .if_icmp _ _ => 3
  | .goto _ => 3
  | .getfield _ => 3
  | .putfield _ => 3
  | .invokevirtual _ => 3
  | .invokestatic _ => 3
  | _ => 1
def qq_x (own : String) (Ts : List Cond) (flt : List (Nat × Nat × Nat)) (nL pc : Nat) (q : qq_I) : Bool := match q.1 with
  | .iconst n => decide (q.2.2.2 = .int (Int32.ofInt n))
  | .bipush n => decide (q.2.2.2 = .int (Int8.ofInt n).toInt32)
  | .sipush n => decide (q.2.2.2 = .int (Int16.ofInt n).toInt32)
  | .lconst n => decide (q.2.2.2 = .long (Int64.ofNat n))
  | .ldc i => match q.2.2.2 with
    | .int x => decide (Cond.constant own i x ∈ Ts)
    | _ => false
  | .ldc_w i => match q.2.2.2 with
    | .int x => decide (Cond.constant own i x ∈ Ts)
    | _ => false
  | .ldc2_w i => match q.2.2.2 with
    | .long x => decide (Cond.constantLong own i x ∈ Ts)
    | _ => false
  | .iload k => Nat.beq k q.2.2.1
  | .lload k => Nat.beq k q.2.2.1
  | .aload k => Nat.beq k q.2.2.1
  | .iload_n k => Nat.beq k.val q.2.2.1
  | .lload_n k => Nat.beq k.val q.2.2.1
  | .aload_n k => Nat.beq k.val q.2.2.1
  | .istore k => Nat.beq k q.2.2.1 && Nat.ble (k + 1) nL
  | .astore k => Nat.beq k q.2.2.1 && Nat.ble (k + 1) nL
  | .lstore k => Nat.beq k q.2.2.1 && Nat.ble (k + 2) nL
  | .istore_n k => Nat.beq k.val q.2.2.1 && Nat.ble (k.val + 1) nL
  | .astore_n k => Nat.beq k.val q.2.2.1 && Nat.ble (k.val + 1) nL
  | .lstore_n k => Nat.beq k.val q.2.2.1 && Nat.ble (k.val + 2) nL
  | .iinc k n => (Nat.beq k q.2.2.1 && Nat.ble (k + 1) nL) && decide (q.2.2.2 = .int (Int32.ofInt n))
  | .ifCond _ o => decide ((pc : Int) + o = (q.2.2.1 : Int))
  | .if_icmp _ o => decide ((pc : Int) + o = (q.2.2.1 : Int))
  | .goto o => decide ((pc : Int) + o = (q.2.2.1 : Int))
  | .getfield i => decide ((i, qq_ci q.2.2.2, q.2.2.1) ∈ flt)
  | .putfield i => decide ((i, qq_ci q.2.2.2, q.2.2.1) ∈ flt)
  | .tableswitch d lo hi os => (decide (hi = lo + os.size - 1) && os.all (fun o => decide (0 ≤ (pc : Int) + o))) && decide (0 ≤ (pc : Int) + d)
  | _ => true
def qq_sw (i : Instr) : Bool := match i with
  | .tableswitch _ _ _ _ => true
  | _ => false
def qq_ck (own : String) (Ts : List Cond) (flt : List (Nat × Nat × Nat)) (nL : Nat) (cc : ByteArray) (pc : Nat) (q : qq_I) : Bool := match decode cc pc with
  | .ok (i, len) => (decide (i = q.1) && (qq_sw i || (Nat.beq len (qq_len i) && Nat.beq q.2.1 (pc + len)))) && qq_x own Ts flt nL pc q
  | .error _ => false
theorem qq_ck_inv {own : String} {Ts : List Cond} {flt : List (Nat × Nat × Nat)} {q : qq_I} (h : qq_ck own Ts flt nL cc pc q = true) : ∃ len, decode cc pc = .ok (q.1, len) ∧ (qq_sw q.1 = true ∨ (len = qq_len q.1 ∧ q.2.1 = pc + len)) ∧ qq_x own Ts flt nL pc q = true := by
  unfold qq_ck at h
  split at h
  · rename_i i len hd
    simp only [Bool.and_eq_true, Bool.or_eq_true, decide_eq_true_eq] at h
    obtain ⟨⟨rfl, h1⟩, h2⟩ := h
    refine ⟨len, hd, ?_, h2⟩
    rcases h1 with h1 | ⟨h1, h3⟩
    · exact Or.inl h1
    · exact Or.inr ⟨Nat.eq_of_beq_eq_true h1, Nat.eq_of_beq_eq_true h3⟩
  · cases h
end QQ3
