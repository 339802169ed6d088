/-! METHODS: a contract over the world of fixed shape, from a body; a call, from a contract -/
def qq_A (sh : List qq_s) (ad : Nat → Nat) (sz : Nat) : Nat → Prop := fun q => (∃ k, k < sh.length ∧ q = ad k) ∨ sz ≤ q
theorem qq_c_len (sh : List qq_s) (tC : FieldType → ClassId) (ad : Nat → Nat) (w : qq_w) : (qq_c sh tC ad w).length = sh.length := by simp [qq_c]
theorem qq_c_ad {sh : List qq_s} {tC : FieldType → ClassId} {ad : Nat → Nat} {w : qq_w} {k : Nat} {q : Nat × va_E} (h : (qq_c sh tC ad w)[k]? = some q) : k < sh.length ∧ q.1 = ad k := by
  have hl := (List.getElem?_eq_some_iff.mp h).1
  rw [qq_c_len] at hl
  simp only [qq_c, List.getElem?_mapIdx, List.getElem?_eq_getElem hl, Option.map_some] at h
  cases h
  exact ⟨hl, rfl⟩
theorem qq_c_ex {sh : List qq_s} {tC : FieldType → ClassId} {ad : Nat → Nat} {w : qq_w} {k : Nat} (h : k < sh.length) : ∃ e, (qq_c sh tC ad w)[k]? = some (ad k, e) := ⟨_, qq_c_at (List.getElem?_eq_getElem h)⟩
/-- the addresses are apart: nothing else of the world is asked -/
def qq_ap (sh : List qq_s) (ad : Nat → Nat) : Prop := ∀ i j, i < sh.length → j < sh.length → ad i = ad j → i = j
theorem qq_D_of {sh : List qq_s} {tC : FieldType → ClassId} {ad : Nat → Nat} {w : qq_w} {A : Nat → Prop} (h : qq_ap sh ad) (hA : ∀ k, k < sh.length → A (ad k)) : va_D A (qq_c sh tC ad w) := by
  refine ⟨fun i j x y hx hy hxy => ?_, fun k q hq => ?_⟩
  · obtain ⟨h1, h2⟩ := qq_c_ad hx
    obtain ⟨h3, h4⟩ := qq_c_ad hy
    exact h i j h1 h3 (by rw [← h2, ← h4, hxy])
  · obtain ⟨h1, h2⟩ := qq_c_ad hq
    rw [h2]
    exact hA k h1
theorem qq_ap_of {sh : List qq_s} {tC : FieldType → ClassId} {ad : Nat → Nat} {w : qq_w} {A : Nat → Prop} (h : va_D A (qq_c sh tC ad w)) : qq_ap sh ad := by
  intro i j hi hj hij
  obtain ⟨e1, h1⟩ := qq_c_ex (tC := tC) (ad := ad) (w := w) hi
  obtain ⟨e2, h2⟩ := qq_c_ex (tC := tC) (ad := ad) (w := w) hj
  exact h.1 i j _ _ h1 h2 hij
/-- static fields that hold arrays that nobody writes: owner, name, descriptor, place -/
def qq_zok (zs : List (String × String × String × Nat)) (ad : Nat → Nat) (A : Nat → Prop) (s : State) : Prop := ∀ z ∈ zs, va_Z z.1 z.2.1 z.2.2.1 (.ref (ad z.2.2.2)) A s s.heap
/-- words on nest mates' links: they hold in every state that comes -/
def qq_isN (w : Cond) : Bool := match w with
  | .fieldLinkNest _ _ _ _ _ _ => true
  | .methodLinkNest _ _ _ _ => true
  | _ => false
def qq_nw (Ns : List Cond) (U : State) : Prop := ∀ w ∈ Ns, qq_isN w = true ∧ va_Nw w U
theorem qq_nw_warm {Ns : List Cond} {s U : State} (hW : s.WarmedH U.vm) (h : qq_nw Ns s) : qq_nw Ns U := by
  intro w hw
  obtain ⟨h1, h2⟩ := h w hw
  refine ⟨h1, ?_⟩
  cases w <;> first | exact va_Nw.warmF hW h2 | exact va_Nw.warmM hW h2 | cases h1
theorem qq_nw_same {Ns : List Cond} {s U : State} (hv : s.vm = U.vm) (h : qq_nw Ns s) : qq_nw Ns U := by
  intro w hw
  obtain ⟨h1, h2⟩ := h w hw
  refine ⟨h1, ?_⟩
  cases w <;> first | exact va_Nw.same rfl hv h2 | cases h1
theorem qq_nw_use {Ns : List Cond} {s : State} (h : qq_nw Ns s) {args : Array Value} (w : Cond) (hw : w ∈ Ns) : w.before args s = true := by
  obtain ⟨h1, h2⟩ := h w hw
  cases w <;> first | exact va_Nw.use rfl h2 | cases h1
def qq_U (D : va_G) (cl : List vw_C) (tys : List (ClassId × FieldType)) (tC : FieldType → ClassId) (sh : List qq_s) (ro : qq_R) (zs : List (String × String × String × Nat)) (Ns : List Cond) (ad : Nat → Nat) (w : qq_w) (U : State) : Prop :=
  va_P D cl (qq_c sh tC ad w) U.heap ∧ va_K D cl tys U ∧ (∀ ty, ty = .int ∨ ty = .long ∨ ty = .boolean → ∃ t0 : Nat, tys[t0]? = some (tC ty, ty)) ∧ qq_ap sh ad ∧ qq_rok ro sh ad (qq_A sh ad U.heap.size) U ∧ qq_zok zs ad (qq_A sh ad U.heap.size) U ∧ qq_nw Ns U
def qq_Q (D : va_G) (cl : List vw_C) (tC : FieldType → ClassId) (sh : List qq_s) (ad : Nat → Nat) (sz : Nat) (P : Option Value → qq_w → Prop) : Array Value → State → Outcome → State → Prop := fun _ st oc t => (∃ v w', oc = .returned (v.map (qq_g ad)) ∧ P v w' ∧ va_P D cl (qq_c sh tC ad w') t.heap) ∧ va_F (qq_A sh ad sz) st t
/-- method y keeps the contract T -/
def qq_M (l : Launch) (Ts Ns : List Cond) (cl : List vw_C) (sh : List qq_s) (ro : qq_R) (zs : List (String × String × String × Nat)) (y : MethodName) (b : ByteArray) (nL : Nat) (ret : Option FieldType) (rm : Room) (T : qq_t) : Prop :=
  ∀ (D : va_G) (tys : List (ClassId × FieldType)) (tC : FieldType → ClassId) (ad : Nat → Nat) (sz : Nat) (As : List Value) (w : qq_w) (P : Option Value → qq_w → Prop), T As w P →
    Met l y (.code y b nL ret :: Ts) rm (va_Pc (As.map (qq_g ad)) (fun U => U.heap.size = sz ∧ qq_U D cl tys tC sh ro zs Ns ad w U)) (qq_Q D cl tC sh ad sz P) 0 0 (qq_A sh ad sz)
theorem qq_args_map (ad : Nat → Nat) : ∀ (As : List Value) (i : Nat), lv_args i (As.map (qq_g ad)) = qq_G ad (lv_args i As)
  | [], i => rfl
  | v :: r, i => by
    simp only [List.map_cons, lv_args, qq_G, qq_g_cat]
    rw [qq_args_map ad r]
    rfl
theorem qq_sl_len (ad : Nat → Nat) : ∀ (As : List Value), (lg_sl (As.map (qq_g ad))).length = qq_wd As
  | [] => rfl
  | v :: r => by
    have := qq_sl_len ad r
    cases v <;> simp [lg_sl, qq_wd, qq_two, qq_g, Value.category] at this ⊢ <;> omega
def qq_at (N : Nat) (cd : Nat → Option qq_I) (pc : Nat) : Option qq_I := cond (Nat.ble N pc) none (cd pc)
def qq_cko (own : String) (Ts : List Cond) (flt : List (Nat × Nat × Nat)) (nL : Nat) (cc : ByteArray) (pc : Nat) (o : Option qq_I) : Bool := match o with
  | none => true
  | some q => qq_ck own Ts flt nL cc pc q
def qq_cks (own : String) (Ts : List Cond) (flt : List (Nat × Nat × Nat)) (nL : Nat) (cc : ByteArray) (cd : Nat → Option qq_I) : Nat → Bool
  | 0 => true
  | n + 1 => qq_cks own Ts flt nL cc cd n && qq_cko own Ts flt nL cc n (cd n)
theorem qq_cks_ok {own : String} {Ts : List Cond} {flt : List (Nat × Nat × Nat)} {nL : Nat} {cc : ByteArray} {cd : Nat → Option qq_I} : ∀ {N : Nat}, qq_cks own Ts flt nL cc cd N = true → ∀ pc, pc < N → ∀ q, cd pc = some q → qq_ck own Ts flt nL cc pc q = true
  | 0, _, pc, h, _, _ => absurd h (Nat.not_lt_zero _)
  | n + 1, h, pc, hp, q, hq => by
    have h := Bool.and_eq_true_iff.mp h
    by_cases e : pc = n
    · subst e
      have h2 := h.2
      rw [hq] at h2
      exact h2
    · exact qq_cks_ok h.1 pc (by omega) q hq
theorem qq_at_ok {own : String} {Ts : List Cond} {flt : List (Nat × Nat × Nat)} {nL : Nat} {cc : ByteArray} {cd : Nat → Option qq_I} {N : Nat} (h : qq_cks own Ts flt nL cc cd N = true) : ∀ pc q, qq_at N cd pc = some q → qq_ck own Ts flt nL cc pc q = true := by
  intro pc q hq
  unfold qq_at at hq
  cases hb : Nat.ble N pc with
  | true => rw [hb] at hq; cases hq
  | false =>
    rw [hb] at hq
    have : pc < N := by
      rcases Nat.lt_or_ge pc N with z | z
      · exact z
      · rw [Nat.ble_eq_true_of_le z] at hb
        cases hb
    exact qq_cks_ok h pc this q hq
