/-- a call, wherever the frame stands -/
def qq_cf (l : Launch) (Ts Ns : List Cond) (cl : List vw_C) (sh : List qq_s) (ro : qq_R) (zs : List (String × String × String × Nat)) (own : String) (cc : ByteArray) (nL : Nat) (R : Room) (cells slots : Nat) (i : Instr) (q : Nat × qq_t) : Prop :=
  ∀ (p : Program) (e : Env) (s : State) (m : MethodId) (args : Array Value) (below : List Frame) (meth : Method) (c : Code) (D : va_G) (tys : List (ClassId × FieldType)) (tC : FieldType → ClassId) (ad : Nat → Nat) (Q : State → Prop) (pc : Nat), qq_X p s m args c Ts Ns own cc nL D cl tys tC sh ro zs ad → decode cc pc = .ok (i, 3) → qq_ok p l e R s m args below meth c D cl sh tC ad (qq_A sh ad s.heap.size) cells slots nL Q pc q.1 q.2
def qq_ivo (is : List Instr) (o : Option qq_I) : Bool := match o with
  | some (.invokevirtual i, _, k, _) => decide (is[k]? = some (.invokevirtual i))
  | some (.invokestatic i, _, k, _) => decide (is[k]? = some (.invokestatic i))
  | _ => true
def qq_ivs (is : List Instr) (cd : Nat → Option qq_I) : Nat → Bool
  | 0 => true
  | n + 1 => qq_ivs is cd n && qq_ivo is (cd n)
theorem qq_ivs_ok {is : List Instr} {cd : Nat → Option qq_I} : ∀ {N : Nat}, qq_ivs is cd N = true → ∀ pc, pc < N → qq_ivo is (cd pc) = true
  | 0, _, pc, h => absurd h (Nat.not_lt_zero _)
  | n + 1, h, pc, hp => by
    have h := Bool.and_eq_true_iff.mp h
    by_cases e : pc = n
    · subst e
      exact h.2
    · exact qq_ivs_ok h.1 pc (by omega)
theorem qq_at_in {N : Nat} {cd : Nat → Option qq_I} {pc : Nat} {q : qq_I} (h : qq_at N cd pc = some q) : pc < N ∧ cd pc = some q := by
  unfold qq_at at h
  cases hb : Nat.ble N pc with
  | true => rw [hb] at h; cases h
  | false =>
    rw [hb] at h
    refine ⟨?_, h⟩
    rcases Nat.lt_or_ge pc N with z | z
    · exact z
    · rw [Nat.ble_eq_true_of_le z] at hb
      cases hb
/-- static fields by their entries -/
def qq_gsk (Ts : List Cond) (own host : String) (zs : List (String × String × String × Nat)) (o : Option qq_I) : Bool := match o with
  | some (.getstatic i, _, k, v) => match zs[k]? with
    | some z => decide (v = .ref z.2.2.2) && (decide (Cond.fieldLink own i z.1 z.2.1 z.2.2.1 ∈ Ts) || decide (Cond.fieldLinkNest own i z.1 z.2.1 z.2.2.1 host ∈ Ts))
    | none => false
  | _ => true
def qq_gss (Ts : List Cond) (own host : String) (zs : List (String × String × String × Nat)) (cd : Nat → Option qq_I) : Nat → Bool
  | 0 => true
  | n + 1 => qq_gss Ts own host zs cd n && qq_gsk Ts own host zs (cd n)
theorem qq_gss_ok {Ts : List Cond} {own host : String} {zs : List (String × String × String × Nat)} {cd : Nat → Option qq_I} : ∀ {N : Nat}, qq_gss Ts own host zs cd N = true → ∀ pc, pc < N → qq_gsk Ts own host zs (cd pc) = true
  | 0, _, pc, h => absurd h (Nat.not_lt_zero _)
  | n + 1, h, pc, hp => by
    have h := Bool.and_eq_true_iff.mp h
    by_cases e : pc = n
    · subst e
      exact h.2
    · exact qq_gss_ok h.1 pc (by omega)
section QQ6
variable {l : Launch} {Ts Ns : List Cond} {cl : List vw_C} {sh : List qq_s} {ro : qq_R} {zs : List (String × String × String × Nat)} {host : String} {flt : List (Nat × Nat × Nat)} {cs : List (Nat × qq_t)} {is : List Instr} {cd : Nat → Option qq_I} {N : Nat} {rt : Option FieldType}
/-- the frame's steps, from its tables -/
theorem qq_sat {p : Program} {e : Env} {R : Room} {s : State} {m : MethodId} {args : Array Value} {below : List Frame} {meth : Method} {c : Code} {D : va_G} {tys : List (ClassId × FieldType)} {tC : FieldType → ClassId} {ad : Nat → Nat} {cells slots nL : Nat} {Q : State → Prop} {cc : ByteArray} {own : String} {P : Option Value → qq_w → Prop}
    (hk1 : qq_K1 cl (Ts ++ Ns)) (hfl : qq_fl own host cl (Ts ++ Ns) flt) (hso : qq_sok sh) (hso2 : qq_so2 cl sh) (hcd : qq_cks own (Ts ++ Ns) flt nL cc cd N = true) (hiv : qq_ivs is cd N = true) (hgs : qq_gss (Ts ++ Ns) own host zs cd N = true)
    (hcs : ∀ (k : Nat) (i : Instr) (q : Nat × qq_t), is[k]? = some i → cs[k]? = some q → qq_cf l Ts Ns cl sh ro zs own cc nL R cells slots i q) (X : qq_X p s m args c Ts Ns own cc nL D cl tys tC sh ro zs ad)
    (hRi : ∀ pc lv w x, decode cc pc = .ok (.ireturn, 1) → (rt = some .int ∨ (rt = some .boolean ∧ (x = 0 ∨ x = 1))) → P (some (.int x)) w → qq_W p l e R s m args below meth c D cl sh tC ad (qq_A sh ad s.heap.size) cells slots nL Q pc lv [.int x] w)
    (hRl : ∀ pc lv w x, decode cc pc = .ok (.lreturn, 1) → rt = some .long → P (some (.long x)) w → qq_W p l e R s m args below meth c D cl sh tC ad (qq_A sh ad s.heap.size) cells slots nL Q pc lv [.long x] w)
    (hRv : ∀ pc lv w, decode cc pc = .ok (.return_, 1) → rt = none → P none w → qq_W p l e R s m args below meth c D cl sh tC ad (qq_A sh ad s.heap.size) cells slots nL Q pc lv [] w) :
    qq_Sat sh ro cs (qq_at N cd) rt P (qq_W p l e R s m args below meth c D cl sh tC ad (qq_A sh ad s.heap.size) cells slots nL Q) := by
  have hX := X
  obtain ⟨⟨hx, hb, hml, hown, hts0⟩, hK, htC, hap, hro, hzo, hN⟩ := X
  have hts : ∀ w ∈ Ts ++ Ns, w.before args s = true := fun w hw => (List.mem_append.mp hw).elim (hts0 w) (qq_nw_use hN w)
  refine qq_step (Ts := Ts ++ Ns) (own := own) (host := host) (flt := flt) (tys := tys) (cc := cc) ⟨hx, hb, hK, htC⟩ hts hown hk1 hfl hso hso2 hro (qq_at_ok hcd) ?_ ?_ ?_ hRi hRl hRv
  · intro pc i nx tg v hq H locs ls rest hS kk
    obtain ⟨hp, hq'⟩ := qq_at_in hq
    have h := qq_gss_ok hgs pc hp
    rw [hq'] at h
    obtain ⟨len, hdg, hlen, -⟩ := qq_ck_inv (qq_at_ok hcd pc _ hq)
    have hlen : len = 3 := (hlen.resolve_left (by simp [qq_sw])).1
    subst hlen
    unfold qq_gsk at h
    dsimp only at h
    split at h
    · rename_i z hz
      have h := Bool.and_eq_true_iff.mp h
      have hv := of_decide_eq_true h.1
      subst hv
      have hzz := hzo z (List.mem_of_getElem? hz)
      rcases Bool.or_eq_true_iff.mp h.2 with h2 | h2
      · exact va_gets hx hb hzz hS hown (hts _ (of_decide_eq_true h2)) (fun _ z => z) hdg kk
      · exact va_getsN hx hb hzz hS hown (hts _ (of_decide_eq_true h2)) (fun _ z => z) hdg kk
    · cases h
  · intro pc i nx k v hq q hk
    obtain ⟨hp, hq'⟩ := qq_at_in hq
    have h := qq_ivs_ok hiv pc hp
    rw [hq'] at h
    obtain ⟨len, hdg, hlen, -⟩ := qq_ck_inv (qq_at_ok hcd pc _ hq)
    have hlen : len = 3 := (hlen.resolve_left (by simp [qq_sw])).1
    subst hlen
    exact hcs k _ q (of_decide_eq_true h) hk p e s m args below meth c D tys tC ad Q pc hX hdg
  · intro pc i nx k v hq q hk
    obtain ⟨hp, hq'⟩ := qq_at_in hq
    have h := qq_ivs_ok hiv pc hp
    rw [hq'] at h
    obtain ⟨len, hdg, hlen, -⟩ := qq_ck_inv (qq_at_ok hcd pc _ hq)
    have hlen : len = 3 := (hlen.resolve_left (by simp [qq_sw])).1
    subst hlen
    exact hcs k _ q (of_decide_eq_true h) hk p e s m args below meth c D tys tC ad Q pc hX hdg
/-- a method's contract, from its body in the small machine -/
theorem qq_mk {y : MethodName} {b : ByteArray} {nL : Nat} {ret : Option FieldType} {rm : Room} {T : qq_t} (hy : plainName y.cls = true)
    (hk1 : qq_K1 cl (Ts ++ Ns)) (hfl : qq_fl y.cls host cl (Ts ++ Ns) flt) (hso : qq_sok sh) (hso2 : qq_so2 cl sh) (hcd : qq_cks y.cls (Ts ++ Ns) flt nL b cd N = true) (hiv : qq_ivs is cd N = true) (hgs : qq_gss (Ts ++ Ns) y.cls host zs cd N = true)
    (hcs : ∀ (k : Nat) (i : Instr) (q : Nat × qq_t), is[k]? = some i → cs[k]? = some q → qq_cf l Ts Ns cl sh ro zs y.cls b nL rm 0 0 i q)
    (hargs : ∀ As w P, T As w P → qq_wd As ≤ nL)
    (body : ∀ As w P K, qq_Sat sh ro cs (qq_at N cd) ret P K → T As w P → K 0 (lv_args 0 As) [] w) : qq_M l Ts Ns cl sh ro zs y b nL ret rm T := by
  intro D tys tC ad sz As w P hT
  refine Met.ofW (cc := b) (maxL := nL) (ret := ret) hy rfl ?_
  intro p e s m args below meth c s₁ B hml hv
  obtain ⟨rfl, hsz, hP, hK, htC, hap, hro, hzo, hN⟩ := hv
  have hx := B.exec
  have hb := B.bytes
  have hr := B.returns
  have hts := atoms_spec (ws := .code y b nL ret :: Ts) B.pre
  have hown : s.vm.findClass y.cls = some m.cls := findClass_of_methodNamed B.named
  have hlocks := B.notSynchronized
  subst hsz
  have X : qq_X p s m (As.map (qq_g ad)).toArray c Ts Ns y.cls b nL D cl tys tC sh ro zs ad := ⟨⟨hx, hb, hml, hown, fun w hw => hts w (List.mem_cons_of_mem _ hw)⟩, hK, htC, hap, hro, hzo, hN⟩
  have hS : va_S (qq_A sh ad s.heap.size) s.heap s.heap [] := va_S.rf
  have hD : va_D (qq_A sh ad s.heap.size) (qq_c sh tC ad w) := qq_D_of hap fun k hk => Or.inl ⟨k, hk, rfl⟩
  have hl := lv_entry (As.map (qq_g ad)) (n := nL) (by rw [qq_sl_len]; exact hargs As w P hT)
  rw [lg_entry_eq]
  generalize (lg_sl (As.map (qq_g ad)) ++ List.replicate (nL - (lg_sl (As.map (qq_g ad))).length) Slot.unset).toArray = ls at hl ⊢
  rw [qq_args_map] at hl
  have S := qq_sat (l := l) (p := p) (e := e) (R := rm) (s := s) (m := m) (args := (As.map (qq_g ad)).toArray) (below := below) (meth := meth) (c := c) (Q := MQ below (qq_Q D cl tC sh ad s.heap.size P) (As.map (qq_g ad)).toArray s 0 0 (qq_A sh ad s.heap.size)) (P := P) (rt := ret) hk1 hfl hso hso2 hcd hiv hgs hcs X
    (fun pc lv w x hdg ht hp ls H locs hP hD hS hl => by
      have hq : ∀ t : State, t.heap = H → s.WarmedH t.vm → qq_Q D cl tC sh ad s.heap.size P (As.map (qq_g ad)).toArray s (.returned (some (.int x))) t := fun t ht hW => ⟨⟨some (.int x), w, rfl, hp, by rw [ht]; exact hP⟩, hS.F ht⟩
      rcases ht with rfl | ⟨rfl, ht⟩
      · exact W.iret (v := x) hx hb hr hq hS.2.2 hdg
      · exact W.zret (v := x) hx hb hr (qq_bfit ht).1 hq hS.2.2 hdg)
    (fun pc lv w x hdg ht hp ls H locs hP hD hS hl => by
      have hq : ∀ t : State, t.heap = H → s.WarmedH t.vm → qq_Q D cl tC sh ad s.heap.size P (As.map (qq_g ad)).toArray s (.returned (some (.long x))) t := fun t ht hW => ⟨⟨some (.long x), w, rfl, hp, by rw [ht]; exact hP⟩, hS.F ht⟩
      subst ht
      exact W.lret (v := x) hx hb hr hq hS.2.2 hdg)
    (fun pc lv w hdg ht hp ls H locs hP hD hS hl => by
      have hq : ∀ t : State, t.heap = H → s.WarmedH t.vm → qq_Q D cl tC sh ad s.heap.size P (As.map (qq_g ad)).toArray s (.returned none) t := fun t ht hW => ⟨⟨none, w, rfl, hp, by rw [ht]; exact hP⟩, hS.F ht⟩
      subst ht
      exact W.vret hx hb hr hq hS.2.2 hdg)
  exact body As w _ _ S hT ls s.heap [] hP hD hS hl
end QQ6
