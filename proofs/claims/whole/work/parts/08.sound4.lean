section QQ4
variable {p : Program} {l : Launch} {e : Env} {R : Room} {s : State} {m : MethodId} {args : Array Value} {below : List Frame} {meth : Method} {c : Code}
variable {D : va_G} {cl : List vw_C} {tys : List (ClassId × FieldType)} {sh : List qq_s} {ro : qq_R} {tC : FieldType → ClassId} {ad : Nat → Nat} {A : Nat → Prop} {cells slots nL : Nat} {Q : State → Prop} {cc : ByteArray}
variable {cs : List (Nat × qq_t)} {cd : Nat → Option qq_I} {rt : Option FieldType} {P : Option Value → qq_w → Prop} {own host : String} {Ts : List Cond} {flt : List (Nat × Nat × Nat)}
set_option maxHeartbeats 4000000 in
/-- a step of the small machine is a step of the kit's -/
theorem qq_step (X : qq_F p s c D cl tys tC cc) (hts : ∀ w ∈ Ts, w.before args s = true) (hown : s.vm.findClass own = some m.cls) (hk1 : qq_K1 cl Ts) (hfl : qq_fl own host cl Ts flt) (hso : qq_sok sh) (hso2 : qq_so2 cl sh) (hro : qq_rok ro sh ad A s)
    (hcd : ∀ pc q, cd pc = some q → qq_ck own Ts flt nL cc pc q = true)
    (hG : ∀ pc i nx tg v, cd pc = some (.getstatic i, nx, tg, v) → ∀ (H : Heap) (locs : List Loc) (ls : Array Slot) (rest : List Value), va_S A s.heap H locs → W p l e R s m args below meth c H locs cells slots Q (F0 m (pc + 3) ls (qq_g ad v :: rest)) → W p l e R s m args below meth c H locs cells slots Q (F0 m pc ls rest))
    (hV : ∀ pc i nx k v, cd pc = some (.invokevirtual i, nx, k, v) → ∀ q, cs[k]? = some q → qq_ok p l e R s m args below meth c D cl sh tC ad A cells slots nL Q pc q.1 q.2)
    (hV2 : ∀ pc i nx k v, cd pc = some (.invokestatic i, nx, k, v) → ∀ q, cs[k]? = some q → qq_ok p l e R s m args below meth c D cl sh tC ad A cells slots nL Q pc q.1 q.2)
    (hRi : ∀ pc lv w x, decode cc pc = .ok (.ireturn, 1) → (rt = some .int ∨ (rt = some .boolean ∧ (x = 0 ∨ x = 1))) → P (some (.int x)) w → qq_W p l e R s m args below meth c D cl sh tC ad A cells slots nL Q pc lv [.int x] w)
    (hRl : ∀ pc lv w x, decode cc pc = .ok (.lreturn, 1) → rt = some .long → P (some (.long x)) w → qq_W p l e R s m args below meth c D cl sh tC ad A cells slots nL Q pc lv [.long x] w)
    (hRv : ∀ pc lv w, decode cc pc = .ok (.return_, 1) → rt = none → P none w → qq_W p l e R s m args below meth c D cl sh tC ad A cells slots nL Q pc lv [] w) :
    qq_Sat sh ro cs cd rt P (qq_W p l e R s m args below meth c D cl sh tC ad A cells slots nL Q) := by
  refine ⟨?_, fun pc lv0 lv st w hle h ls H locs hP hD hS hl => h ls H locs hP hD hS (qq_has_mono hl fun q hq => ?_)⟩
  rotate_left
  · obtain ⟨u, hu, rfl⟩ := List.mem_map.mp hq
    exact List.mem_map.mpr ⟨u, qq_le_mem hle u hu, rfl⟩
  intro K' hK pc lv st w q hq h
  obtain ⟨len, hdg, hlen, hx⟩ := qq_ck_inv (hcd pc q hq)
  obtain ⟨i, nx, tg, v⟩ := q
  have hx1 := X.1
  have hb := X.2.1
  have hdg : decode cc pc = .ok (i, len) := hdg
  have hlen : qq_sw i = true ∨ (len = qq_len i ∧ nx = pc + len) := hlen
  cases i with
  | iconst n =>
    obtain ⟨rfl, rfl⟩ := hlen.resolve_left (by simp [qq_sw])
    have hx := of_decide_eq_true hx
    dsimp only at hx; subst hx
    exact qq_push X hK h fun k => lv_iconst hx1 hb hdg rfl k
  | bipush n =>
    obtain ⟨rfl, rfl⟩ := hlen.resolve_left (by simp [qq_sw])
    have hx := of_decide_eq_true hx
    dsimp only at hx; subst hx
    exact qq_push X hK h fun k => lv_bipush hx1 hb hdg rfl k
  | sipush n =>
    obtain ⟨rfl, rfl⟩ := hlen.resolve_left (by simp [qq_sw])
    have hx := of_decide_eq_true hx
    dsimp only at hx; subst hx
    exact qq_push X hK h fun k => lv_sipush hx1 hb hdg rfl k
  | lconst n =>
    obtain ⟨rfl, rfl⟩ := hlen.resolve_left (by simp [qq_sw])
    have hx := of_decide_eq_true hx
    dsimp only at hx; subst hx
    exact qq_push X hK h fun k => lv_lconst hx1 hb hdg rfl k
  | ldc n =>
    obtain ⟨rfl, rfl⟩ := hlen.resolve_left (by simp [qq_sw])
    cases v with
    | int x => exact qq_push X hK h fun k => lv_ldc hx1 hb hown (hts _ (of_decide_eq_true hx)) hdg k
    | _ => cases hx
  | ldc_w n =>
    obtain ⟨rfl, rfl⟩ := hlen.resolve_left (by simp [qq_sw])
    cases v with
    | int x => exact qq_push X hK h fun k => lv_ldcw hx1 hb hown (hts _ (of_decide_eq_true hx)) hdg k
    | _ => cases hx
  | ldc2_w n =>
    obtain ⟨rfl, rfl⟩ := hlen.resolve_left (by simp [qq_sw])
    cases v with
    | long x => exact qq_push X hK h fun k => lv_ldc2 hx1 hb hown (hts _ (of_decide_eq_true hx)) hdg k
    | _ => cases hx
  | getstatic n =>
    obtain ⟨rfl, rfl⟩ := hlen.resolve_left (by simp [qq_sw])
    intro ls H locs hP hD hS hl
    exact hG pc n _ tg v hq H locs ls _ hS (hK _ _ _ _ h ls H locs hP hD hS hl)
  | iload n =>
    obtain ⟨rfl, rfl⟩ := hlen.resolve_left (by simp [qq_sw])
    have hx := Nat.eq_of_beq_eq_true hx
    dsimp only at hx; subst hx
    exact qq_loadi hK h fun hl k => lv_iload hx1 hb hdg hl k
  | iload_n n =>
    obtain ⟨rfl, rfl⟩ := hlen.resolve_left (by simp [qq_sw])
    have hx := Nat.eq_of_beq_eq_true hx
    exact qq_loadi hK h fun hl k => lv_iload_n hx1 hb hdg hx hl k
  | lload n =>
    obtain ⟨rfl, rfl⟩ := hlen.resolve_left (by simp [qq_sw])
    have hx := Nat.eq_of_beq_eq_true hx
    dsimp only at hx; subst hx
    exact qq_loadl hK h fun hl k => lv_lload hx1 hb hdg hl k
  | lload_n n =>
    obtain ⟨rfl, rfl⟩ := hlen.resolve_left (by simp [qq_sw])
    have hx := Nat.eq_of_beq_eq_true hx
    exact qq_loadl hK h fun hl k => lv_lload_n hx1 hb hdg hx hl k
  | aload n =>
    obtain ⟨rfl, rfl⟩ := hlen.resolve_left (by simp [qq_sw])
    have hx := Nat.eq_of_beq_eq_true hx
    dsimp only at hx; subst hx
    exact qq_loada hK h fun hl k => lv_aload hx1 hb hdg hl k
  | aload_n n =>
    obtain ⟨rfl, rfl⟩ := hlen.resolve_left (by simp [qq_sw])
    have hx := Nat.eq_of_beq_eq_true hx
    exact qq_loada hK h fun hl k => lv_aload_n hx1 hb hdg hx hl k
  | istore n =>
    obtain ⟨rfl, rfl⟩ := hlen.resolve_left (by simp [qq_sw])
    have hx := Bool.and_eq_true_iff.mp hx
    have h1 := Nat.eq_of_beq_eq_true hx.1
    have h2 := Nat.le_of_ble_eq_true hx.2
    dsimp only at h1; subst h1
    exact qq_ist hK h fun hl k => lv_istore hx1 hb hdg hl h2 rfl k
  | istore_n n =>
    obtain ⟨rfl, rfl⟩ := hlen.resolve_left (by simp [qq_sw])
    have hx := Bool.and_eq_true_iff.mp hx
    have h1 := Nat.eq_of_beq_eq_true hx.1
    have h2 := Nat.le_of_ble_eq_true hx.2
    dsimp only at h1; subst h1
    exact qq_ist hK h fun hl k => lv_istore_n hx1 hb hdg rfl hl h2 rfl k
  | astore n =>
    obtain ⟨rfl, rfl⟩ := hlen.resolve_left (by simp [qq_sw])
    have hx := Bool.and_eq_true_iff.mp hx
    have h1 := Nat.eq_of_beq_eq_true hx.1
    have h2 := Nat.le_of_ble_eq_true hx.2
    dsimp only at h1; subst h1
    exact qq_ast hK h fun hl k => lv_astore hx1 hb hdg hl h2 rfl k
  | astore_n n =>
    obtain ⟨rfl, rfl⟩ := hlen.resolve_left (by simp [qq_sw])
    have hx := Bool.and_eq_true_iff.mp hx
    have h1 := Nat.eq_of_beq_eq_true hx.1
    have h2 := Nat.le_of_ble_eq_true hx.2
    dsimp only at h1; subst h1
    exact qq_ast hK h fun hl k => lv_astore_n hx1 hb hdg rfl hl h2 rfl k
  | lstore n =>
    obtain ⟨rfl, rfl⟩ := hlen.resolve_left (by simp [qq_sw])
    have hx := Bool.and_eq_true_iff.mp hx
    have h1 := Nat.eq_of_beq_eq_true hx.1
    have h2 := Nat.le_of_ble_eq_true hx.2
    dsimp only at h1; subst h1
    exact qq_lst hK h fun hl k => lv_lstore hx1 hb hdg hl h2 rfl k
  | lstore_n n =>
    obtain ⟨rfl, rfl⟩ := hlen.resolve_left (by simp [qq_sw])
    have hx := Bool.and_eq_true_iff.mp hx
    have h1 := Nat.eq_of_beq_eq_true hx.1
    have h2 := Nat.le_of_ble_eq_true hx.2
    dsimp only at h1; subst h1
    exact qq_lst hK h fun hl k => lv_lstore_n hx1 hb hdg rfl hl h2 rfl k
  | iinc n z =>
    obtain ⟨rfl, rfl⟩ := hlen.resolve_left (by simp [qq_sw])
    have hx := Bool.and_eq_true_iff.mp hx
    have hy := Bool.and_eq_true_iff.mp hx.1
    have h1 := Nat.eq_of_beq_eq_true hy.1
    have h2 := Nat.le_of_ble_eq_true hy.2
    have h3 := of_decide_eq_true hx.2
    dsimp only at h1 h3; subst h1; subst h3
    exact qq_inc X hdg h2 hK h
  | iadd =>
    obtain ⟨rfl, rfl⟩ := hlen.resolve_left (by simp [qq_sw])
    exact qq_iiop hK h fun k => lv_iadd hx1 hb hdg k
  | isub =>
    obtain ⟨rfl, rfl⟩ := hlen.resolve_left (by simp [qq_sw])
    exact qq_iiop hK h fun k => lv_isub hx1 hb hdg k
  | imul =>
    obtain ⟨rfl, rfl⟩ := hlen.resolve_left (by simp [qq_sw])
    exact qq_iiop hK h fun k => lv_imul hx1 hb hdg k
  | iand =>
    obtain ⟨rfl, rfl⟩ := hlen.resolve_left (by simp [qq_sw])
    exact qq_iiop hK h fun k => lv_iand hx1 hb hdg k
  | ior =>
    obtain ⟨rfl, rfl⟩ := hlen.resolve_left (by simp [qq_sw])
    exact qq_iiop hK h fun k => lv_ior hx1 hb hdg k
  | ixor =>
    obtain ⟨rfl, rfl⟩ := hlen.resolve_left (by simp [qq_sw])
    exact qq_iiop hK h fun k => lv_ixor hx1 hb hdg k
  | ishl =>
    obtain ⟨rfl, rfl⟩ := hlen.resolve_left (by simp [qq_sw])
    exact qq_iiop hK h fun k => lv_ishl hx1 hb hdg k
  | ishr =>
    obtain ⟨rfl, rfl⟩ := hlen.resolve_left (by simp [qq_sw])
    exact qq_iiop hK h fun k => lv_ishr hx1 hb hdg k
  | iushr =>
    obtain ⟨rfl, rfl⟩ := hlen.resolve_left (by simp [qq_sw])
    exact qq_iiop hK h fun k => lv_iushr hx1 hb hdg rfl k
  | idiv =>
    obtain ⟨rfl, rfl⟩ := hlen.resolve_left (by simp [qq_sw])
    exact qq_iiopc hK h fun hy k => lv_idiv hx1 hb hdg hy k
  | irem =>
    obtain ⟨rfl, rfl⟩ := hlen.resolve_left (by simp [qq_sw])
    exact qq_iiopc hK h fun hy k => lv_irem hx1 hb hdg hy k
  | ineg =>
    obtain ⟨rfl, rfl⟩ := hlen.resolve_left (by simp [qq_sw])
    exact qq_iop hK h fun k => lv_ineg hx1 hb hdg k
  | ladd =>
    obtain ⟨rfl, rfl⟩ := hlen.resolve_left (by simp [qq_sw])
    exact qq_llop (f := fun x y => .long (x + y)) hK h fun k => lv_ladd hx1 hb hdg k
  | lsub =>
    obtain ⟨rfl, rfl⟩ := hlen.resolve_left (by simp [qq_sw])
    exact qq_llop (f := fun x y => .long (x - y)) hK h fun k => lv_lsub hx1 hb hdg k
  | lmul =>
    obtain ⟨rfl, rfl⟩ := hlen.resolve_left (by simp [qq_sw])
    exact qq_llop (f := fun x y => .long (x * y)) hK h fun k => lv_lmul hx1 hb hdg k
  | land =>
    obtain ⟨rfl, rfl⟩ := hlen.resolve_left (by simp [qq_sw])
    exact qq_llop (f := fun x y => .long (x &&& y)) hK h fun k => lv_land hx1 hb hdg k
  | lor =>
    obtain ⟨rfl, rfl⟩ := hlen.resolve_left (by simp [qq_sw])
    exact qq_llop (f := fun x y => .long (x ||| y)) hK h fun k => lv_lor hx1 hb hdg k
  | lcmp =>
    obtain ⟨rfl, rfl⟩ := hlen.resolve_left (by simp [qq_sw])
    exact qq_llop (f := fun x y => .int (lg_cmp x y)) hK h fun k => W.lcmp hx1 hb hdg k
  | lneg =>
    obtain ⟨rfl, rfl⟩ := hlen.resolve_left (by simp [qq_sw])
    exact qq_lop (f := fun x => .long (-x)) hK h fun k => lv_lneg hx1 hb hdg k
  | l2i =>
    obtain ⟨rfl, rfl⟩ := hlen.resolve_left (by simp [qq_sw])
    exact qq_lop (f := fun x => .int x.toInt32) hK h fun k => lv_l2i hx1 hb hdg rfl k
  | lshl =>
    obtain ⟨rfl, rfl⟩ := hlen.resolve_left (by simp [qq_sw])
    exact qq_liop hK h fun k => lv_lshl hx1 hb hdg rfl k
  | lshr =>
    obtain ⟨rfl, rfl⟩ := hlen.resolve_left (by simp [qq_sw])
    exact qq_liop hK h fun k => lv_lshr hx1 hb hdg rfl k
  | lushr =>
    obtain ⟨rfl, rfl⟩ := hlen.resolve_left (by simp [qq_sw])
    exact qq_liop hK h fun k => lv_lushr hx1 hb hdg rfl k
  | i2l =>
    obtain ⟨rfl, rfl⟩ := hlen.resolve_left (by simp [qq_sw])
    obtain ⟨x, r, rfl, h⟩ := qq_1_inv h
    intro ls H locs hP hD hS hl
    exact lv_i2l hx1 hb hdg rfl (hK _ _ _ _ h ls H locs hP hD hS hl)
  | dup =>
    obtain ⟨rfl, rfl⟩ := hlen.resolve_left (by simp [qq_sw])
    exact qq_v1op (f := fun v => [v, v]) hK h fun hc k => lv_dup hx1 hb hdg (qq_one hc) k
  | pop =>
    obtain ⟨rfl, rfl⟩ := hlen.resolve_left (by simp [qq_sw])
    exact qq_v1op (f := fun v => []) hK h fun hc k => lv_pop hx1 hb hdg (qq_one hc) k
  | dup_x1 =>
    obtain ⟨rfl, rfl⟩ := hlen.resolve_left (by simp [qq_sw])
    exact qq_v2op (f := fun v u => [v, u, v]) hK h fun hc k => lv_dup_x1 hx1 hb hdg (qq_one (Bool.and_eq_true_iff.mp hc).1) (qq_one (Bool.and_eq_true_iff.mp hc).2) k
  | dup2 =>
    obtain ⟨rfl, rfl⟩ := hlen.resolve_left (by simp [qq_sw])
    exact qq_v2op (f := fun v u => [v, u, v, u]) hK h fun hc k => lv_dup2_11 hx1 hb hdg (qq_one (Bool.and_eq_true_iff.mp hc).1) (qq_one (Bool.and_eq_true_iff.mp hc).2) k
  | dup_x2 =>
    obtain ⟨rfl, rfl⟩ := hlen.resolve_left (by simp [qq_sw])
    obtain ⟨v1, v2, v3, r, rfl, h⟩ := qq_v3_inv h
    obtain ⟨hc, h⟩ := qq_if_inv h
    have hc := Bool.and_eq_true_iff.mp hc
    have hc2 := Bool.and_eq_true_iff.mp hc.2
    intro ls H locs hP hD hS hl
    exact lv_dup_x2 hx1 hb hdg (qq_one hc.1) (qq_one hc2.1) (qq_one hc2.2) (hK _ _ _ _ h ls H locs hP hD hS hl)
  | ifCond cnd o =>
    obtain ⟨rfl, rfl⟩ := hlen.resolve_left (by simp [qq_sw])
    have hx := of_decide_eq_true hx
    cases cnd with
    | eq => exact qq_br1 (Ct := fun x => x = 0) (Cf := fun x => ¬ x = 0) hK h fun k1 k2 => lv_if_eq hx1 hb hdg hx k1 k2
    | ne => exact qq_br1 (Ct := fun x => ¬ x = 0) (Cf := fun x => x = 0) hK h fun k1 k2 => lv_if_ne hx1 hb hdg hx k1 k2
    | lt => exact qq_br1 (Ct := fun x => x < 0) (Cf := fun x => ¬ x < 0) hK h fun k1 k2 => lv_if_lt hx1 hb hdg hx k1 k2
    | ge => exact qq_br1 (Ct := fun x => 0 ≤ x) (Cf := fun x => ¬ 0 ≤ x) hK h fun k1 k2 => lv_if_ge hx1 hb hdg hx k1 k2
    | gt => exact qq_br1 (Ct := fun x => 0 < x) (Cf := fun x => ¬ 0 < x) hK h fun k1 k2 => lv_if_gt hx1 hb hdg hx k1 k2
    | le => exact qq_br1 (Ct := fun x => x ≤ 0) (Cf := fun x => ¬ x ≤ 0) hK h fun k1 k2 => lv_if_le hx1 hb hdg hx k1 k2
  | if_icmp cnd o =>
    obtain ⟨rfl, rfl⟩ := hlen.resolve_left (by simp [qq_sw])
    have hx := of_decide_eq_true hx
    cases cnd with
    | eq => exact qq_br2 (Ct := fun x y => x = y) (Cf := fun x y => ¬ x = y) hK h fun k1 k2 => lv_icmp_eq hx1 hb hdg hx k1 k2
    | ne => exact qq_br2 (Ct := fun x y => ¬ x = y) (Cf := fun x y => x = y) hK h fun k1 k2 => lv_icmp_ne hx1 hb hdg hx k1 k2
    | lt => exact qq_br2 (Ct := fun x y => x < y) (Cf := fun x y => ¬ x < y) hK h fun k1 k2 => lv_icmp_lt hx1 hb hdg hx k1 k2
    | ge => exact qq_br2 (Ct := fun x y => y ≤ x) (Cf := fun x y => ¬ y ≤ x) hK h fun k1 k2 => lv_icmp_ge hx1 hb hdg hx k1 k2
    | gt => exact qq_br2 (Ct := fun x y => y < x) (Cf := fun x y => ¬ y < x) hK h fun k1 k2 => lv_icmp_gt hx1 hb hdg hx k1 k2
    | le => exact qq_br2 (Ct := fun x y => x ≤ y) (Cf := fun x y => ¬ x ≤ y) hK h fun k1 k2 => lv_icmp_le hx1 hb hdg hx k1 k2
  | goto o =>
    obtain ⟨rfl, rfl⟩ := hlen.resolve_left (by simp [qq_sw])
    have hx := of_decide_eq_true hx
    intro ls H locs hP hD hS hl
    exact lv_goto hx1 hb hdg hx (hK _ _ _ _ h ls H locs hP hD hS hl)
  | tableswitch d lo hi os =>
    have hx := Bool.and_eq_true_iff.mp hx
    have hy := Bool.and_eq_true_iff.mp hx.1
    exact qq_swt X hdg (of_decide_eq_true hy.1) (fun o ho => of_decide_eq_true (Array.all_eq_true'.mp hy.2 o ho)) (of_decide_eq_true hx.2) hK h
  | iaload =>
    obtain ⟨rfl, rfl⟩ := hlen.resolve_left (by simp [qq_sw])
    exact qq_ial X hro hdg hK h
  | laload =>
    obtain ⟨rfl, rfl⟩ := hlen.resolve_left (by simp [qq_sw])
    exact qq_lal X hdg hK h
  | baload =>
    obtain ⟨rfl, rfl⟩ := hlen.resolve_left (by simp [qq_sw])
    exact qq_bal X hdg hK h
  | iastore =>
    obtain ⟨rfl, rfl⟩ := hlen.resolve_left (by simp [qq_sw])
    exact qq_ias X hdg hK h
  | lastore =>
    obtain ⟨rfl, rfl⟩ := hlen.resolve_left (by simp [qq_sw])
    exact qq_las X hdg hK h
  | bastore =>
    obtain ⟨rfl, rfl⟩ := hlen.resolve_left (by simp [qq_sw])
    exact qq_bas X hdg hK h
  | arraylength =>
    obtain ⟨rfl, rfl⟩ := hlen.resolve_left (by simp [qq_sw])
    exact qq_aln X hso hro hdg hK h
  | getfield n =>
    obtain ⟨rfl, rfl⟩ := hlen.resolve_left (by simp [qq_sw])
    exact qq_gf X hts hown hk1 hfl (of_decide_eq_true hx) hdg hK h
  | putfield n =>
    obtain ⟨rfl, rfl⟩ := hlen.resolve_left (by simp [qq_sw])
    exact qq_pf X hts hown hk1 hfl (of_decide_eq_true hx) hdg hso2 hK h
  | invokevirtual n =>
    obtain ⟨rfl, rfl⟩ := hlen.resolve_left (by simp [qq_sw])
    exact qq_inv (hV pc n _ tg v hq) hK h
  | invokestatic n =>
    obtain ⟨rfl, rfl⟩ := hlen.resolve_left (by simp [qq_sw])
    exact qq_inv (hV2 pc n _ tg v hq) hK h
  | ireturn =>
    obtain ⟨rfl, rfl⟩ := hlen.resolve_left (by simp [qq_sw])
    dsimp only [qq_st] at h
    split at h
    · split at h
      · exact hRi pc lv w _ hdg (Or.inl rfl) h
      · obtain ⟨h1, h2⟩ := qq_if_inv h
        exact hRi pc lv w _ hdg (Or.inr ⟨rfl, qq_01_inv h1⟩) h2
      · exact h.elim
    · exact h.elim
  | lreturn =>
    obtain ⟨rfl, rfl⟩ := hlen.resolve_left (by simp [qq_sw])
    dsimp only [qq_st] at h
    split at h
    · split at h
      · exact hRl pc lv w _ hdg rfl h
      · exact h.elim
    · exact h.elim
  | return_ =>
    obtain ⟨rfl, rfl⟩ := hlen.resolve_left (by simp [qq_sw])
    dsimp only [qq_st] at h
    split at h
    · split at h
      · exact hRv pc lv w hdg rfl h
      · exact h.elim
    · exact h.elim
  | _ => exact h.elim
end QQ4
