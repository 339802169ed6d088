/-! longs by their bits; the lowest bit; how many bits -/
def lb (x : Int64) (i : Nat) : Bool := x.toBitVec.getLsbD i
theorem lb_ext {x y : Int64} (h : ∀ i, i < 64 → lb x i = lb y i) : x = y := Int64.toBitVec_inj.mp (BitVec.eq_of_getLsbD_eq (fun i hi => h i hi))
theorem lb_big {x : Int64} {i : Nat} (h : 64 ≤ i) : lb x i = false := BitVec.getLsbD_of_ge _ _ h
theorem lb_0 (i : Nat) : lb 0 i = false := BitVec.getLsbD_zero
/-- k is the lowest bit of x -/
def lowb (x : Int64) (k : Nat) : Prop := lb x k = true ∧ ∀ j, j < k → lb x j = false
theorem lowb_ex {x : Int64} (h : ¬ x = 0) : ∃ k, k < 64 ∧ lowb x k := by
  have h1 : ∃ k, lb x k = true := Classical.byContradiction fun z => h (lb_ext fun i _ => by
    rw [lb_0]
    cases q : lb x i with
    | false => rfl
    | true => exact absurd ⟨i, q⟩ z)
  obtain ⟨k, hk, hl⟩ := pk_least (fun k => lb x k = true) h1
  refine ⟨k, ?_, hk, fun j hj => ?_⟩
  · rcases Nat.lt_or_ge k 64 with z | z
    · exact z
    · rw [lb_big z] at hk; cases hk
  · cases q : lb x j with
    | false => rfl
    | true => exact absurd q (hl j hj)
theorem lb_negand {x : Int64} {k : Nat} (hk : lowb x k) (i : Nat) (hi : i < 64) : lb (x &&& -x) i = decide (i = k) := by
  unfold lb
  rw [Int64.toBitVec_and, BitVec.getLsbD_and]
  show (x.toBitVec.getLsbD i && (-x.toBitVec).getLsbD i) = _
  rw [BitVec.getLsbD_neg]
  have e : ∀ j, x.toBitVec.getLsbD j = lb x j := fun _ => rfl
  simp only [e]
  by_cases h1 : i = k
  · subst h1
    have : ¬ ∃ j, j < i ∧ lb x j = true := by
      rintro ⟨j, z1, z2⟩
      rw [hk.2 j z1] at z2
      cases z2
    simp [hk.1, this]
  · rcases Nat.lt_or_ge i k with z | z
    · simp [hk.2 i z, h1]
    · have : ∃ j, j < i ∧ lb x j = true := ⟨k, by omega, hk.1⟩
      simp only [this, decide_true, h1, decide_false, hi]
      cases lb x i <;> rfl
theorem lb_clear {x : Int64} {k : Nat} (hk : lowb x k) (i : Nat) : lb (x &&& (x - 1)) i = true ↔ lb x i = true ∧ i ≠ k := by
  rcases Nat.lt_or_ge i 64 with hi | hi
  · unfold lb
    rw [Int64.toBitVec_and, BitVec.getLsbD_and]
    have e1 : (x - 1).toBitVec = ~~~(-x.toBitVec) := by rw [BitVec.not_neg]; rfl
    rw [e1, BitVec.getLsbD_not, BitVec.getLsbD_neg]
    have e : ∀ j, x.toBitVec.getLsbD j = lb x j := fun _ => rfl
    simp only [e]
    by_cases h1 : i = k
    · subst h1
      have : ¬ ∃ j, j < i ∧ lb x j = true := by
        rintro ⟨j, z1, z2⟩
        rw [hk.2 j z1] at z2
        cases z2
      simp [hk.1, this, hi]
    · cases q : lb x i with
      | false => simp
      | true =>
        have hik : k < i := by
          rcases Nat.lt_or_ge i k with z | z
          · rw [hk.2 i z] at q; cases q
          · omega
        have : ∃ j, j < i ∧ lb x j = true := ⟨k, hik, hk.1⟩
        simp [this, hi, h1]
  · rw [lb_big hi, lb_big hi]
    simp
/-- the JDK's count of a long's bits -/
def pop64 (x : Int64) : Int32 :=
  let x1 := x - ((x.toUInt64 >>> ((1 : Int32).toInt64.toUInt64 &&& Int64.toUInt64 63)).toInt64 &&& 6148914691236517205)
  let x2 := (x1 &&& 3689348814741910323) + ((x1.toUInt64 >>> ((2 : Int32).toInt64.toUInt64 &&& Int64.toUInt64 63)).toInt64 &&& 3689348814741910323)
  let x3 := (x2 + (x2.toUInt64 >>> ((4 : Int32).toInt64.toUInt64 &&& Int64.toUInt64 63)).toInt64) &&& 1085102592571150095
  let x4 := x3 + (x3.toUInt64 >>> ((8 : Int32).toInt64.toUInt64 &&& Int64.toUInt64 63)).toInt64
  let x5 := x4 + (x4.toUInt64 >>> ((16 : Int32).toInt64.toUInt64 &&& Int64.toUInt64 63)).toInt64
  let x6 := x5 + (x5.toUInt64 >>> ((32 : Int32).toInt64.toUInt64 &&& Int64.toUInt64 63)).toInt64
  x6.toInt32 &&& 127
theorem pop64_low : ∀ k, k < 64 → pop64 (Int64.ofNat (2 ^ k) - 1) = nI k := by decide +kernel
theorem lb_pow : ∀ k, k < 64 → ∀ i, i < 64 → lb (Int64.ofNat (2 ^ k)) i = decide (i = k) := by decide +kernel
theorem low_pop {x : Int64} {k : Nat} (hk : lowb x k) (hk2 : k < 64) : pop64 ((x &&& -x) - 1) = nI k := by
  have : x &&& -x = Int64.ofNat (2 ^ k) := lb_ext fun i hi => by rw [lb_negand hk i hi, lb_pow k hk2 i hi]
  rw [this]
  exact pop64_low k hk2
/-- how many bits below a bound -/
def pcb (x : Int32) : Nat → Nat
  | 0 => 0
  | n + 1 => pcb x n + (if bt x n = true then 1 else 0)
def pop32 (x : Int32) : Int32 :=
  let x1 := x - ((x.toUInt32 >>> ((1 : Int32).toUInt32 &&& Int32.toUInt32 31)).toInt32 &&& 1431655765)
  let x2 := (x1 &&& 858993459) + ((x1.toUInt32 >>> ((2 : Int32).toUInt32 &&& Int32.toUInt32 31)).toInt32 &&& 858993459)
  let x3 := (x2 + (x2.toUInt32 >>> ((4 : Int32).toUInt32 &&& Int32.toUInt32 31)).toInt32) &&& 252645135
  let x4 := x3 + (x3.toUInt32 >>> ((8 : Int32).toUInt32 &&& Int32.toUInt32 31)).toInt32
  let x5 := x4 + (x4.toUInt32 >>> ((16 : Int32).toUInt32 &&& Int32.toUInt32 31)).toInt32
  x5 &&& 63
theorem pop32_ok : ∀ a, a < 128 → ∀ b, b < 64 → pop32 (nI (64 * a + b)) = nI (pcb (nI (64 * a + b)) 13) := by decide +kernel
theorem fs_num {x : Int32} (h : fs x) : ∃ B, B < 8192 ∧ x = nI B := by
  refine ⟨x.toBitVec.toNat, ?_, ?_⟩
  · have : x.toBitVec.toNat < 2 ^ 13 := Nat.lt_pow_two_of_testBit _ fun i hi => h i hi
    exact this
  · apply Int32.toBitVec_inj.mp
    show x.toBitVec = BitVec.ofNat 32 x.toBitVec.toNat
    rw [BitVec.ofNat_toNat, BitVec.setWidth_eq]
theorem pop32_fs {x : Int32} (h : fs x) : pop32 x = nI (pcb x 13) := by
  obtain ⟨B, hB, rfl⟩ := fs_num h
  have := pop32_ok (B / 64) (by omega) (B % 64) (by omega)
  rw [Nat.div_add_mod] at this
  exact this
abbrev cs_J6_bitCount_0f7a4 : List (Nat × qq_t) := []
def T_J6_bitCount_0f7a4 : qq_t := fun As w P => match As with
  | [.int x] => fs x ∧ P (some (.int (nI (pcb x 13)))) w
  | _ => False
set_option maxHeartbeats 4000000 in
set_option maxRecDepth 100000 in
theorem bd_J6_bitCount_0f7a4 : ∀ As w P K, qq_Sat ww_sh ww_ro cs_J6_bitCount_0f7a4 (qq_at 53 kd_J6_bitCount_0f7a4) (some .int) P K → T_J6_bitCount_0f7a4 As w P → K 0 (lv_args 0 As) [] w := by
  intro As w P K S h
  unfold T_J6_bitCount_0f7a4 at h
  split at h
  · rename_i x
    obtain ⟨hp, hq⟩ := h
    refine qq_go_ok S (fun _ => false) 60 ?_
    conv => whnf
    rw [← pop32_fs hp] at hq
    exact hq
  · exact h.elim
theorem ha_J6_bitCount_0f7a4 : ∀ As w P, T_J6_bitCount_0f7a4 As w P → qq_wd As ≤ 1 := by
  intro As w P h
  unfold T_J6_bitCount_0f7a4 at h
  split at h
  · exact Nat.le_of_ble_eq_true rfl
  · exact h.elim
set_option maxRecDepth 100000 in
theorem M_J6_bitCount_0f7a4 (l : Launch) : qq_M l ww_T ww_N vwCl ww_sh ww_ro ww_zs yJ6_bitCount_0f7a4 cJ6_bitCount_0f7a4 1 (some .int) (ww_rm 0) T_J6_bitCount_0f7a4 := by
  refine qq_mk (host := RX7) (is := ki_J6_bitCount_0f7a4) (cs := cs_J6_bitCount_0f7a4) (by decide) ww_k1 ww_fl0 ww_so ww_so2 kc_J6_bitCount_0f7a4 kv_J6_bitCount_0f7a4 kg_J6_bitCount_0f7a4 ?_ ha_J6_bitCount_0f7a4 bd_J6_bitCount_0f7a4
  intro k i q hi hq
  simp [cs_J6_bitCount_0f7a4] at hq
abbrev cs_X7_lowest : List (Nat × qq_t) := [(1, T_J13_bitCount_95d88)]
def T_X7_lowest : qq_t := fun As w P => match As with
  | [.long x] => (¬ x = 0) ∧ ∀ k, (k < 64 ∧ lowb x k) → P (some (.int (nI k))) w
  | _ => False
set_option maxHeartbeats 4000000 in
set_option maxRecDepth 100000 in
theorem bd_X7_lowest : ∀ As w P K, qq_Sat ww_sh ww_ro cs_X7_lowest (qq_at 10 kd_X7_lowest) (some .int) P K → T_X7_lowest As w P → K 0 (lv_args 0 As) [] w := by
  intro As w P K S h
  unfold T_X7_lowest at h
  split at h
  · rename_i x
    obtain ⟨hp, hq⟩ := h
    obtain ⟨k, hk, hl⟩ := lowb_ex hp
    refine qq_go_ok S (fun _ => false) 60 ?_
    conv => whnf
    have := hq k ⟨hk, hl⟩
    rw [← low_pop hl hk] at this
    exact this
  · exact h.elim
theorem ha_X7_lowest : ∀ As w P, T_X7_lowest As w P → qq_wd As ≤ 2 := by
  intro As w P h
  unfold T_X7_lowest at h
  split at h
  · exact Nat.le_of_ble_eq_true rfl
  · exact h.elim
set_option maxRecDepth 100000 in
theorem M_X7_lowest (l : Launch) : qq_M l ww_T ww_N vwCl ww_sh ww_ro ww_zs yX7_lowest cX7_lowest 2 (some .int) (ww_rm 1) T_X7_lowest := by
  refine qq_mk (host := RX7) (is := ki_X7_lowest) (cs := cs_X7_lowest) (by decide) ww_k1 wl_X7 ww_so ww_so2 kc_X7_lowest kv_X7_lowest kg_X7_lowest ?_ ha_X7_lowest bd_X7_lowest
  intro k i q hi hq
  match k, hi, hq with
  | 0, hi, hq => cases hi; cases hq; exact fun p e s m args below meth c D tys tC ad Q pc X hdg => qq_cS X ww_gd (M_J13_bitCount_95d88 l) kf_J13_bitCount_95d88.1 (Or.inl (ww_a3 (i := 110) (w := Cond.methodLink RX7 272 yJ13_bitCount_95d88) rfl rfl)) kf_J13_bitCount_95d88.2.1 kf_J13_bitCount_95d88.2.2 ⟨by decide, by decide, by decide +kernel⟩ rfl rfl ⟨by decide, by decide⟩ ⟨Nat.le_refl _, Nat.le_refl _⟩ hdg
  | n + 1, hi, hq => simp [cs_X7_lowest] at hq
