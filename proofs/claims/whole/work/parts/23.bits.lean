/-! bits: the family 'bt' of kit/laws/BITS.to-paste, and what is wanted besides -/
def bt (x : Int32) (i : Nat) : Bool := x.toBitVec.getLsbD i
theorem b_ext {x y : Int32} (h : ∀ i, i < 32 → bt x i = bt y i) : x = y := Int32.toBitVec_inj.mp (BitVec.eq_of_getLsbD_eq (fun i hi => h i hi))
theorem b_or (x y : Int32) (i : Nat) : bt (x ||| y) i = (bt x i || bt y i) := by unfold bt; rw [Int32.toBitVec_or, BitVec.getLsbD_or]
theorem b_and (x y : Int32) (i : Nat) : bt (x &&& y) i = (bt x i && bt y i) := by unfold bt; rw [Int32.toBitVec_and, BitVec.getLsbD_and]
theorem b_xor (x y : Int32) (i : Nat) : bt (x ^^^ y) i = (bt x i ^^ bt y i) := by unfold bt; rw [Int32.toBitVec_xor, BitVec.getLsbD_xor]
theorem b_big {x : Int32} {i : Nat} (h : 32 ≤ i) : bt x i = false := BitVec.getLsbD_of_ge _ _ h
theorem b_255 (i : Nat) : bt 255 i = decide (i < 8) := by
  rcases Nat.lt_or_ge i 32 with h | h
  · exact (by decide +kernel : ∀ i, i < 32 → bt 255 i = decide (i < 8)) i h
  · rw [b_big h, decide_eq_false (by omega)]
theorem b_65535 (i : Nat) : bt 65535 i = decide (i < 16) := by
  rcases Nat.lt_or_ge i 32 with h | h
  · exact (by decide +kernel : ∀ i, i < 32 → bt 65535 i = decide (i < 16)) i h
  · rw [b_big h, decide_eq_false (by omega)]
theorem b_m1 : ∀ i, i < 32 → bt (-1) i = true := by decide +kernel
theorem b_0 (i : Nat) : bt 0 i = false := BitVec.getLsbD_zero
theorem s_l : ∀ n, n < 32 → ((nI n &&& 31).toBitVec.smod 32).toNat = n := by decide +kernel
theorem s_u : ∀ n, n < 32 → (((nI n).toUInt32 &&& Int32.toUInt32 31).toBitVec % 32).toNat = n := by decide +kernel
theorem b_shl (n : Nat) (hn : n < 32) (x : Int32) {i : Nat} (hi : i < 32) : bt (x <<< (nI n &&& 31)) i = (decide (n ≤ i) && bt x (i - n)) := by
  unfold bt
  rw [Int32.toBitVec_shiftLeft]
  show (x.toBitVec <<< ((nI n &&& 31).toBitVec.smod 32).toNat).getLsbD i = _
  rw [s_l n hn, BitVec.getLsbD_shiftLeft]
  rcases Nat.lt_or_ge i n with h | h
  · simp [h, Nat.not_le.mpr h]
  · simp [hi, h, Nat.not_lt.mpr h]
theorem b_ushr (n : Nat) (hn : n < 32) (x : Int32) (i : Nat) : bt ((x.toUInt32 >>> ((nI n).toUInt32 &&& Int32.toUInt32 31)).toInt32) i = bt x (n + i) := by
  show (x.toUInt32 >>> ((nI n).toUInt32 &&& Int32.toUInt32 31)).toBitVec.getLsbD i = x.toUInt32.toBitVec.getLsbD (n + i)
  rw [UInt32.toBitVec_shiftRight]
  show (x.toUInt32.toBitVec >>> (((nI n).toUInt32 &&& Int32.toUInt32 31).toBitVec % 32).toNat).getLsbD i = _
  rw [s_u n hn, BitVec.getLsbD_ushiftRight]
theorem b_sshr (n : Nat) (hn : n < 32) (x : Int32) {i : Nat} (hi : i < 32) : bt (x >>> (nI n &&& 31)) i = if n + i < 32 then bt x (n + i) else bt x 31 := by
  unfold bt
  rw [Int32.toBitVec_shiftRight]
  show (x.toBitVec.sshiftRight ((nI n &&& 31).toBitVec.smod 32).toNat).getLsbD i = _
  rw [s_l n hn, BitVec.getLsbD_sshiftRight, BitVec.msb_eq_getLsbD_last]
  simp [hi]
theorem b_1 (i : Nat) : bt 1 i = decide (i = 0) := by
  rcases Nat.lt_or_ge i 32 with h | h
  · exact (by decide +kernel : ∀ i, i < 32 → bt 1 i = decide (i = 0)) i h
  · rw [b_big h, decide_eq_false (by omega)]
theorem b_zero {x : Int32} (h : ∀ i, i < 32 → bt x i = false) : x = 0 := b_ext fun i hi => by rw [h i hi, b_0]
theorem b_has {n : Nat} (hn : n < 31) (x : Int32) : (x >>> (nI n &&& 31)) &&& 1 = 0 ↔ bt x n = false := by
  constructor
  · intro h
    have h1 : bt ((x >>> (nI n &&& 31)) &&& 1) 0 = false := by rw [h, b_0]
    rw [b_and, b_sshr n (by omega) x (by omega), b_1, if_pos (by omega)] at h1
    simpa using h1
  · intro h
    refine b_zero fun i hi => ?_
    rw [b_and, b_sshr n (by omega) x hi, b_1]
    by_cases hi0 : i = 0
    · subst hi0
      rw [if_pos (by omega), Nat.add_zero, h]
      rfl
    · simp [hi0]
theorem b_has1 {n : Nat} (hn : n < 31) (x : Int32) : (x >>> (nI n &&& 31)) &&& 1 = 1 ↔ bt x n = true := by
  constructor
  · intro h
    have h1 : bt ((x >>> (nI n &&& 31)) &&& 1) 0 = true := by rw [h, b_1]; rfl
    rw [b_and, b_sshr n (by omega) x (by omega), b_1, if_pos (by omega)] at h1
    simpa using h1
  · intro h
    refine b_ext fun i hi => ?_
    rw [b_and, b_sshr n (by omega) x hi, b_1]
    by_cases hi0 : i = 0
    · subst hi0
      rw [if_pos (by omega), Nat.add_zero, h]
      rfl
    · simp [hi0]
theorem b_one {n : Nat} (hn : n < 31) (i : Nat) : bt ((1 : Int32) <<< (nI n &&& 31)) i = decide (i = n) := by
  rcases Nat.lt_or_ge i 32 with h | h
  · rw [b_shl n (by omega) 1 h, b_1]
    by_cases h1 : i = n
    · subst h1; simp
    · have : ¬ (n ≤ i ∧ i - n = 0) := by omega
      simp only [h1, decide_false]
      rw [← Bool.decide_and]
      exact decide_eq_false this
  · rw [b_big h, decide_eq_false (by omega)]
/-- a set of facts: thirteen bits -/
def fs (x : Int32) : Prop := ∀ i, 13 ≤ i → bt x i = false
theorem fs_0 : fs 0 := fun i _ => b_0 i
theorem fs_or {x y : Int32} (hx : fs x) (hy : fs y) : fs (x ||| y) := fun i h => by rw [b_or, hx i h, hy i h]; rfl
theorem fs_and {x y : Int32} (hx : fs x) : fs (x &&& y) := fun i h => by rw [b_and, hx i h]; rfl
theorem fs_one {n : Nat} (hn : n < 13) : fs ((1 : Int32) <<< (nI n &&& 31)) := fun i h => by rw [b_one (by omega), decide_eq_false (by omega)]
theorem fs_lt {x : Int32} (h : fs x) {i : Nat} (hi : bt x i = true) : i < 13 := by
  rcases Nat.lt_or_ge i 13 with z | z
  · exact z
  · rw [h i z] at hi
    cases hi
theorem fs_zero {x : Int32} (h : fs x) : x = 0 ↔ ∀ i, i < 13 → bt x i = false := by
  constructor
  · intro e i _
    rw [e, b_0]
  · intro z
    refine b_zero fun i _ => ?_
    rcases Nat.lt_or_ge i 13 with q | q
    · exact z i q
    · exact h i q
theorem b_not (x y : Int32) {i : Nat} (hi : i < 32) : bt (x &&& (y ^^^ (-1))) i = (bt x i && !bt y i) := by
  rw [b_and, b_xor, b_m1 i hi]
  simp
theorem qq_or_bt (f : Nat → Int32) (b e : Nat) : ∀ n, bt (qq_or f b n) e = true ↔ ∃ i, i < n ∧ bt (f (b + i)) e = true
  | 0 => by
    unfold qq_or
    rw [b_0]
    constructor
    · intro h; cases h
    · rintro ⟨i, h, -⟩; omega
  | n + 1 => by
    unfold qq_or
    rw [b_or, Bool.or_eq_true, qq_or_bt f b e n]
    constructor
    · rintro (⟨i, h1, h2⟩ | h)
      · exact ⟨i, by omega, h2⟩
      · exact ⟨n, by omega, h⟩
    · rintro ⟨i, h1, h2⟩
      by_cases e : i = n
      · subst e; exact Or.inr h2
      · exact Or.inl ⟨i, by omega, h2⟩
/-! lists of different numbers below a bound -/
theorem pg_le : ∀ (m n : Nat) (f : Nat → Nat), (∀ i, i < n → f i < m) → (∀ i j, i < n → j < n → f i = f j → i = j) → n ≤ m
  | 0, n, f, h1, _ => by
    rcases Nat.eq_zero_or_pos n with h | h
    · omega
    · exact absurd (h1 0 h) (Nat.not_lt_zero _)
  | m + 1, 0, f, _, _ => Nat.zero_le _
  | m + 1, n + 1, f, h1, h2 => by
    have hv : f n < m + 1 := h1 n (by omega)
    have := pg_le m n (fun i => if f i = m then f n else f i) (fun i hi => by
      by_cases e : f i = m
      · simp only [e, if_true]
        have : f n ≠ m := fun z => absurd (h2 i n (by omega) (by omega) (by rw [e, z])) (by omega)
        omega
      · simp only [e, if_false]
        have := h1 i (by omega)
        omega) (fun i j hi hj e => by
      by_cases ei : f i = m <;> by_cases ej : f j = m <;> simp only [ei, ej, if_true, if_false] at e
      · exact h2 i j (by omega) (by omega) (by rw [ei, ej])
      · exact absurd (h2 n j (by omega) (by omega) e) (by omega)
      · exact absurd (h2 i n (by omega) (by omega) e) (by omega)
      · exact h2 i j (by omega) (by omega) e)
    omega
/-- a row that lists, each once, the codes of a set -/
def WL (a : Nat → Int32) (f : Nat) (R : Nat → Prop) : Prop := (∀ c, R c → c < 10816) ∧ (∀ i, i < f → ∃ c, R c ∧ a i = nI c) ∧ (∀ c, R c → ∃ i, i < f ∧ a i = nI c) ∧ ∀ i j, i < f → j < f → a i = a j → i = j
theorem WL_le {a : Nat → Int32} {f : Nat} {R : Nat → Prop} (h : WL a f R) : f ≤ 10816 := by
  refine pg_le 10816 f (fun i => qn (a i)) (fun i hi => ?_) (fun i j hi hj e => ?_)
  · obtain ⟨c, hc, e⟩ := h.2.1 i hi
    have := h.1 c hc
    show qn (a i) < 10816
    rw [e, qn_nI (by omega)]
    exact this
  · obtain ⟨c, hc, e1⟩ := h.2.1 i hi
    obtain ⟨c', hc', e2⟩ := h.2.1 j hj
    have h1 := h.1 c hc
    have h2 := h.1 c' hc'
    refine h.2.2.2 i j hi hj ?_
    have e : qn (a i) = qn (a j) := e
    rw [e1, e2, qn_nI (by omega), qn_nI (by omega)] at e
    rw [e1, e2, e]
theorem WL_add {a : Nat → Int32} {f c : Nat} {R : Nat → Prop} (h : WL a f R) (hc : c < 10816) (hn : ¬ R c) : WL (upd a f (nI c)) (f + 1) (fun x => R x ∨ x = c) := by
  have ne : ∀ i, i < f → upd a f (nI c) i = a i := fun i hi => by rw [upd_at, if_neg (by omega)]
  have eq : upd a f (nI c) f = nI c := by rw [upd_at, if_pos rfl]
  refine ⟨fun x hx => hx.elim (h.1 x) (fun z => z ▸ hc), fun i hi => ?_, fun x hx => ?_, fun i j hi hj e => ?_⟩
  · by_cases e : i = f
    · subst e; exact ⟨c, Or.inr rfl, eq⟩
    · obtain ⟨x, h1, h2⟩ := h.2.1 i (by omega)
      exact ⟨x, Or.inl h1, by rw [ne i (by omega)]; exact h2⟩
  · rcases hx with hx | rfl
    · obtain ⟨i, h1, h2⟩ := h.2.2.1 x hx
      exact ⟨i, by omega, by rw [ne i h1]; exact h2⟩
    · exact ⟨f, by omega, eq⟩
  · have key : ∀ k, k < f → a k ≠ nI c := fun k hk z => by
      obtain ⟨x, h1, h2⟩ := h.2.1 k hk
      have := h.1 x h1
      rw [z] at h2
      have := (nI_eq (by omega) (by omega)).mp h2
      subst this
      exact hn h1
    by_cases ei : i = f <;> by_cases ej : j = f
    · omega
    · subst ei
      rw [eq, ne j (by omega)] at e
      exact absurd e.symm (key j (by omega))
    · subst ej
      rw [eq, ne i (by omega)] at e
      exact absurd e (key i (by omega))
    · rw [ne i (by omega), ne j (by omega)] at e
      exact h.2.2.2 i j (by omega) (by omega) e
theorem WL_lt {a : Nat → Int32} {f c : Nat} {R : Nat → Prop} (h : WL a f R) (hc : c < 10816) (hn : ¬ R c) : f < 10816 := by
  have := WL_le (WL_add h hc hn)
  omega
theorem WL_iff {a : Nat → Int32} {f : Nat} {R R' : Nat → Prop} (h : WL a f R) (e : ∀ c, R c ↔ R' c) : WL a f R' := by
  have : R = R' := funext fun c => propext (e c)
  exact this ▸ h
theorem WL_in {a : Nat → Int32} {f i : Nat} {R : Nat → Prop} (h : WL a f R) (hi : i < f) : vp_in (a i) 10816 := by
  obtain ⟨c, h1, h2⟩ := h.2.1 i hi
  exact i_in 10816 h2 (h.1 c h1) (by decide)
/-- fewer codes in one list than in another that holds them all -/
theorem WL_card {a b : Nat → Int32} {f g : Nat} {R R' : Nat → Prop} (h : WL a f R) (h' : WL b g R') (hs : ∀ c, R c → R' c) : f ≤ g := by
  have key : ∀ i, ∃ j, i < f → j < g ∧ b j = a i := fun i => by
    by_cases hi : i < f
    · obtain ⟨c, h1, h2⟩ := h.2.1 i hi
      obtain ⟨j, h3, h4⟩ := h'.2.2.1 c (hs c h1)
      exact ⟨j, fun _ => ⟨h3, by rw [h4, h2]⟩⟩
    · exact ⟨0, fun z => absurd z hi⟩
  refine pg_le g f (fun i => Classical.choose (key i)) (fun i hi => (Classical.choose_spec (key i) hi).1) (fun i j hi hj e => ?_)
  have h1 := (Classical.choose_spec (key i) hi).2
  have h2 := (Classical.choose_spec (key j) hj).2
  have e : Classical.choose (key i) = Classical.choose (key j) := e
  rw [e] at h1
  exact h.2.2.2 i j hi hj (h1.symm.trans h2)
