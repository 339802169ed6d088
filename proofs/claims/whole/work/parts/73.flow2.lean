/-! FLOWS are alike: calls, rows, targets -/
theorem nI_z {f : Nat} (h : f < 2 ^ 31) : nI f = 0 ↔ f = 0 := nI_eq (b := 0) h (by decide)
theorem nI_lt4 {f : Nat} (h : f < 13) : nI f ≤ 4 ↔ f ≤ 4 := nI_leI (b := 4) (by omega) (by decide)
theorem i_nlt (x y : Int32) : ¬ x < y ↔ y ≤ x := by
  rw [i_lt, i_le]
  omega
theorem ac_eq {w : qq_w} {N Pn E n f : Nat} (H : iPrg w N Pn E) (hn : n < N) (hf : f < 13) : cAcross w n (nI f) = mAcr w n (nI f) := by
  obtain ⟨-, -, -, -, -, -, t6, -⟩ := iP_tell H hn
  unfold cAcross mAcr
  rw [t6, mbit_one (f := f) (by omega)]
  by_cases h0 : f = 0
  · subst h0
    rw [if_pos (Or.inl nI_0), if_pos nI_0]
    decide
  · have h0' : ¬ nI f = 0 := fun z => h0 ((nI_z (by omega)).mp z)
    by_cases h4 : nI f ≤ 4
    · rw [if_neg (fun z => z.elim h0' (fun z => z.1 h4)), if_neg h0', if_pos (Or.inl h4)]
    · by_cases h6 : nI f = cX w n 6
      · rw [if_neg (fun z => z.elim h0' (fun z => z.2 h6)), if_neg h0', if_pos (Or.inr h6)]
      · rw [if_pos (Or.inr ⟨h4, h6⟩), if_neg h0', if_neg (fun z => z.elim h4 h6)]
theorem iP_call {w : qq_w} {N Pn E n : Nat} (H : iPrg w N Pn E) (hn : n < N) (h9 : cX w n 1 = 9) : ∃ p, p < Pn ∧ cX w n 0 = nI p ∧ iCall w N Pn n p := by
  obtain ⟨p, k, hp, hk, e0, e1, -, -, -, -, ⟨hc, -⟩, -⟩ := iP_kind H hn
  have : k = 9 := nI_inj (by omega) (by decide) (e1.symm.trans h9)
  exact ⟨p, hp, e0, hc this⟩
theorem iVarO_lt {w : qq_w} {N p : Nat} {v : Int32} (hp : iProc w N p) (h : iVarO w p v) : v = -5 ∨ ∃ x, 1 ≤ x ∧ x < 13 ∧ v = nI x := h.elim Or.inl (fun z => Or.inr (iVar_lt hp z))
theorem iP_out {w : qq_w} {N p : Nat} (h : iProc w N p) : w.1 11 p = -5 ∨ ∃ x, 5 ≤ x ∧ x < 13 ∧ w.1 11 p = nI x := by
  obtain ⟨a, b, l, ha, -, -, -, -, -, -, -, -, -, -, -, -, -, -, -, ho⟩ := h
  rcases ho with ho | ⟨x, h1, h2, h3⟩
  · exact Or.inl ho
  · exact Or.inr ⟨x, h1, by omega, h3⟩
theorem bk_eq {w : qq_w} {N Pn E n f : Nat} (H : iPrg w N Pn E) (hn : n < N) (h9 : cX w n 1 = 9) (hf : f < 13) : cBack w n (nI f) = mBk w n (nI f) := by
  obtain ⟨-, -, -, -, -, t5, t6, -⟩ := iP_tell H hn
  obtain ⟨e23, -⟩ := iP_cli H
  obtain ⟨p, hp, e0, p', r, m, hp', hr, hm, e5, v6, -⟩ := iP_call H hn h9
  have hpr := H.2.2.1 p hp
  have hpr' := H.2.2.1 p' hp'
  have e41 : w.1 41 p' = w.1 11 p' := by
    obtain ⟨a, b, l, -, -, -, -, -, -, -, -, -, -, -, -, -, -, -, ho, -⟩ := hpr'
    exact ho
  have hP8 : Pn ≤ 8 := H.1.2.1
  unfold cBack mBk
  rw [t5, t6, e5, qn_nI (by omega), e41, e23, mbit_one (f := f) (by omega)]
  have hO := iP_out hpr'
  generalize w.1 11 p' = o at *
  generalize cX w n 6 = x at *
  have hx := iVarO_lt hpr v6
  have hx0 : f = 0 → ¬ nI f = x := by
    rintro rfl e
    rcases hx with rfl | ⟨y, hy, hy2, rfl⟩
    · exact absurd e (by decide)
    · have := nI_inj (a := 0) (by decide) (by omega) e
      omega
  have ho0 : f = 0 → ¬ nI f = o := by
    rintro rfl e
    rcases hO with rfl | ⟨y, hy, hy2, rfl⟩
    · exact absurd e (by decide)
    · have := nI_inj (a := 0) (by decide) (by omega) e
      omega
  have h40 : f = 0 → ¬ (4 : Int32) < nI f := by
    rintro rfl
    decide
  have zf : nI f = 0 ↔ f = 0 := nI_z (by omega)
  by_cases hx5 : x = -5
  · subst hx5
    have em : mbit (-5) = 0 := if_pos rfl
    rw [em]
    by_cases h0 : nI f = 0
    · have q1 := h40 (zf.mp h0)
      have q2 := hx0 (zf.mp h0)
      rw [if_pos ⟨q1, q2⟩, if_pos (Or.inl h0), if_neg (fun z => z.1 rfl)]
      simp only [ite_self, i32_or0]
    · rw [if_neg (fun z : ¬ (-5 : Int32) = -5 ∧ _ => z.1 rfl)]
      simp only [h0, false_or, ite_self, i32_or0]
  · have em : mbit x = (1 : Int32) <<< (x &&& 31) := if_neg hx5
    rw [em]
    by_cases h0 : nI f = 0
    · have q1 := h40 (zf.mp h0)
      have q2 := hx0 (zf.mp h0)
      have q3 := ho0 (zf.mp h0)
      rw [if_pos ⟨q1, q2⟩, if_pos (Or.inl h0), if_neg (fun z : ¬ nI f = 0 ∧ _ => z.1 h0), i32_or0]
      by_cases q4 : w.1 2 2 = 1 ∧ o = -5
      · rw [if_pos ⟨hx5, Or.inr ⟨q4.1, q4.2, h0⟩⟩, if_pos ⟨h0, q4.2, q4.1⟩]
      · rw [if_neg (fun z => z.2.elim q3 (fun y => q4 ⟨y.1, y.2.1⟩)), if_neg (fun z => q4 ⟨z.2.2, z.2.1⟩)]
    · rw [if_neg (fun z : nI f = 0 ∧ _ => h0 z.1), i32_or0]
      have c1 : (¬ x = -5 ∧ (nI f = o ∨ w.1 2 2 = 1 ∧ o = -5 ∧ nI f = 0)) ↔ (¬ nI f = 0 ∧ nI f = o) := ⟨fun z => ⟨h0, z.2.elim id (fun y => absurd y.2.2 h0)⟩, fun z => ⟨hx5, Or.inl z.2⟩⟩
      have c2 : (nI f = 0 ∨ ¬ 4 < nI f ∧ ¬ nI f = x) ↔ (¬ 4 < nI f ∧ ¬ nI f = x) := ⟨fun z => z.elim (fun y => absurd y h0) id, Or.inr⟩
      simp only [c1, c2]
theorem in_eq {w : qq_w} {N Pn E n i g : Nat} (H : iPrg w N Pn E) (hn : n < N) (h9 : cX w n 1 = 9) : cInto w n i g ↔ mInto w n i g := by
  obtain ⟨-, -, -, -, -, t5, -, -, t8, -⟩ := iP_tell H hn
  obtain ⟨e23, -⟩ := iP_cli H
  obtain ⟨p, hp, e0, p', r, m, hp', hr, hm, e5, v6, -, -, -, -, e8, ha⟩ := iP_call H hn h9
  obtain ⟨a, b, l, -, -, -, -, g9, g37, g10, g38, -⟩ := H.2.2.1 p' hp'
  have hP8 : Pn ≤ 8 := H.1.2.1
  unfold cInto mInto
  have e5' : w.1 13 (10 * n + 5) = nI p' := e5
  have e8' : w.1 13 (10 * n + 8) = nI m := e8
  rw [t5, t8, e5, e5', qn_nI (i := p') (by omega), g37, g38, g9, g10, e23, e8, e8', qn_nI (i := m) (by omega)]
  refine or_congr Iff.rfl (or_congr ⟨?_, ?_⟩ Iff.rfl)
  · rintro ⟨k, h1, h2, h3, h4⟩
    exact ⟨k, h1, h2, by rw [(ha k (by omega)).2]; exact h3, h4⟩
  · rintro ⟨k, h1, h2, h3, h4⟩
    exact ⟨k, h1, h2, by rw [← (ha k (by omega)).2]; exact h3, h4⟩
theorem row_eq {c m : Int32} {f : Nat} {z : Bool} (hf : f < 13) (hz : z = decide (f = 0)) (h : iRow c m z) : (if c = -1 then (1 : Int32) <<< (nI f &&& 31) else c) = (if nI f = 0 then 1 ||| (if m = -5 then 0 else m) else if m = -5 then mbit (nI f) else m) := by
  rcases h with ⟨rfl, rfl⟩ | ⟨b, hb, rfl, hc⟩
  · rw [if_pos rfl]
    exact fl_none f hf
  · have hm5 : ¬ nI b = -5 := i_ng (by omega) (-5) (by decide)
    have hm1 : ¬ nI b = -1 := i_ng (by omega) (-1) (by decide)
    rw [if_neg hm5, if_neg hm5]
    subst hz
    by_cases h0 : f = 0
    · subst h0
      rw [decide_eq_true rfl, if_pos rfl] at hc
      rw [hc, if_neg (or1_ne hb), if_pos nI_0, i32_or_comm]
    · rw [decide_eq_false h0, if_neg (by decide)] at hc
      rw [hc, if_neg hm1, if_neg (fun e => h0 ((nI_z (by omega)).mp e))]
theorem tg_eq {w : qq_w} {N Pn E n p f : Nat} {x : Int32} (H : iPrg w N Pn E) (hn : n < N) (hp : p < 3) (hf : f < 13) : cTgt w n p (nI f) x ↔ mTgt w n p (nI f) x := by
  obtain ⟨-, t1, -⟩ := iP_tell H hn
  obtain ⟨e23, -⟩ := iP_cli H
  have hN : N ≤ 64 := H.1.1
  have hr := H.2.2.2.2.2.1 (39 * n + 13 * p + f) (by omega)
  have hrow := row_eq hf (by rw [show (39 * n + 13 * p + f) % 13 = f by omega]) hr
  unfold cTgt mTgt
  rw [t1, e23, qn_nI (i := f) (by omega), hrow, st_eq H hn hf, ac_eq H hn hf]
  refine or_congr Iff.rfl (or_congr Iff.rfl ?_)
  constructor
  · rintro ⟨h1, h2, h3⟩
    rw [bk_eq H hn h2 hf] at h3
    refine ⟨h1, h2, h3.imp id (Or.imp (fun z => ⟨z.1, fun g => (z.2 g).trans (in_eq H hn h2)⟩) id)⟩
  · rintro ⟨h1, h2, h3⟩
    rw [← bk_eq H hn h2 hf] at h3
    refine ⟨h1, h2, h3.imp id (Or.imp (fun z => ⟨z.1, fun g => (z.2 g).trans (in_eq H hn h2).symm⟩) id)⟩
theorem tg_uq {w : qq_w} {n p : Nat} {f x y : Int32} (hx : mTgt w n p f x) (hy : mTgt w n p f y) : x = y := by
  rcases hx with ⟨h1, rfl⟩ | ⟨h1, h2, rfl⟩ | ⟨h1, h2, h3⟩ <;> rcases hy with ⟨g1, rfl⟩ | ⟨g1, g2, rfl⟩ | ⟨g1, g2, g3⟩
  · rfl
  · exact absurd h1 g1
  · exact absurd h1 g1
  · exact absurd g1 h1
  · rfl
  · exact absurd g2 h2
  · exact absurd g1 h1
  · exact absurd h2 g2
  · rcases h3 with ⟨p0, rfl⟩ | ⟨p1, h3⟩ | ⟨p2, rfl⟩ <;> rcases g3 with ⟨q0, rfl⟩ | ⟨q1, g3⟩ | ⟨q2, rfl⟩ <;> first | rfl | omega | exact b_uq h3 g3
theorem fs_num' {b : Nat} (h : b < 8192) : fs (nI b) := by
  intro i hi
  show (BitVec.ofNat 32 b).getLsbD i = false
  rw [BitVec.getLsbD_ofNat, Nat.testBit_lt_two_pow, Bool.and_false]
  have : 2 ^ 13 ≤ 2 ^ i := Nat.pow_le_pow_right (by decide) hi
  omega
theorem fs_1 : fs 1 := by
  intro i hi
  rw [b_1, decide_eq_false_iff_not]
  omega
theorem fs_if {c : Prop} [Decidable c] {x y : Int32} (hx : fs x) (hy : fs y) : fs (if c then x else y) := by
  split
  · exact hx
  · exact hy
theorem tg_fs {w : qq_w} {N Pn E n p f : Nat} {x : Int32} (H : iPrg w N Pn E) (hn : n < N) (hp : p < 3) (hf : f < 13) (h : cTgt w n p (nI f) x) : fs x := by
  have hN : N ≤ 64 := H.1.1
  have h1f := fs_one hf
  rcases h with ⟨-, rfl⟩ | ⟨-, -, rfl⟩ | ⟨-, h9, h⟩
  · rw [qn_nI (i := f) (by omega)]
    have hr := H.2.2.2.2.2.1 (39 * n + 13 * p + f) (by omega)
    rcases hr with ⟨e, -⟩ | ⟨b, hb, -, e⟩
    · rw [if_pos e]
      exact h1f
    · refine fs_if h1f ?_
      rw [e]
      exact fs_if (fs_or (fs_num' hb) fs_1) (fs_num' hb)
  · obtain ⟨q, k, hq, hk, -, ek, -, ⟨hx, -⟩, -⟩ := iP_kind H hn
    unfold cStmt
    rw [ek, qn_nI (by omega)]
    split
    · rename_i h37
      obtain ⟨X, hX1, hX2, eX⟩ := iVar_lt (H.2.2.1 q hq) (hx ⟨h37.1, by omega⟩)
      rw [eX]
      exact fs_or (fs_if fs_0 h1f) (fs_if (fs_one hX2) fs_0)
    · exact h1f
  · obtain ⟨q, hq, e0, p', r, m, hp', hr, hm, e5, v6, -⟩ := iP_call H hn h9
    have hP8 : Pn ≤ 8 := H.1.2.1
    rcases h with ⟨-, rfl⟩ | ⟨-, h⟩ | ⟨-, rfl⟩
    · exact fs_if h1f fs_0
    · obtain ⟨a, b, l, ha, hb, hba, -, g9, g37, g10, g38, -⟩ := H.2.2.1 p' hp'
      intro i hi
      cases z : bt x i with
      | false => rfl
      | true =>
        have := (h i).mp z
        unfold cInto at this
        have e5' : w.1 13 (10 * n + 5) = nI p' := e5
        rw [e5', qn_nI (i := p') (by omega), g9, g10, qn_nI (i := a) (by omega), qn_nI (i := b) (by omega)] at this
        rcases this with ⟨h1, h2⟩ | ⟨k, h1, h2, h3, h4⟩ | ⟨h1, h2, h3, h4⟩ <;> omega
    · refine fs_or (fs_if h1f fs_0) ?_
      split
      · rename_i hc
        rcases iVarO_lt (H.2.2.1 q hq) v6 with z | ⟨y, hy, hy2, e⟩
        · exact absurd z hc.1
        · rw [e]
          exact fs_one hy2
      · exact fs_0
/-- what the class has written down of its flows, against the reference's -/
theorem tg_F {w : qq_w} {N Pn E n p f : Nat} {x : Int32} (H : iPrg w N Pn E) (hn : n < N) (hp : p < 3) (hf : f < 13) (h : cTgt w n p (nI f) x) (g : Nat) : bt x g = true ↔ mF w n p f g := by
  have h2 := (tg_eq H hn hp hf).mp h
  constructor
  · intro z
    exact ⟨x, h2, z⟩
  · rintro ⟨y, hy, z⟩
    rw [tg_uq h2 hy]
    exact z
theorem mF_lt {w : qq_w} {N Pn E n p f g : Nat} (H : iPrg w N Pn E) (hn : n < N) (hp : p < 3) (hf : f < 13) (h : mF w n p f g) : g < 13 := by
  obtain ⟨x, h1, h2⟩ := h
  exact fs_lt (tg_fs H hn hp hf ((tg_eq H hn hp hf).mpr h1)) h2
theorem bg_b : ∀ a, a < 9 → ((31 : Int32) ||| (((1 : Int32) <<< ((5 + nI a) &&& 31)) - ((1 : Int32) <<< ((5 + 0) &&& 31)))) = 1 ||| (((1 : Int32) <<< ((5 + nI a) &&& 31)) - 1) ∧ ∀ i, i < 32 → 13 ≤ i → bt (1 ||| (((1 : Int32) <<< ((5 + nI a) &&& 31)) - 1)) i = false := by decide +kernel
theorem bg_eq {w : qq_w} {N Pn E : Nat} (H : iPrg w N Pn E) (h0 : 0 < Pn) : cBegin w = mBegin w ∧ fs (mBegin w) := by
  obtain ⟨a, b, l, ha, hb, hba, -, g9, g37, -⟩ := H.2.2.1 0 h0
  obtain ⟨e23, hc⟩ := iP_cli H
  obtain ⟨-, d, hd, d1, d2⟩ := H.2.2.2.2.2.2
  obtain ⟨q1, q2⟩ := bg_b a (by omega)
  unfold cBegin mBegin
  rw [e23, g9, g37, d1, d2]
  rcases hc with hc | hc | hc <;> rw [hc]
  · rw [if_neg (by decide), if_neg (by decide), if_neg (by decide), if_neg (by decide)]
    exact ⟨by decide, fs_or fs_1 fs_0⟩
  · rw [if_pos rfl, if_pos rfl]
    refine ⟨q1, fun i hi => ?_⟩
    rcases Nat.lt_or_ge i 32 with h32 | h32
    · exact q2 i h32 hi
    · exact b_big h32
  · rw [if_neg (by decide), if_pos rfl, if_neg (by decide), if_pos rfl]
    exact ⟨rfl, fs_or fs_1 (fs_num' hd)⟩
