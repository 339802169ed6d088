theorem sb_s : ∀ m, m < 5 → ∀ i, i < 5 → i ≤ m → nI m - nI i = nI (m - i) := by decide +kernel
theorem pl_c {b e r r2 : Int32} {m : Nat} (hm : m ≤ 4) (hr : r = nI m) (hr2 : r2 = nI m) : (∃ i k, i + k ≤ m ∧ b = nI i ∧ e = nI k ∧ ¬ b < 0 ∧ ¬ r < b ∧ ¬ e < 0 ∧ ¬ r - b < e ∧ ¬ 0 < lg_cmp (b.toInt64 + e.toInt64) r2.toInt64) ∨ b < 0 ∨ (¬ b < 0 ∧ e < 0 ∧ r < b) ∨ (¬ b < 0 ∧ e < 0 ∧ ¬ r < b) ∨ (¬ b < 0 ∧ ¬ e < 0 ∧ r < b ∧ 0 < lg_cmp (b.toInt64 + e.toInt64) r2.toInt64) ∨ (¬ b < 0 ∧ ¬ e < 0 ∧ ¬ r < b ∧ r - b < e ∧ 0 < lg_cmp (b.toInt64 + e.toInt64) r2.toInt64) := by
  subst hr hr2
  have e0 : (0 : Int32).toInt = 0 := by decide
  have em : (nI m).toInt = m := nI_toInt (by omega)
  have hb1 := b.toInt_lt
  have hb2 := b.le_toInt
  have he1 := e.toInt_lt
  have he2 := e.le_toInt
  have hs : (b.toInt64 + e.toInt64).toInt = b.toInt + e.toInt := by
    rw [Int64.toInt_add, Int32.toInt_toInt64, Int32.toInt_toInt64]
    apply Int.bmod_eq_of_le <;> omega
  have hL : 0 < lg_cmp (b.toInt64 + e.toInt64) (nI m).toInt64 ↔ (m : Int) < b.toInt + e.toInt := by
    rw [lcmp_gt, Int64.lt_iff_toInt_lt, hs, Int32.toInt_toInt64, em]
  rw [hL]
  by_cases h1 : b < 0
  · exact Or.inr (Or.inl h1)
  have h1' := h1
  rw [i_lt, e0] at h1'
  have hrb : nI m < b ↔ (m : Int) < b.toInt := by rw [i_lt, em]
  by_cases h2 : e < 0
  · by_cases h3 : nI m < b
    · exact Or.inr (Or.inr (Or.inl ⟨h1, h2, h3⟩))
    · exact Or.inr (Or.inr (Or.inr (Or.inl ⟨h1, h2, h3⟩)))
  have h2' := h2
  rw [i_lt, e0] at h2'
  by_cases h3 : nI m < b
  · exact Or.inr (Or.inr (Or.inr (Or.inr (Or.inl ⟨h1, h2, h3, by rw [hrb] at h3; omega⟩))))
  have h3' := h3
  rw [hrb] at h3'
  have hbn : b = nI b.toInt.toNat := by
    apply Int32.toInt_inj.mp
    rw [nI_toInt (by omega)]
    omega
  have hd : nI m - b < e ↔ (m : Int) < b.toInt + e.toInt := by
    rw [hbn, sb_s m (by omega) _ (by omega) (by omega), i_lt, nI_toInt (by omega), nI_toInt (by omega)]
    omega
  by_cases h4 : nI m - b < e
  · exact Or.inr (Or.inr (Or.inr (Or.inr (Or.inr ⟨h1, h2, h3, h4, hd.mp h4⟩))))
  · have h4' := h4
    rw [hd] at h4'
    refine Or.inl ⟨b.toInt.toNat, e.toInt.toNat, by omega, hbn, ?_, h1, h3, h2, h4, h4'⟩
    apply Int32.toInt_inj.mp
    rw [nI_toInt (by omega)]
    omega
def PLc (b e r : Int32) : Prop := ¬ b < 0 ∧ ¬ r < b ∧ ¬ e < 0 ∧ ¬ r - b < e
def PLm (b e r : Int32) : Prop := ¬ b < 0 ∧ ¬ e < 0 ∧ ¬ 0 < lg_cmp (b.toInt64 + e.toInt64) r.toInt64
theorem pl_e {b e r r2 : Int32} {m : Nat} (hm : m ≤ 4) (hr : r = nI m) (hr2 : r2 = nI m) : ((∃ i k, i + k ≤ m ∧ b = nI i ∧ e = nI k) ∧ PLc b e r ∧ PLm b e r2) ∨ (¬ PLc b e r ∧ ¬ PLm b e r2) := by
  rcases pl_c (b := b) (e := e) hm hr hr2 with ⟨i, k, h1, h2, h3, h4, h5, h6, h7, h8⟩ | h1 | ⟨h1, h2, h3⟩ | ⟨h1, h2, h3⟩ | ⟨h1, h2, h3, h4⟩ | ⟨h1, h2, h3, h4, h5⟩
  · exact Or.inl ⟨⟨i, k, h1, h2, h3⟩, ⟨h4, h5, h6, h7⟩, h4, h6, h8⟩
  · exact Or.inr ⟨fun z => z.1 h1, fun z => z.1 h1⟩
  · exact Or.inr ⟨fun z => z.2.1 h3, fun z => z.2.1 h2⟩
  · exact Or.inr ⟨fun z => z.2.2.1 h2, fun z => z.2.1 h2⟩
  · exact Or.inr ⟨fun z => z.2.1 h3, fun z => z.2.2 h4⟩
  · exact Or.inr ⟨fun z => z.2.2.2 h4, fun z => z.2.2 h5⟩
theorem nd_c {w : qq_w} {N Pn E n : Nat} {a : Int32} (H : iPrg w N Pn E) (hn : n < N) (ea : a = nI n) : (vp_in (a * 10 + 0) 640 ∧ vp_in (a * 10 + 1) 640 ∧ vp_in (a * 10 + 8) 640) ∧ w.1 13 (a * 10 + 0).toNatClampNeg = cX w n 0 ∧ w.1 13 (a * 10 + 1).toNatClampNeg = cX w n 1 ∧ w.1 13 (a * 10 + 8).toNatClampNeg = cX w n 8 ∧ w.1 42 a.toNatClampNeg = cX w n 0 ∧ w.1 43 a.toNatClampNeg = cX w n 1 ∧ w.1 50 a.toNatClampNeg = cX w n 8 := by
  have hN : N ≤ 64 := H.1.1
  have c0 := nI_ml ea (x := 0) (i := 0) rfl (nI_lit 10)
  have c1 := nI_ml ea (x := 1) (i := 1) rfl (nI_lit 10)
  have c8 := nI_ml ea (x := 8) (i := 8) rfl (nI_lit 10)
  have ka : a.toNatClampNeg = n := i_c ea (by omega)
  exact ⟨⟨i_in 640 c0 (by omega) (by decide), i_in 640 c1 (by omega) (by decide), i_in 640 c8 (by omega) (by decide)⟩, by rw [i_c c0 (by omega)], by rw [i_c c1 (by omega)], by rw [i_c c8 (by omega)], by rw [ka, (iP_tell H hn).1], by rw [ka, (iP_tell H hn).2.1], by rw [ka, (iP_tell H hn).2.2.2.2.2.2.2.2.1]⟩
def eW (w : qq_w) : qq_w := qq_ui (qq_ui (qq_ui (qq_ui w 3 7 0) 3 5 0) 3 6 0) 4 6 0
set_option maxHeartbeats 16000000 in
set_option maxRecDepth 100000 in
theorem cp_cls {w : qq_w} {a b c d e : Int32} {P : Option Value → qq_w → Prop} (k1 : ¬ a < 0) (k2 : ¬ w.1 1 10 ≤ a) (m1 : ¬ c < 0) (m2 : ¬ w.1 1 10 ≤ c) (v0 : vp_in (a * 10 + 0) 640) (v1 : vp_in (a * 10 + 1) 640) (v8 : vp_in (a * 10 + 8) 640) (w0 : vp_in (c * 10 + 0) 640) (w1 : vp_in (c * 10 + 1) 640) (w8 : vp_in (c * 10 + 8) 640) (x0 : w.1 13 (a * 10 + 0).toNatClampNeg = w.1 13 (c * 10 + 0).toNatClampNeg) (x9 : w.1 13 (a * 10 + 1).toNatClampNeg = 9) (z9 : w.1 13 (c * 10 + 1).toNatClampNeg = 9) (kg : PLc b e (w.1 13 (a * 10 + 8).toNatClampNeg) → PLc d e (w.1 13 (c * 10 + 8).toNatClampNeg) → (∃ i j k, a * 4 + b = nI i ∧ c * 4 + d = nI j ∧ e = nI k ∧ i + k ≤ 256 ∧ j + k ≤ 256) ∧ P (some (.int 1)) (va_up (eW w).1 14 (va_cpy (w.1 14) (w.1 14) (qn (a * 4 + b)) (qn (c * 4 + d)) (qn e)), (eW w).2)) (kb : ¬ (PLc b e (w.1 13 (a * 10 + 8).toNatClampNeg) ∧ PLc d e (w.1 13 (c * 10 + 8).toNatClampNeg)) → P (some (.int (-3))) (qq_ui (qq_ui w 6 1 2) 32 2 (w.1 32 2 + 1))) : T_X7_copy [.ref 0, .int a, .int b, .int c, .int d, .int e] w P := by
  have f2 := vk2
  conv => whnf
  (repeat ((first | refine br_t (by decide) ?_ | refine br_f (by decide) ?_ | refine br_nt (by decide) ?_ | refine br_nf (by decide) ?_ | refine ⟨_, rfl, ?_⟩ | refine br_t (by with_reducible assumption) ?_ | refine br_f (by with_reducible assumption) ?_ | refine br_nt (by with_reducible assumption) ?_ | refine br_nf (by with_reducible assumption) ?_ | refine ⟨by with_reducible assumption, ?_⟩ | refine ⟨Or.inl rfl, ?_⟩ | refine br_t (by assumption) ?_ | refine br_f (by assumption) ?_ | refine br_nt (by assumption) ?_ | refine br_nf (by assumption) ?_ | refine ⟨by assumption, ?_⟩); (conv => whnf)))
  refine ⟨fun h1 => ?_, fun h1 => ?_⟩
  · conv => whnf
    (repeat ((first | refine br_t (by decide) ?_ | refine br_f (by decide) ?_ | refine br_nt (by decide) ?_ | refine br_nf (by decide) ?_ | refine ⟨_, rfl, ?_⟩ | refine br_t (by with_reducible assumption) ?_ | refine br_f (by with_reducible assumption) ?_ | refine br_nt (by with_reducible assumption) ?_ | refine br_nf (by with_reducible assumption) ?_ | refine ⟨by with_reducible assumption, ?_⟩ | refine ⟨Or.inl rfl, ?_⟩ | refine br_t (by assumption) ?_ | refine br_f (by assumption) ?_ | refine br_nt (by assumption) ?_ | refine br_nf (by assumption) ?_ | refine ⟨by assumption, ?_⟩); (conv => whnf)))
    exact kb (fun z => z.1.1 h1)
  conv => whnf
  (repeat ((first | refine br_t (by decide) ?_ | refine br_f (by decide) ?_ | refine br_nt (by decide) ?_ | refine br_nf (by decide) ?_ | refine ⟨_, rfl, ?_⟩ | refine br_t (by with_reducible assumption) ?_ | refine br_f (by with_reducible assumption) ?_ | refine br_nt (by with_reducible assumption) ?_ | refine br_nf (by with_reducible assumption) ?_ | refine ⟨by with_reducible assumption, ?_⟩ | refine ⟨Or.inl rfl, ?_⟩ | refine br_t (by assumption) ?_ | refine br_f (by assumption) ?_ | refine br_nt (by assumption) ?_ | refine br_nf (by assumption) ?_ | refine ⟨by assumption, ?_⟩); (conv => whnf)))
  refine ⟨fun h2 => ?_, fun h2 => ?_⟩
  · conv => whnf
    (repeat ((first | refine br_t (by decide) ?_ | refine br_f (by decide) ?_ | refine br_nt (by decide) ?_ | refine br_nf (by decide) ?_ | refine ⟨_, rfl, ?_⟩ | refine br_t (by with_reducible assumption) ?_ | refine br_f (by with_reducible assumption) ?_ | refine br_nt (by with_reducible assumption) ?_ | refine br_nf (by with_reducible assumption) ?_ | refine ⟨by with_reducible assumption, ?_⟩ | refine ⟨Or.inl rfl, ?_⟩ | refine br_t (by assumption) ?_ | refine br_f (by assumption) ?_ | refine br_nt (by assumption) ?_ | refine br_nf (by assumption) ?_ | refine ⟨by assumption, ?_⟩); (conv => whnf)))
    exact kb (fun z => z.1.2.1 h2)
  conv => whnf
  (repeat ((first | refine br_t (by decide) ?_ | refine br_f (by decide) ?_ | refine br_nt (by decide) ?_ | refine br_nf (by decide) ?_ | refine ⟨_, rfl, ?_⟩ | refine br_t (by with_reducible assumption) ?_ | refine br_f (by with_reducible assumption) ?_ | refine br_nt (by with_reducible assumption) ?_ | refine br_nf (by with_reducible assumption) ?_ | refine ⟨by with_reducible assumption, ?_⟩ | refine ⟨Or.inl rfl, ?_⟩ | refine br_t (by assumption) ?_ | refine br_f (by assumption) ?_ | refine br_nt (by assumption) ?_ | refine br_nf (by assumption) ?_ | refine ⟨by assumption, ?_⟩); (conv => whnf)))
  refine ⟨fun h3 => ?_, fun h3 => ?_⟩
  · conv => whnf
    (repeat ((first | refine br_t (by decide) ?_ | refine br_f (by decide) ?_ | refine br_nt (by decide) ?_ | refine br_nf (by decide) ?_ | refine ⟨_, rfl, ?_⟩ | refine br_t (by with_reducible assumption) ?_ | refine br_f (by with_reducible assumption) ?_ | refine br_nt (by with_reducible assumption) ?_ | refine br_nf (by with_reducible assumption) ?_ | refine ⟨by with_reducible assumption, ?_⟩ | refine ⟨Or.inl rfl, ?_⟩ | refine br_t (by assumption) ?_ | refine br_f (by assumption) ?_ | refine br_nt (by assumption) ?_ | refine br_nf (by assumption) ?_ | refine ⟨by assumption, ?_⟩); (conv => whnf)))
    exact kb (fun z => z.1.2.2.1 h3)
  conv => whnf
  (repeat ((first | refine br_t (by decide) ?_ | refine br_f (by decide) ?_ | refine br_nt (by decide) ?_ | refine br_nf (by decide) ?_ | refine ⟨_, rfl, ?_⟩ | refine br_t (by with_reducible assumption) ?_ | refine br_f (by with_reducible assumption) ?_ | refine br_nt (by with_reducible assumption) ?_ | refine br_nf (by with_reducible assumption) ?_ | refine ⟨by with_reducible assumption, ?_⟩ | refine ⟨Or.inl rfl, ?_⟩ | refine br_t (by assumption) ?_ | refine br_f (by assumption) ?_ | refine br_nt (by assumption) ?_ | refine br_nf (by assumption) ?_ | refine ⟨by assumption, ?_⟩); (conv => whnf)))
  refine ⟨fun h4 => ?_, fun h4 => ?_⟩
  · conv => whnf
    (repeat ((first | refine br_t (by decide) ?_ | refine br_f (by decide) ?_ | refine br_nt (by decide) ?_ | refine br_nf (by decide) ?_ | refine ⟨_, rfl, ?_⟩ | refine br_t (by with_reducible assumption) ?_ | refine br_f (by with_reducible assumption) ?_ | refine br_nt (by with_reducible assumption) ?_ | refine br_nf (by with_reducible assumption) ?_ | refine ⟨by with_reducible assumption, ?_⟩ | refine ⟨Or.inl rfl, ?_⟩ | refine br_t (by assumption) ?_ | refine br_f (by assumption) ?_ | refine br_nt (by assumption) ?_ | refine br_nf (by assumption) ?_ | refine ⟨by assumption, ?_⟩); (conv => whnf)))
    exact kb (fun z => z.1.2.2.2 h4)
  conv => whnf
  (repeat ((first | refine br_t (by decide) ?_ | refine br_f (by decide) ?_ | refine br_nt (by decide) ?_ | refine br_nf (by decide) ?_ | refine ⟨_, rfl, ?_⟩ | refine br_t (by with_reducible assumption) ?_ | refine br_f (by with_reducible assumption) ?_ | refine br_nt (by with_reducible assumption) ?_ | refine br_nf (by with_reducible assumption) ?_ | refine ⟨by with_reducible assumption, ?_⟩ | refine ⟨Or.inl rfl, ?_⟩ | refine br_t (by assumption) ?_ | refine br_f (by assumption) ?_ | refine br_nt (by assumption) ?_ | refine br_nf (by assumption) ?_ | refine ⟨by assumption, ?_⟩); (conv => whnf)))
  refine ⟨fun h5 => ?_, fun h5 => ?_⟩
  · conv => whnf
    (repeat ((first | refine br_t (by decide) ?_ | refine br_f (by decide) ?_ | refine br_nt (by decide) ?_ | refine br_nf (by decide) ?_ | refine ⟨_, rfl, ?_⟩ | refine br_t (by with_reducible assumption) ?_ | refine br_f (by with_reducible assumption) ?_ | refine br_nt (by with_reducible assumption) ?_ | refine br_nf (by with_reducible assumption) ?_ | refine ⟨by with_reducible assumption, ?_⟩ | refine ⟨Or.inl rfl, ?_⟩ | refine br_t (by assumption) ?_ | refine br_f (by assumption) ?_ | refine br_nt (by assumption) ?_ | refine br_nf (by assumption) ?_ | refine ⟨by assumption, ?_⟩); (conv => whnf)))
    exact kb (fun z => z.2.1 h5)
  conv => whnf
  (repeat ((first | refine br_t (by decide) ?_ | refine br_f (by decide) ?_ | refine br_nt (by decide) ?_ | refine br_nf (by decide) ?_ | refine ⟨_, rfl, ?_⟩ | refine br_t (by with_reducible assumption) ?_ | refine br_f (by with_reducible assumption) ?_ | refine br_nt (by with_reducible assumption) ?_ | refine br_nf (by with_reducible assumption) ?_ | refine ⟨by with_reducible assumption, ?_⟩ | refine ⟨Or.inl rfl, ?_⟩ | refine br_t (by assumption) ?_ | refine br_f (by assumption) ?_ | refine br_nt (by assumption) ?_ | refine br_nf (by assumption) ?_ | refine ⟨by assumption, ?_⟩); (conv => whnf)))
  refine ⟨fun h6 => ?_, fun h6 => ?_⟩
  · conv => whnf
    (repeat ((first | refine br_t (by decide) ?_ | refine br_f (by decide) ?_ | refine br_nt (by decide) ?_ | refine br_nf (by decide) ?_ | refine ⟨_, rfl, ?_⟩ | refine br_t (by with_reducible assumption) ?_ | refine br_f (by with_reducible assumption) ?_ | refine br_nt (by with_reducible assumption) ?_ | refine br_nf (by with_reducible assumption) ?_ | refine ⟨by with_reducible assumption, ?_⟩ | refine ⟨Or.inl rfl, ?_⟩ | refine br_t (by assumption) ?_ | refine br_f (by assumption) ?_ | refine br_nt (by assumption) ?_ | refine br_nf (by assumption) ?_ | refine ⟨by assumption, ?_⟩); (conv => whnf)))
    exact kb (fun z => z.2.2.1 h6)
  conv => whnf
  (repeat ((first | refine br_t (by decide) ?_ | refine br_f (by decide) ?_ | refine br_nt (by decide) ?_ | refine br_nf (by decide) ?_ | refine ⟨_, rfl, ?_⟩ | refine br_t (by with_reducible assumption) ?_ | refine br_f (by with_reducible assumption) ?_ | refine br_nt (by with_reducible assumption) ?_ | refine br_nf (by with_reducible assumption) ?_ | refine ⟨by with_reducible assumption, ?_⟩ | refine ⟨Or.inl rfl, ?_⟩ | refine br_t (by assumption) ?_ | refine br_f (by assumption) ?_ | refine br_nt (by assumption) ?_ | refine br_nf (by assumption) ?_ | refine ⟨by assumption, ?_⟩); (conv => whnf)))
  refine ⟨fun h7 => ?_, fun h7 => ?_⟩
  · conv => whnf
    (repeat ((first | refine br_t (by decide) ?_ | refine br_f (by decide) ?_ | refine br_nt (by decide) ?_ | refine br_nf (by decide) ?_ | refine ⟨_, rfl, ?_⟩ | refine br_t (by with_reducible assumption) ?_ | refine br_f (by with_reducible assumption) ?_ | refine br_nt (by with_reducible assumption) ?_ | refine br_nf (by with_reducible assumption) ?_ | refine ⟨by with_reducible assumption, ?_⟩ | refine ⟨Or.inl rfl, ?_⟩ | refine br_t (by assumption) ?_ | refine br_f (by assumption) ?_ | refine br_nt (by assumption) ?_ | refine br_nf (by assumption) ?_ | refine ⟨by assumption, ?_⟩); (conv => whnf)))
    exact kb (fun z => z.2.2.2.2 h7)
  conv => whnf
  (repeat ((first | refine br_t (by decide) ?_ | refine br_f (by decide) ?_ | refine br_nt (by decide) ?_ | refine br_nf (by decide) ?_ | refine ⟨_, rfl, ?_⟩ | refine br_t (by with_reducible assumption) ?_ | refine br_f (by with_reducible assumption) ?_ | refine br_nt (by with_reducible assumption) ?_ | refine br_nf (by with_reducible assumption) ?_ | refine ⟨by with_reducible assumption, ?_⟩ | refine ⟨Or.inl rfl, ?_⟩ | refine br_t (by assumption) ?_ | refine br_f (by assumption) ?_ | refine br_nt (by assumption) ?_ | refine br_nf (by assumption) ?_ | refine ⟨by assumption, ?_⟩); (conv => whnf)))
  obtain ⟨g1, g2⟩ := kg ⟨h1, h2, h3, h4⟩ ⟨h5, h6, h3, h7⟩
  refine ⟨g1, ?_⟩
  conv => whnf
  exact g2
