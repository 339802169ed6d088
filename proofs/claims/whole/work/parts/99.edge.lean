theorem lb_or (x y : Int64) (i : Nat) : lb (x ||| y) i = (lb x i || lb y i) := BitVec.getLsbD_or
theorem lb_shl (n : Nat) (hn : n < 64) (x : Int64) {i : Nat} (hi : i < 64) : lb (x <<< ((nI n).toInt64 &&& 63)) i = (decide (n ≤ i) && lb x (i - n)) := by
  unfold lb
  rw [Int64.toBitVec_shiftLeft]
  show (x.toBitVec <<< (((nI n).toInt64 &&& 63).toBitVec.smod 64).toNat).getLsbD i = _
  rw [s_ll n hn, BitVec.getLsbD_shiftLeft]
  rcases Nat.lt_or_ge i n with h | h
  · simp [h, Nat.not_le.mpr h]
  · simp [hi, h, Nat.not_lt.mpr h]
theorem lb_one {n : Nat} (hn : n < 64) {i : Nat} (hi : i < 64) : lb ((1 : Int64) <<< ((nI n).toInt64 &&& 63)) i = decide (i = n) := by
  rw [lb_shl n hn 1 hi, lb_1]
  by_cases h1 : i = n
  · subst h1
    simp
  · have : ¬ (n ≤ i ∧ i - n = 0) := by omega
    simp only [h1, decide_false]
    rw [← Bool.decide_and]
    exact decide_eq_false this
theorem find2_cg {f g f' g' : Nat → Int32} {a b : Int32} : ∀ m i, (∀ k, i ≤ k → k < i + m → f k = f' k ∧ g k = g' k) → qq_find2 f g a b m i = qq_find2 f' g' a b m i
  | 0, _, _ => rfl
  | m + 1, i, h => by
    obtain ⟨h1, h2⟩ := h i (by omega) (by omega)
    show (if f i = a ∧ g i = b then nI i else qq_find2 f g a b m (i + 1)) = (if f' i = a ∧ g' i = b then nI i else qq_find2 f' g' a b m (i + 1))
    rw [h1, h2, find2_cg m (i + 1) (fun k hk1 hk2 => h k (by omega) (by omega))]
theorem iPrg_edge {w w2 : qq_w} {N Pn E n m : Nat} (H : iPrg w N Pn E) (hE : E < 120) (hn : n < N) (hm : m < N) (h0 : cX w n 0 = cX w m 0) (h1 : ¬ cX w n 1 = 1) (h9 : ¬ cX w n 1 = 9) (h00 : ¬ cX w m 1 = 0) (h10 : ¬ cX w m 1 = 10)
    (e15 : w2.1 15 = upd (w.1 15) E (nI n)) (e16 : w2.1 16 = upd (w.1 16) E (nI m)) (e52 : w2.1 52 = upd (w.1 52) E (nI n)) (e53 : w2.1 53 = upd (w.1 53) E (nI m)) (e17 : w2.2 17 = vp_updL (w.2 17) n (w.2 17 n ||| ((1 : Int64) <<< ((nI m).toInt64 &&& 63)))) (e1 : w2.1 1 = upd (w.1 1) 11 (nI (E + 1))) (e820 : w2.1 8 20 = nI (E + 1)) (hq : ∀ q, q ∈ pgI → q ∉ [1, 15, 16, 52, 53] → w2.1 q = w.1 q) (h8 : ∀ j, j ∈ pg8 → j ≠ 20 → w2.1 8 j = w.1 8 j) : iPrg w2 N Pn (E + 1) := by
  have hN : N ≤ 64 := H.1.1
  have hs : sPg w (va_up (va_up (va_up (va_up (va_up (va_up w2.1 1 (w.1 1)) 15 (w.1 15)) 16 (w.1 16)) 52 (w.1 52)) 53 (w.1 53)) 8 (upd (w2.1 8) 20 (w.1 8 20)), va_up w2.2 17 (w.2 17)) := by
    refine ⟨fun q hq' => ?_, fun j hj => ?_, rfl⟩
    · by_cases z : q ∈ [1, 15, 16, 52, 53]
      · simp only [List.mem_cons, List.not_mem_nil, or_false] at z
        rcases z with rfl | rfl | rfl | rfl | rfl <;> rfl
      · have z8 : q ≠ 8 := fun y => by subst y; revert hq'; decide
        have z1 : q ≠ 1 := fun y => z (by simp [y])
        have z15 : q ≠ 15 := fun y => z (by simp [y])
        have z16 : q ≠ 16 := fun y => z (by simp [y])
        have z52 : q ≠ 52 := fun y => z (by simp [y])
        have z53 : q ≠ 53 := fun y => z (by simp [y])
        simp only [va_up, z8, z1, z15, z16, z52, z53, if_false]
        exact hq q hq' z
    · show upd (w2.1 8) 20 (w.1 8 20) j = w.1 8 j
      rw [upd_at]
      by_cases z : j = 20
      · rw [if_pos z, z]
      · rw [if_neg z]
        exact h8 j hj z
  obtain ⟨a1, a2, a3, a4, a5, a6, a7⟩ := iPrg_sp hs H
  obtain ⟨x1, x2, x3, e10, e88, e9, e82, e11, e20, e12⟩ := H.1
  have hX : cX w2 = cX w := by
    funext i j
    show w2.1 13 _ = w.1 13 _
    rw [hq 13 (by decide) (by decide)]
  have hedge : ∀ k, k < E + 1 → iEdge w2 N k := by
    intro k hk
    unfold iEdge
    rw [e15, e16, e52, e53, hX]
    simp only [upd_at]
    by_cases z : k = E
    · subst z
      refine ⟨n, m, hn, hm, ?_⟩
      simp only [if_pos]
      exact ⟨trivial, trivial, trivial, trivial, h0, h1, h9, h00, h10⟩
    · obtain ⟨a, b, g⟩ := H.2.2.2.1 k (by omega)
      refine ⟨a, b, ?_⟩
      simp only [if_neg z]
      exact g
  refine ⟨⟨x1, x2, by omega, ?_, ?_, ?_, ?_, ?_, e820, ?_⟩, a2, a3, hedge, fun i t hi => ?_, a6, a7⟩
  · rw [e1]
    exact e10
  · rw [h8 8 (by decide) (by decide)]
    exact e88
  · rw [e1]
    exact e9
  · rw [h8 2 (by decide) (by decide)]
    exact e82
  · rw [e1]
    rfl
  · rw [h8 9 (by decide) (by decide), e1]
    exact e12
  · have old := H.2.2.2.2.1 i t hi
    rw [e15, e16, e17, updL_at]
    have key : (∃ k, k < E + 1 ∧ upd (w.1 15) E (nI n) k = nI i ∧ upd (w.1 16) E (nI m) k = nI t) ↔ ((∃ k, k < E ∧ w.1 15 k = nI i ∧ w.1 16 k = nI t) ∨ (nI n = nI i ∧ nI m = nI t)) := by
      constructor
      · rintro ⟨k, hk, y1, y2⟩
        rw [upd_at] at y1 y2
        by_cases z : k = E
        · rw [if_pos z] at y1 y2
          exact Or.inr ⟨y1, y2⟩
        · rw [if_neg z] at y1 y2
          exact Or.inl ⟨k, by omega, y1, y2⟩
      · rintro (⟨k, hk, y1, y2⟩ | ⟨y1, y2⟩)
        · exact ⟨k, by omega, by rw [upd_at, if_neg (by omega)]; exact y1, by rw [upd_at, if_neg (by omega)]; exact y2⟩
        · exact ⟨E, by omega, by rw [upd_at, if_pos rfl]; exact y1, by rw [upd_at, if_pos rfl]; exact y2⟩
    rw [key]
    by_cases z : i = n
    · subst z
      rw [if_pos rfl, lb_or, Bool.or_eq_true, old]
      constructor
      · rintro (⟨y1, y2⟩ | y)
        · exact ⟨y1, Or.inl y2⟩
        · have ht : t < 64 := by
            rcases Nat.lt_or_ge t 64 with y1 | y1
            · exact y1
            · rw [lb_big y1] at y
              cases y
          rw [lb_one (by omega) ht, decide_eq_true_eq] at y
          exact ⟨ht, Or.inr ⟨rfl, by rw [y]⟩⟩
      · rintro ⟨y1, y2 | ⟨-, y2⟩⟩
        · exact Or.inl ⟨y1, y2⟩
        · refine Or.inr ?_
          rw [lb_one (by omega) y1, decide_eq_true_eq]
          exact (nI_inj (by omega) (by omega) y2).symm
    · rw [if_neg z, old]
      refine and_congr_right fun _ => ⟨Or.inl, fun y => y.elim id (fun y => absurd (nI_inj (by omega) (by omega) y.1).symm z)⟩
theorem lo_edge (a b : Int32) : lwI Inv T_X7_edge T_X8_edge [.int a, .int b] := by
  intro w h
  obtain ⟨N, Pn, E, H, hF, hT, hS⟩ := id h
  obtain ⟨hN, hP, hE, e10, e88, e9, e82, e11, e820, -⟩ := H.1
  have vE : vp_in (w.1 1 11) 121 := i_in 121 e11 (by omega) (by decide)
  have qE : qn (w.1 1 11) = E := (iP_P H).2.2.2.2.1
  rcases arg_c (a := a) (by omega) e10 e88 with ⟨n, hn, ea, k1, k2, k3⟩ | ⟨k1, k3⟩ | ⟨k1, k2, k3⟩
  · have hv : vp_in a 64 := i_in 64 ea (by omega) (by decide)
    rcases arg_c (a := b) (by omega) e10 e88 with ⟨m, hm, eb, m1, m2, m3⟩ | ⟨m1, m3⟩ | ⟨m1, m2, m3⟩
    · have hv2 : vp_in b 64 := i_in 64 eb (by omega) (by decide)
      have ka : a.toNatClampNeg = n := i_c ea (by omega)
      have kb : b.toNatClampNeg = m := i_c eb (by omega)
      have c0 := nI_ml ea (x := 0) (i := 0) rfl (nI_lit 10)
      have c1 := nI_ml ea (x := 1) (i := 1) rfl (nI_lit 10)
      have d0 := nI_ml eb (x := 0) (i := 0) rfl (nI_lit 10)
      have d1 := nI_ml eb (x := 1) (i := 1) rfl (nI_lit 10)
      have v0 : vp_in (a * 10 + 0) 640 := i_in 640 c0 (by omega) (by decide)
      have v1 : vp_in (a * 10 + 1) 640 := i_in 640 c1 (by omega) (by decide)
      have w0 : vp_in (b * 10 + 0) 640 := i_in 640 d0 (by omega) (by decide)
      have w1 : vp_in (b * 10 + 1) 640 := i_in 640 d1 (by omega) (by decide)
      have s0 : w.1 13 (a * 10 + 0).toNatClampNeg = cX w n 0 := by rw [i_c c0 (by omega)]
      have s1 : w.1 13 (a * 10 + 1).toNatClampNeg = cX w n 1 := by rw [i_c c1 (by omega)]
      have r0 : w.1 13 (b * 10 + 0).toNatClampNeg = cX w m 0 := by rw [i_c d0 (by omega)]
      have r1 : w.1 13 (b * 10 + 1).toNatClampNeg = cX w m 1 := by rw [i_c d1 (by omega)]
      have t0 : w.1 42 a.toNatClampNeg = cX w n 0 := by rw [ka, (iP_tell H hn).1]
      have t1 : w.1 43 a.toNatClampNeg = cX w n 1 := by rw [ka, (iP_tell H hn).2.1]
      have u0 : w.1 42 b.toNatClampNeg = cX w m 0 := by rw [kb, (iP_tell H hm).1]
      have u1 : w.1 43 b.toNatClampNeg = cX w m 1 := by rw [kb, (iP_tell H hm).2.1]
      by_cases g0 : cX w n 0 = cX w m 0
      · have x0 : w.1 13 (a * 10 + 0).toNatClampNeg = w.1 13 (b * 10 + 0).toNatClampNeg := by rw [s0, r0, g0]
        have y0 : w.1 42 a.toNatClampNeg = w.1 42 b.toNatClampNeg := by rw [t0, u0, g0]
        by_cases g1 : cX w n 1 = 1
        · have x1 : w.1 13 (a * 10 + 1).toNatClampNeg = 1 := s1.trans g1
          have y1 : w.1 43 a.toNatClampNeg = 1 := t1.trans g1
          ((conv => whnf); (repeat ((first | refine br_t (by decide) ?_ | refine br_f (by decide) ?_ | refine br_nt (by decide) ?_ | refine br_nf (by decide) ?_ | refine ⟨_, rfl, ?_⟩ | refine br_t (by with_reducible assumption) ?_ | refine br_f (by with_reducible assumption) ?_ | refine br_nt (by with_reducible assumption) ?_ | refine br_nf (by with_reducible assumption) ?_ | refine ⟨by with_reducible assumption, ?_⟩ | refine ⟨Or.inl rfl, ?_⟩ | refine br_t (by assumption) ?_ | refine br_f (by assumption) ?_ | refine br_nt (by assumption) ?_ | refine br_nf (by assumption) ?_ | refine ⟨by assumption, ?_⟩); (conv => whnf))); exact ⟨rfl, h⟩)
        by_cases g9 : cX w n 1 = 9
        · have x1 : ¬ w.1 13 (a * 10 + 1).toNatClampNeg = 1 := fun z => g1 (s1.symm.trans z)
          have y1 : ¬ w.1 43 a.toNatClampNeg = 1 := fun z => g1 (t1.symm.trans z)
          have x9 : w.1 13 (a * 10 + 1).toNatClampNeg = 9 := s1.trans g9
          have y9 : w.1 43 a.toNatClampNeg = 9 := t1.trans g9
          ((conv => whnf); (repeat ((first | refine br_t (by decide) ?_ | refine br_f (by decide) ?_ | refine br_nt (by decide) ?_ | refine br_nf (by decide) ?_ | refine ⟨_, rfl, ?_⟩ | refine br_t (by with_reducible assumption) ?_ | refine br_f (by with_reducible assumption) ?_ | refine br_nt (by with_reducible assumption) ?_ | refine br_nf (by with_reducible assumption) ?_ | refine ⟨by with_reducible assumption, ?_⟩ | refine ⟨Or.inl rfl, ?_⟩ | refine br_t (by assumption) ?_ | refine br_f (by assumption) ?_ | refine br_nt (by assumption) ?_ | refine br_nf (by assumption) ?_ | refine ⟨by assumption, ?_⟩); (conv => whnf))); exact ⟨rfl, h⟩)
        have x1 : ¬ w.1 13 (a * 10 + 1).toNatClampNeg = 1 := fun z => g1 (s1.symm.trans z)
        have y1 : ¬ w.1 43 a.toNatClampNeg = 1 := fun z => g1 (t1.symm.trans z)
        have x9 : ¬ w.1 13 (a * 10 + 1).toNatClampNeg = 9 := fun z => g9 (s1.symm.trans z)
        have y9 : ¬ w.1 43 a.toNatClampNeg = 9 := fun z => g9 (t1.symm.trans z)
        by_cases g00 : cX w m 1 = 0
        · have x00 : w.1 13 (b * 10 + 1).toNatClampNeg = 0 := r1.trans g00
          have y00 : w.1 43 b.toNatClampNeg = 0 := u1.trans g00
          ((conv => whnf); (repeat ((first | refine br_t (by decide) ?_ | refine br_f (by decide) ?_ | refine br_nt (by decide) ?_ | refine br_nf (by decide) ?_ | refine ⟨_, rfl, ?_⟩ | refine br_t (by with_reducible assumption) ?_ | refine br_f (by with_reducible assumption) ?_ | refine br_nt (by with_reducible assumption) ?_ | refine br_nf (by with_reducible assumption) ?_ | refine ⟨by with_reducible assumption, ?_⟩ | refine ⟨Or.inl rfl, ?_⟩ | refine br_t (by assumption) ?_ | refine br_f (by assumption) ?_ | refine br_nt (by assumption) ?_ | refine br_nf (by assumption) ?_ | refine ⟨by assumption, ?_⟩); (conv => whnf))); exact ⟨rfl, h⟩)
        have x00 : ¬ w.1 13 (b * 10 + 1).toNatClampNeg = 0 := fun z => g00 (r1.symm.trans z)
        have y00 : ¬ w.1 43 b.toNatClampNeg = 0 := fun z => g00 (u1.symm.trans z)
        by_cases g10 : cX w m 1 = 10
        · have x10 : w.1 13 (b * 10 + 1).toNatClampNeg = 10 := r1.trans g10
          have y10 : w.1 43 b.toNatClampNeg = 10 := u1.trans g10
          ((conv => whnf); (repeat ((first | refine br_t (by decide) ?_ | refine br_f (by decide) ?_ | refine br_nt (by decide) ?_ | refine br_nf (by decide) ?_ | refine ⟨_, rfl, ?_⟩ | refine br_t (by with_reducible assumption) ?_ | refine br_f (by with_reducible assumption) ?_ | refine br_nt (by with_reducible assumption) ?_ | refine br_nf (by with_reducible assumption) ?_ | refine ⟨by with_reducible assumption, ?_⟩ | refine ⟨Or.inl rfl, ?_⟩ | refine br_t (by assumption) ?_ | refine br_f (by assumption) ?_ | refine br_nt (by assumption) ?_ | refine br_nf (by assumption) ?_ | refine ⟨by assumption, ?_⟩); (conv => whnf))); exact ⟨rfl, h⟩)
        have x10 : ¬ w.1 13 (b * 10 + 1).toNatClampNeg = 10 := fun z => g10 (r1.symm.trans z)
        have y10 : ¬ w.1 43 b.toNatClampNeg = 10 := fun z => g10 (u1.symm.trans z)
        have ef : qq_find2 (w.1 52) (w.1 53) a b E 0 = qq_find2 (w.1 15) (w.1 16) a b (qn (w.1 1 11)) 0 := by
          rw [qE]
          refine find2_cg E 0 (fun k _ hk => ?_)
          obtain ⟨x, y, -, -, z1, z2, z3, z4, -⟩ := H.2.2.2.1 k (by omega)
          exact ⟨by rw [z1, z2], by rw [z3, z4]⟩
        by_cases hf : qq_find2 (w.1 15) (w.1 16) a b (qn (w.1 1 11)) 0 = -5
        · have hf2 : qq_find2 (w.1 52) (w.1 53) a b E 0 = -5 := ef.trans hf
          by_cases hfull : E = 120
          · have xf : ¬ w.1 1 11 < 120 := by
              rw [e11, hfull]
              decide
            conv => whnf
            (repeat ((first | refine br_t (by decide) ?_ | refine br_f (by decide) ?_ | refine br_nt (by decide) ?_ | refine br_nf (by decide) ?_ | refine ⟨_, rfl, ?_⟩ | refine br_t (by with_reducible assumption) ?_ | refine br_f (by with_reducible assumption) ?_ | refine br_nt (by with_reducible assumption) ?_ | refine br_nf (by with_reducible assumption) ?_ | refine ⟨by with_reducible assumption, ?_⟩ | refine ⟨Or.inl rfl, ?_⟩ | refine br_t (by assumption) ?_ | refine br_f (by assumption) ?_ | refine br_nt (by assumption) ?_ | refine br_nf (by assumption) ?_ | refine ⟨by assumption, ?_⟩); (conv => whnf)))
            exact ⟨rfl, rfl, a, b, E, ⟨rfl, rfl, rfl, rfl, trivial⟩, e820, hE, fun z => absurd hf2 z, fun _ _ => ⟨rfl, h⟩, fun _ z => absurd hfull (by omega)⟩
          · have xf : w.1 1 11 < 120 := by
              have e120 : (120 : Int32).toInt = 120 := by decide
              rw [e11, i_lt, nI_toInt (by omega), e120]
              omega
            have vE2 : vp_in (w.1 1 11) 120 := i_in 120 e11 (by omega) (by decide)
            have cE : (w.1 1 11).toNatClampNeg = E := qE
            conv => whnf
            (repeat ((first | refine br_t (by decide) ?_ | refine br_f (by decide) ?_ | refine br_nt (by decide) ?_ | refine br_nf (by decide) ?_ | refine ⟨_, rfl, ?_⟩ | refine br_t (by with_reducible assumption) ?_ | refine br_f (by with_reducible assumption) ?_ | refine br_nt (by with_reducible assumption) ?_ | refine br_nf (by with_reducible assumption) ?_ | refine ⟨by with_reducible assumption, ?_⟩ | refine ⟨Or.inl rfl, ?_⟩ | refine br_t (by assumption) ?_ | refine br_f (by assumption) ?_ | refine br_nt (by assumption) ?_ | refine br_nf (by assumption) ?_ | refine ⟨by assumption, ?_⟩); (conv => whnf)))
            refine ⟨rfl, rfl, a, b, E, ⟨rfl, rfl, rfl, rfl, trivial⟩, e820, hE, fun z => absurd hf2 z, fun _ z => absurd z hfull, fun _ _ => ⟨?_, Inv_end (w := w) (N := N) (Pn := Pn) (E := E + 1) hF hT hS.1 ?_ rfl rfl rfl rfl rfl rfl rfl rfl rfl rfl rfl rfl rfl rfl rfl rfl rfl rfl rfl rfl⟩⟩
            · show some (Value.int (nI E)) = some (Value.int (w.1 1 11))
              rw [e11]
            · refine iPrg_edge (n := n) (m := m) H (by omega) hn hm g0 g1 g9 g00 g10 (by rw [← ea, ← cE]; rfl) (by rw [← eb, ← cE]; rfl) (by rw [← ea]; rfl) (by rw [← eb]; rfl) (by rw [← eb, ← ka]; rfl) ?_ rfl (fun q hq z => ?_) (fun j hj z => ?_)
              · show upd (w.1 1) 11 (w.1 1 11 + 1) = _
                rw [e11, nI_1]
              · simp only [pgI, List.mem_cons, List.not_mem_nil, or_false] at hq
                rcases hq with rfl | rfl | rfl | rfl | rfl | rfl | rfl | rfl | rfl | rfl | rfl | rfl | rfl | rfl | rfl | rfl | rfl | rfl | rfl | rfl | rfl | rfl | rfl | rfl | rfl | rfl | rfl | rfl | rfl <;> first | rfl | exact absurd (by decide) z
              · simp only [pg8, List.mem_cons, List.not_mem_nil, or_false] at hj
                rcases hj with rfl | rfl | rfl | rfl | rfl | rfl <;> first | rfl | exact absurd rfl z
        · have hf2 : ¬ qq_find2 (w.1 52) (w.1 53) a b E 0 = -5 := fun z => hf (ef.symm.trans z)
          conv => whnf
          (repeat ((first | refine br_t (by decide) ?_ | refine br_f (by decide) ?_ | refine br_nt (by decide) ?_ | refine br_nf (by decide) ?_ | refine ⟨_, rfl, ?_⟩ | refine br_t (by with_reducible assumption) ?_ | refine br_f (by with_reducible assumption) ?_ | refine br_nt (by with_reducible assumption) ?_ | refine br_nf (by with_reducible assumption) ?_ | refine ⟨by with_reducible assumption, ?_⟩ | refine ⟨Or.inl rfl, ?_⟩ | refine br_t (by assumption) ?_ | refine br_f (by assumption) ?_ | refine br_nt (by assumption) ?_ | refine br_nf (by assumption) ?_ | refine ⟨by assumption, ?_⟩); (conv => whnf)))
          exact ⟨rfl, rfl, a, b, E, ⟨rfl, rfl, rfl, rfl, trivial⟩, e820, hE, fun _ => ⟨by rw [ef], h⟩, fun z => absurd z hf2, fun z => absurd z hf2⟩
      · have x0 : ¬ w.1 13 (a * 10 + 0).toNatClampNeg = w.1 13 (b * 10 + 0).toNatClampNeg := fun z => g0 (s0.symm.trans (z.trans r0))
        have y0 : ¬ w.1 42 a.toNatClampNeg = w.1 42 b.toNatClampNeg := fun z => g0 (t0.symm.trans (z.trans u0))
        ((conv => whnf); (repeat ((first | refine br_t (by decide) ?_ | refine br_f (by decide) ?_ | refine br_nt (by decide) ?_ | refine br_nf (by decide) ?_ | refine ⟨_, rfl, ?_⟩ | refine br_t (by with_reducible assumption) ?_ | refine br_f (by with_reducible assumption) ?_ | refine br_nt (by with_reducible assumption) ?_ | refine br_nf (by with_reducible assumption) ?_ | refine ⟨by with_reducible assumption, ?_⟩ | refine ⟨Or.inl rfl, ?_⟩ | refine br_t (by assumption) ?_ | refine br_f (by assumption) ?_ | refine br_nt (by assumption) ?_ | refine br_nf (by assumption) ?_ | refine ⟨by assumption, ?_⟩); (conv => whnf))); exact ⟨rfl, h⟩)
    · ((conv => whnf); (repeat ((first | refine br_t (by decide) ?_ | refine br_f (by decide) ?_ | refine br_nt (by decide) ?_ | refine br_nf (by decide) ?_ | refine ⟨_, rfl, ?_⟩ | refine br_t (by with_reducible assumption) ?_ | refine br_f (by with_reducible assumption) ?_ | refine br_nt (by with_reducible assumption) ?_ | refine br_nf (by with_reducible assumption) ?_ | refine ⟨by with_reducible assumption, ?_⟩ | refine ⟨Or.inl rfl, ?_⟩ | refine br_t (by assumption) ?_ | refine br_f (by assumption) ?_ | refine br_nt (by assumption) ?_ | refine br_nf (by assumption) ?_ | refine ⟨by assumption, ?_⟩); (conv => whnf))); exact ⟨rfl, h⟩)
    · ((conv => whnf); (repeat ((first | refine br_t (by decide) ?_ | refine br_f (by decide) ?_ | refine br_nt (by decide) ?_ | refine br_nf (by decide) ?_ | refine ⟨_, rfl, ?_⟩ | refine br_t (by with_reducible assumption) ?_ | refine br_f (by with_reducible assumption) ?_ | refine br_nt (by with_reducible assumption) ?_ | refine br_nf (by with_reducible assumption) ?_ | refine ⟨by with_reducible assumption, ?_⟩ | refine ⟨Or.inl rfl, ?_⟩ | refine br_t (by assumption) ?_ | refine br_f (by assumption) ?_ | refine br_nt (by assumption) ?_ | refine br_nf (by assumption) ?_ | refine ⟨by assumption, ?_⟩); (conv => whnf))); exact ⟨rfl, h⟩)
  · ((conv => whnf); (repeat ((first | refine br_t (by decide) ?_ | refine br_f (by decide) ?_ | refine br_nt (by decide) ?_ | refine br_nf (by decide) ?_ | refine ⟨_, rfl, ?_⟩ | refine br_t (by with_reducible assumption) ?_ | refine br_f (by with_reducible assumption) ?_ | refine br_nt (by with_reducible assumption) ?_ | refine br_nf (by with_reducible assumption) ?_ | refine ⟨by with_reducible assumption, ?_⟩ | refine ⟨Or.inl rfl, ?_⟩ | refine br_t (by assumption) ?_ | refine br_f (by assumption) ?_ | refine br_nt (by assumption) ?_ | refine br_nf (by assumption) ?_ | refine ⟨by assumption, ?_⟩); (conv => whnf))); exact ⟨rfl, h⟩)
  · ((conv => whnf); (repeat ((first | refine br_t (by decide) ?_ | refine br_f (by decide) ?_ | refine br_nt (by decide) ?_ | refine br_nf (by decide) ?_ | refine ⟨_, rfl, ?_⟩ | refine br_t (by with_reducible assumption) ?_ | refine br_f (by with_reducible assumption) ?_ | refine br_nt (by with_reducible assumption) ?_ | refine br_nf (by with_reducible assumption) ?_ | refine ⟨by with_reducible assumption, ?_⟩ | refine ⟨Or.inl rfl, ?_⟩ | refine br_t (by assumption) ?_ | refine br_f (by assumption) ?_ | refine br_nt (by assumption) ?_ | refine br_nf (by assumption) ?_ | refine ⟨by assumption, ?_⟩); (conv => whnf))); exact ⟨rfl, h⟩)
