theorem iPrg_row {w w2 : qq_w} {N Pn E : Nat} (H : iPrg w N Pn E) (hr : iRows w2) (hq : ∀ q, q ∈ pgI → q ≠ 18 → q ≠ 54 → w2.1 q = w.1 q) (h8 : ∀ j, j ∈ pg8 → w2.1 8 j = w.1 8 j) (h17 : w2.2 17 = w.2 17) : iPrg w2 N Pn E := by
  have hs : sPg w (va_up (va_up w2.1 18 (w.1 18)) 54 (w.1 54), w2.2) := by
    refine ⟨fun q hq' => ?_, fun j hj => h8 j hj, h17⟩
    show va_up (va_up w2.1 18 (w.1 18)) 54 (w.1 54) q = w.1 q
    by_cases z1 : q = 54
    · subst z1
      rfl
    · by_cases z2 : q = 18
      · subst z2
        rfl
      · simp only [va_up, z1, z2, if_false]
        exact hq q hq' z2 z1
  obtain ⟨a1, a2, a3, a4, a5, a6, a7⟩ := iPrg_sp hs H
  exact ⟨a1, a2, a3, a4, a5, hr, a7⟩
theorem iRows_up {w w2 : qq_w} {i b : Nat} {x : Int32} (H : iRows w) (hb : b < 8192) (hx : x = if i % 13 = 0 then nI b ||| 1 else nI b) (e18 : w2.1 18 = upd (w.1 18) i x) (e54 : w2.1 54 = upd (w.1 54) i (nI b)) : iRows w2 := by
  intro k hk
  rw [e18, e54, upd_at, upd_at]
  by_cases z : k = i
  · subst z
    rw [if_pos rfl, if_pos rfl]
    refine Or.inr ⟨b, hb, rfl, ?_⟩
    rw [hx]
    by_cases y : k % 13 = 0
    · rw [if_pos y, if_pos (decide_eq_true y)]
    · rw [if_neg y, if_neg (by rw [decide_eq_true_eq]; exact y)]
  · rw [if_neg z, if_neg z]
    exact H k hk
theorem lo_zero (a b d : Int32) : lwI Inv T_X7_zero T_X8_zero [.int a, .int b, .int d] := by
  intro w h
  obtain ⟨N, Pn, E, H, hF, hT, hS⟩ := id h
  obtain ⟨hN, hP, hE, e10, e88, e9, e82, e11, e820, -⟩ := H.1
  rcases arg_c (a := a) (by omega) e10 e88 with ⟨n, hn, ea, k1, k2, k3⟩ | ⟨k1, k3⟩ | ⟨k1, k2, k3⟩
  · have hv : vp_in a 64 := i_in 64 ea (by omega) (by decide)
    rcases arg_k (a := b) 2 (by omega) with ⟨p, hp, eb, y1, y2, y3⟩ | ⟨y1, y3⟩ | ⟨y1, y2, y3⟩
    · rcases arg_k (a := d) 8191 (by omega) with ⟨q, hq, ed, u1, u2, u3⟩ | ⟨u1, u3⟩ | ⟨u1, u2, u3⟩
      · skip
        have hv3 : vp_in b 3 := i_in 3 eb (by omega) (by decide)
        have c1 := nI_ml ea (x := 1) (i := 1) rfl (nI_lit 10)
        have v1 : vp_in (a * 10 + 1) 640 := i_in 640 c1 (by omega) (by decide)
        have ka : a.toNatClampNeg = n := i_c ea (by omega)
        have s1 : w.1 13 (a * 10 + 1).toNatClampNeg = cX w n 1 := by rw [i_c c1 (by omega)]
        have t1 : w.1 43 a.toNatClampNeg = cX w n 1 := by rw [ka, (iP_tell H hn).2.1]
        have ci0 := nI_st ea eb (f := 0) (i := 0) rfl
        have ci : ((a * 3 + b) * 13 + 0).toNatClampNeg = 39 * n + 13 * p + 0 := i_c ci0 (by omega)
        have vi : vp_in ((a * 3 + b) * 13 + 0) 2496 := i_in 2496 ci0 (by omega) (by decide)
        have ci0' : (39 : Int32) * a + 13 * b + 0 = nI (39 * n + 13 * p + 0) := by
          have : nI 39 * a + nI 13 * b + nI 0 = nI (39 * n + 13 * p + 0) := by
            rw [ea, eb, pk_mul, pk_mul, nI_add, nI_add]
          exact this
        have ci' : ((39 : Int32) * a + 13 * b + 0).toNatClampNeg = 39 * n + 13 * p + 0 := i_c ci0' (by omega)
        have vi' : vp_in ((39 : Int32) * a + 13 * b + 0) 2496 := i_in 2496 ci0' (by omega) (by decide)
        have hpart : b = 0 ∨ ¬ b = 0 := Classical.em _
        rcases hpart with h0 | h0
        · have x0 : ¬ 0 < b := by
            rw [h0]
            decide
          have x1 : b ≤ 0 := by
            rw [h0]
            decide
          conv => whnf
          (repeat ((first | refine br_t (by decide) ?_ | refine br_f (by decide) ?_ | refine br_nt (by decide) ?_ | refine br_nf (by decide) ?_ | refine br_t (by assumption) ?_ | refine br_f (by assumption) ?_ | refine br_nt (by assumption) ?_ | refine br_nf (by assumption) ?_ | refine ⟨_, rfl, ?_⟩ | refine ⟨Or.inl rfl, ?_⟩ | refine ⟨by assumption, ?_⟩); (conv => whnf)))
          refine ⟨rfl, Inv_end (w := w) (N := N) (Pn := Pn) (E := E) hF hT hS.1 ?_ rfl rfl rfl rfl rfl rfl rfl rfl rfl rfl rfl rfl rfl rfl rfl rfl rfl rfl rfl rfl⟩
          refine iPrg_row H (iRows_up (i := 39 * n + 13 * p + 0) (b := q) H.2.2.2.2.2.1 (by omega) (x := d ||| 1) ?_ (by rw [← ci]; rfl) (by rw [← ci', ← ed]; rfl)) (fun q hq z1 z2 => ?_) (fun j hj => ?_) rfl
          · rw [ed]
            rw [if_pos (by omega)]
          · simp only [pgI, List.mem_cons, List.not_mem_nil, or_false] at hq
            rcases hq with rfl | rfl | rfl | rfl | rfl | rfl | rfl | rfl | rfl | rfl | rfl | rfl | rfl | rfl | rfl | rfl | rfl | rfl | rfl | rfl | rfl | rfl | rfl | rfl | rfl | rfl | rfl | rfl | rfl <;> first | rfl | exact absurd rfl z1 | exact absurd rfl z2
          · simp only [pg8, List.mem_cons, List.not_mem_nil, or_false] at hj
            rcases hj with rfl | rfl | rfl | rfl | rfl | rfl <;> rfl
        · have x0 : 0 < b := by
            rw [i_lt]
            have g1 := i_le.mp y3.1
            have e0 : (0 : Int32).toInt = 0 := by decide
            have : ¬ b.toInt = 0 := fun z => h0 (Int32.toInt_inj.mp (by rw [z, e0]))
            omega
          have x1 : ¬ b ≤ 0 := by
            rw [i_le]
            rw [i_lt] at x0
            omega
          by_cases h9 : cX w n 1 = 9
          · have g1 : w.1 13 (a * 10 + 1).toNatClampNeg = 9 := s1.trans h9
            have g2 : w.1 43 a.toNatClampNeg = 9 := t1.trans h9
            conv => whnf
            (repeat ((first | refine br_t (by decide) ?_ | refine br_f (by decide) ?_ | refine br_nt (by decide) ?_ | refine br_nf (by decide) ?_ | refine br_t (by assumption) ?_ | refine br_f (by assumption) ?_ | refine br_nt (by assumption) ?_ | refine br_nf (by assumption) ?_ | refine ⟨_, rfl, ?_⟩ | refine ⟨Or.inl rfl, ?_⟩ | refine ⟨by assumption, ?_⟩); (conv => whnf)))
            refine ⟨rfl, Inv_end (w := w) (N := N) (Pn := Pn) (E := E) hF hT hS.1 ?_ rfl rfl rfl rfl rfl rfl rfl rfl rfl rfl rfl rfl rfl rfl rfl rfl rfl rfl rfl rfl⟩
            refine iPrg_row H (iRows_up (i := 39 * n + 13 * p + 0) (b := q) H.2.2.2.2.2.1 (by omega) (x := d ||| 1) ?_ (by rw [← ci]; rfl) (by rw [← ci', ← ed]; rfl)) (fun q hq z1 z2 => ?_) (fun j hj => ?_) rfl
            · rw [ed]
              rw [if_pos (by omega)]
            · simp only [pgI, List.mem_cons, List.not_mem_nil, or_false] at hq
              rcases hq with rfl | rfl | rfl | rfl | rfl | rfl | rfl | rfl | rfl | rfl | rfl | rfl | rfl | rfl | rfl | rfl | rfl | rfl | rfl | rfl | rfl | rfl | rfl | rfl | rfl | rfl | rfl | rfl | rfl <;> first | rfl | exact absurd rfl z1 | exact absurd rfl z2
            · simp only [pg8, List.mem_cons, List.not_mem_nil, or_false] at hj
              rcases hj with rfl | rfl | rfl | rfl | rfl | rfl <;> rfl
          · have g1 : ¬ w.1 13 (a * 10 + 1).toNatClampNeg = 9 := fun z => h9 (s1.symm.trans z)
            have g2 : ¬ w.1 43 a.toNatClampNeg = 9 := fun z => h9 (t1.symm.trans z)
            have f3 := vk3
            conv => whnf
            (repeat ((first | refine br_t (by decide) ?_ | refine br_f (by decide) ?_ | refine br_nt (by decide) ?_ | refine br_nf (by decide) ?_ | refine br_t (by assumption) ?_ | refine br_f (by assumption) ?_ | refine br_nt (by assumption) ?_ | refine br_nf (by assumption) ?_ | refine ⟨_, rfl, ?_⟩ | refine ⟨Or.inl rfl, ?_⟩ | refine ⟨by assumption, ?_⟩); (conv => whnf)))
            exact ⟨rfl, Inv_fnd h 3 (by decide)⟩
      · ((conv => whnf); (repeat ((first | refine br_t (by decide) ?_ | refine br_f (by decide) ?_ | refine br_nt (by decide) ?_ | refine br_nf (by decide) ?_ | refine br_t (by assumption) ?_ | refine br_f (by assumption) ?_ | refine br_nt (by assumption) ?_ | refine br_nf (by assumption) ?_ | refine ⟨_, rfl, ?_⟩ | refine ⟨by assumption, ?_⟩); (conv => whnf))); exact ⟨rfl, h⟩)
      · ((conv => whnf); (repeat ((first | refine br_t (by decide) ?_ | refine br_f (by decide) ?_ | refine br_nt (by decide) ?_ | refine br_nf (by decide) ?_ | refine br_t (by assumption) ?_ | refine br_f (by assumption) ?_ | refine br_nt (by assumption) ?_ | refine br_nf (by assumption) ?_ | refine ⟨_, rfl, ?_⟩ | refine ⟨by assumption, ?_⟩); (conv => whnf))); exact ⟨rfl, h⟩)
    · ((conv => whnf); (repeat ((first | refine br_t (by decide) ?_ | refine br_f (by decide) ?_ | refine br_nt (by decide) ?_ | refine br_nf (by decide) ?_ | refine br_t (by assumption) ?_ | refine br_f (by assumption) ?_ | refine br_nt (by assumption) ?_ | refine br_nf (by assumption) ?_ | refine ⟨_, rfl, ?_⟩ | refine ⟨by assumption, ?_⟩); (conv => whnf))); exact ⟨rfl, h⟩)
    · ((conv => whnf); (repeat ((first | refine br_t (by decide) ?_ | refine br_f (by decide) ?_ | refine br_nt (by decide) ?_ | refine br_nf (by decide) ?_ | refine br_t (by assumption) ?_ | refine br_f (by assumption) ?_ | refine br_nt (by assumption) ?_ | refine br_nf (by assumption) ?_ | refine ⟨_, rfl, ?_⟩ | refine ⟨by assumption, ?_⟩); (conv => whnf))); exact ⟨rfl, h⟩)
  · ((conv => whnf); (repeat ((first | refine br_t (by decide) ?_ | refine br_f (by decide) ?_ | refine br_nt (by decide) ?_ | refine br_nf (by decide) ?_ | refine br_t (by assumption) ?_ | refine br_f (by assumption) ?_ | refine br_nt (by assumption) ?_ | refine br_nf (by assumption) ?_ | refine ⟨_, rfl, ?_⟩ | refine ⟨by assumption, ?_⟩); (conv => whnf))); exact ⟨rfl, h⟩)
  · ((conv => whnf); (repeat ((first | refine br_t (by decide) ?_ | refine br_f (by decide) ?_ | refine br_nt (by decide) ?_ | refine br_nf (by decide) ?_ | refine br_t (by assumption) ?_ | refine br_f (by assumption) ?_ | refine br_nt (by assumption) ?_ | refine br_nf (by assumption) ?_ | refine ⟨_, rfl, ?_⟩ | refine ⟨by assumption, ?_⟩); (conv => whnf))); exact ⟨rfl, h⟩)
theorem lo_flow (a b c d : Int32) : lwI Inv T_X7_flow T_X8_flow [.int a, .int b, .int c, .int d] := by
  intro w h
  obtain ⟨N, Pn, E, H, hF, hT, hS⟩ := id h
  obtain ⟨hN, hP, hE, e10, e88, e9, e82, e11, e820, -⟩ := H.1
  by_cases h0c : c = 0
  · have m4 : ¬ (1 ≤ c ∧ c ≤ 12) := by
      rw [h0c]
      decide
    rcases arg_c (a := a) (by omega) e10 e88 with ⟨n, hn, ea, k1, k2, k3⟩ | ⟨k1, k3⟩ | ⟨k1, k2, k3⟩
    · rcases arg_k (a := b) 2 (by omega) with ⟨p, hp, eb, y1, y2, y3⟩ | ⟨y1, y3⟩ | ⟨y1, y2, y3⟩
      · ((conv => whnf); (repeat ((first | refine br_t (by decide) ?_ | refine br_f (by decide) ?_ | refine br_nt (by decide) ?_ | refine br_nf (by decide) ?_ | refine br_t (by assumption) ?_ | refine br_f (by assumption) ?_ | refine br_nt (by assumption) ?_ | refine br_nf (by assumption) ?_ | refine ⟨_, rfl, ?_⟩ | refine ⟨by assumption, ?_⟩); (conv => whnf))); exact ⟨rfl, h⟩)
      · ((conv => whnf); (repeat ((first | refine br_t (by decide) ?_ | refine br_f (by decide) ?_ | refine br_nt (by decide) ?_ | refine br_nf (by decide) ?_ | refine br_t (by assumption) ?_ | refine br_f (by assumption) ?_ | refine br_nt (by assumption) ?_ | refine br_nf (by assumption) ?_ | refine ⟨_, rfl, ?_⟩ | refine ⟨by assumption, ?_⟩); (conv => whnf))); exact ⟨rfl, h⟩)
      · ((conv => whnf); (repeat ((first | refine br_t (by decide) ?_ | refine br_f (by decide) ?_ | refine br_nt (by decide) ?_ | refine br_nf (by decide) ?_ | refine br_t (by assumption) ?_ | refine br_f (by assumption) ?_ | refine br_nt (by assumption) ?_ | refine br_nf (by assumption) ?_ | refine ⟨_, rfl, ?_⟩ | refine ⟨by assumption, ?_⟩); (conv => whnf))); exact ⟨rfl, h⟩)
    · ((conv => whnf); (repeat ((first | refine br_t (by decide) ?_ | refine br_f (by decide) ?_ | refine br_nt (by decide) ?_ | refine br_nf (by decide) ?_ | refine br_t (by assumption) ?_ | refine br_f (by assumption) ?_ | refine br_nt (by assumption) ?_ | refine br_nf (by assumption) ?_ | refine ⟨_, rfl, ?_⟩ | refine ⟨by assumption, ?_⟩); (conv => whnf))); exact ⟨rfl, h⟩)
    · ((conv => whnf); (repeat ((first | refine br_t (by decide) ?_ | refine br_f (by decide) ?_ | refine br_nt (by decide) ?_ | refine br_nf (by decide) ?_ | refine br_t (by assumption) ?_ | refine br_f (by assumption) ?_ | refine br_nt (by assumption) ?_ | refine br_nf (by assumption) ?_ | refine ⟨_, rfl, ?_⟩ | refine ⟨by assumption, ?_⟩); (conv => whnf))); exact ⟨rfl, h⟩)
  rcases arg_c (a := a) (by omega) e10 e88 with ⟨n, hn, ea, k1, k2, k3⟩ | ⟨k1, k3⟩ | ⟨k1, k2, k3⟩
  · have hv : vp_in a 64 := i_in 64 ea (by omega) (by decide)
    rcases arg_k (a := c) 12 (by omega) with ⟨j, hj, ec, m1, m2, m3⟩ | ⟨m1, m3⟩ | ⟨m1, m2, m3⟩
    · have hj0 : 1 ≤ j := by
        rcases Nat.eq_zero_or_pos j with z | z
        · exact absurd (by rw [ec, z]; rfl) h0c
        · exact z
      have m4 : 1 ≤ c ∧ c ≤ 12 := ⟨by rw [ec]; exact nI_le (a := 1) hj0 (by omega), m3.2⟩
      rcases arg_k (a := b) 2 (by omega) with ⟨p, hp, eb, y1, y2, y3⟩ | ⟨y1, y3⟩ | ⟨y1, y2, y3⟩
      · rcases arg_k (a := d) 8191 (by omega) with ⟨q, hq, ed, u1, u2, u3⟩ | ⟨u1, u3⟩ | ⟨u1, u2, u3⟩
        · skip
          have hv3 : vp_in b 3 := i_in 3 eb (by omega) (by decide)
          have c1 := nI_ml ea (x := 1) (i := 1) rfl (nI_lit 10)
          have v1 : vp_in (a * 10 + 1) 640 := i_in 640 c1 (by omega) (by decide)
          have ka : a.toNatClampNeg = n := i_c ea (by omega)
          have s1 : w.1 13 (a * 10 + 1).toNatClampNeg = cX w n 1 := by rw [i_c c1 (by omega)]
          have t1 : w.1 43 a.toNatClampNeg = cX w n 1 := by rw [ka, (iP_tell H hn).2.1]
          have ci0 := nI_st ea eb ec
          have ci : ((a * 3 + b) * 13 + c).toNatClampNeg = 39 * n + 13 * p + j := i_c ci0 (by omega)
          have vi : vp_in ((a * 3 + b) * 13 + c) 2496 := i_in 2496 ci0 (by omega) (by decide)
          have ci0' : (39 : Int32) * a + 13 * b + c = nI (39 * n + 13 * p + j) := by
            have : nI 39 * a + nI 13 * b + c = nI (39 * n + 13 * p + j) := by
              rw [ea, eb, ec, pk_mul, pk_mul, nI_add, nI_add]
            exact this
          have ci' : ((39 : Int32) * a + 13 * b + c).toNatClampNeg = 39 * n + 13 * p + j := i_c ci0' (by omega)
          have vi' : vp_in ((39 : Int32) * a + 13 * b + c) 2496 := i_in 2496 ci0' (by omega) (by decide)
          have hpart : b = 0 ∨ ¬ b = 0 := Classical.em _
          rcases hpart with h0 | h0
          · have x0 : ¬ 0 < b := by
              rw [h0]
              decide
            have x1 : b ≤ 0 := by
              rw [h0]
              decide
            conv => whnf
            (repeat ((first | refine br_t (by decide) ?_ | refine br_f (by decide) ?_ | refine br_nt (by decide) ?_ | refine br_nf (by decide) ?_ | refine br_t (by assumption) ?_ | refine br_f (by assumption) ?_ | refine br_nt (by assumption) ?_ | refine br_nf (by assumption) ?_ | refine ⟨_, rfl, ?_⟩ | refine ⟨Or.inl rfl, ?_⟩ | refine ⟨by assumption, ?_⟩); (conv => whnf)))
            refine ⟨rfl, Inv_end (w := w) (N := N) (Pn := Pn) (E := E) hF hT hS.1 ?_ rfl rfl rfl rfl rfl rfl rfl rfl rfl rfl rfl rfl rfl rfl rfl rfl rfl rfl rfl rfl⟩
            refine iPrg_row H (iRows_up (i := 39 * n + 13 * p + j) (b := q) H.2.2.2.2.2.1 (by omega) (x := d) ?_ (by rw [← ci]; rfl) (by rw [← ci', ← ed]; rfl)) (fun q hq z1 z2 => ?_) (fun j hj => ?_) rfl
            · rw [ed]
              rw [if_neg (by omega)]
            · simp only [pgI, List.mem_cons, List.not_mem_nil, or_false] at hq
              rcases hq with rfl | rfl | rfl | rfl | rfl | rfl | rfl | rfl | rfl | rfl | rfl | rfl | rfl | rfl | rfl | rfl | rfl | rfl | rfl | rfl | rfl | rfl | rfl | rfl | rfl | rfl | rfl | rfl | rfl <;> first | rfl | exact absurd rfl z1 | exact absurd rfl z2
            · simp only [pg8, List.mem_cons, List.not_mem_nil, or_false] at hj
              rcases hj with rfl | rfl | rfl | rfl | rfl | rfl <;> rfl
          · have x0 : 0 < b := by
              rw [i_lt]
              have g1 := i_le.mp y3.1
              have e0 : (0 : Int32).toInt = 0 := by decide
              have : ¬ b.toInt = 0 := fun z => h0 (Int32.toInt_inj.mp (by rw [z, e0]))
              omega
            have x1 : ¬ b ≤ 0 := by
              rw [i_le]
              rw [i_lt] at x0
              omega
            by_cases h9 : cX w n 1 = 9
            · have g1 : w.1 13 (a * 10 + 1).toNatClampNeg = 9 := s1.trans h9
              have g2 : w.1 43 a.toNatClampNeg = 9 := t1.trans h9
              conv => whnf
              (repeat ((first | refine br_t (by decide) ?_ | refine br_f (by decide) ?_ | refine br_nt (by decide) ?_ | refine br_nf (by decide) ?_ | refine br_t (by assumption) ?_ | refine br_f (by assumption) ?_ | refine br_nt (by assumption) ?_ | refine br_nf (by assumption) ?_ | refine ⟨_, rfl, ?_⟩ | refine ⟨Or.inl rfl, ?_⟩ | refine ⟨by assumption, ?_⟩); (conv => whnf)))
              refine ⟨rfl, Inv_end (w := w) (N := N) (Pn := Pn) (E := E) hF hT hS.1 ?_ rfl rfl rfl rfl rfl rfl rfl rfl rfl rfl rfl rfl rfl rfl rfl rfl rfl rfl rfl rfl⟩
              refine iPrg_row H (iRows_up (i := 39 * n + 13 * p + j) (b := q) H.2.2.2.2.2.1 (by omega) (x := d) ?_ (by rw [← ci]; rfl) (by rw [← ci', ← ed]; rfl)) (fun q hq z1 z2 => ?_) (fun j hj => ?_) rfl
              · rw [ed]
                rw [if_neg (by omega)]
              · simp only [pgI, List.mem_cons, List.not_mem_nil, or_false] at hq
                rcases hq with rfl | rfl | rfl | rfl | rfl | rfl | rfl | rfl | rfl | rfl | rfl | rfl | rfl | rfl | rfl | rfl | rfl | rfl | rfl | rfl | rfl | rfl | rfl | rfl | rfl | rfl | rfl | rfl | rfl <;> first | rfl | exact absurd rfl z1 | exact absurd rfl z2
              · simp only [pg8, List.mem_cons, List.not_mem_nil, or_false] at hj
                rcases hj with rfl | rfl | rfl | rfl | rfl | rfl <;> rfl
            · have g1 : ¬ w.1 13 (a * 10 + 1).toNatClampNeg = 9 := fun z => h9 (s1.symm.trans z)
              have g2 : ¬ w.1 43 a.toNatClampNeg = 9 := fun z => h9 (t1.symm.trans z)
              have f3 := vk3
              conv => whnf
              (repeat ((first | refine br_t (by decide) ?_ | refine br_f (by decide) ?_ | refine br_nt (by decide) ?_ | refine br_nf (by decide) ?_ | refine br_t (by assumption) ?_ | refine br_f (by assumption) ?_ | refine br_nt (by assumption) ?_ | refine br_nf (by assumption) ?_ | refine ⟨_, rfl, ?_⟩ | refine ⟨Or.inl rfl, ?_⟩ | refine ⟨by assumption, ?_⟩); (conv => whnf)))
              exact ⟨rfl, Inv_fnd h 3 (by decide)⟩
        · ((conv => whnf); (repeat ((first | refine br_t (by decide) ?_ | refine br_f (by decide) ?_ | refine br_nt (by decide) ?_ | refine br_nf (by decide) ?_ | refine br_t (by assumption) ?_ | refine br_f (by assumption) ?_ | refine br_nt (by assumption) ?_ | refine br_nf (by assumption) ?_ | refine ⟨_, rfl, ?_⟩ | refine ⟨by assumption, ?_⟩); (conv => whnf))); exact ⟨rfl, h⟩)
        · ((conv => whnf); (repeat ((first | refine br_t (by decide) ?_ | refine br_f (by decide) ?_ | refine br_nt (by decide) ?_ | refine br_nf (by decide) ?_ | refine br_t (by assumption) ?_ | refine br_f (by assumption) ?_ | refine br_nt (by assumption) ?_ | refine br_nf (by assumption) ?_ | refine ⟨_, rfl, ?_⟩ | refine ⟨by assumption, ?_⟩); (conv => whnf))); exact ⟨rfl, h⟩)
      · ((conv => whnf); (repeat ((first | refine br_t (by decide) ?_ | refine br_f (by decide) ?_ | refine br_nt (by decide) ?_ | refine br_nf (by decide) ?_ | refine br_t (by assumption) ?_ | refine br_f (by assumption) ?_ | refine br_nt (by assumption) ?_ | refine br_nf (by assumption) ?_ | refine ⟨_, rfl, ?_⟩ | refine ⟨by assumption, ?_⟩); (conv => whnf))); exact ⟨rfl, h⟩)
      · ((conv => whnf); (repeat ((first | refine br_t (by decide) ?_ | refine br_f (by decide) ?_ | refine br_nt (by decide) ?_ | refine br_nf (by decide) ?_ | refine br_t (by assumption) ?_ | refine br_f (by assumption) ?_ | refine br_nt (by assumption) ?_ | refine br_nf (by assumption) ?_ | refine ⟨_, rfl, ?_⟩ | refine ⟨by assumption, ?_⟩); (conv => whnf))); exact ⟨rfl, h⟩)
    · have m4 : ¬ (1 ≤ c ∧ c ≤ 12) := fun z => m3 ⟨le01 z.1, z.2⟩
      rcases arg_k (a := b) 2 (by omega) with ⟨p, hp, eb, y1, y2, y3⟩ | ⟨y1, y3⟩ | ⟨y1, y2, y3⟩
      · ((conv => whnf); (repeat ((first | refine br_t (by decide) ?_ | refine br_f (by decide) ?_ | refine br_nt (by decide) ?_ | refine br_nf (by decide) ?_ | refine br_t (by assumption) ?_ | refine br_f (by assumption) ?_ | refine br_nt (by assumption) ?_ | refine br_nf (by assumption) ?_ | refine ⟨_, rfl, ?_⟩ | refine ⟨by assumption, ?_⟩); (conv => whnf))); exact ⟨rfl, h⟩)
      · ((conv => whnf); (repeat ((first | refine br_t (by decide) ?_ | refine br_f (by decide) ?_ | refine br_nt (by decide) ?_ | refine br_nf (by decide) ?_ | refine br_t (by assumption) ?_ | refine br_f (by assumption) ?_ | refine br_nt (by assumption) ?_ | refine br_nf (by assumption) ?_ | refine ⟨_, rfl, ?_⟩ | refine ⟨by assumption, ?_⟩); (conv => whnf))); exact ⟨rfl, h⟩)
      · ((conv => whnf); (repeat ((first | refine br_t (by decide) ?_ | refine br_f (by decide) ?_ | refine br_nt (by decide) ?_ | refine br_nf (by decide) ?_ | refine br_t (by assumption) ?_ | refine br_f (by assumption) ?_ | refine br_nt (by assumption) ?_ | refine br_nf (by assumption) ?_ | refine ⟨_, rfl, ?_⟩ | refine ⟨by assumption, ?_⟩); (conv => whnf))); exact ⟨rfl, h⟩)
    · have m4 : ¬ (1 ≤ c ∧ c ≤ 12) := fun z => m3 ⟨le01 z.1, z.2⟩
      rcases arg_k (a := b) 2 (by omega) with ⟨p, hp, eb, y1, y2, y3⟩ | ⟨y1, y3⟩ | ⟨y1, y2, y3⟩
      · ((conv => whnf); (repeat ((first | refine br_t (by decide) ?_ | refine br_f (by decide) ?_ | refine br_nt (by decide) ?_ | refine br_nf (by decide) ?_ | refine br_t (by assumption) ?_ | refine br_f (by assumption) ?_ | refine br_nt (by assumption) ?_ | refine br_nf (by assumption) ?_ | refine ⟨_, rfl, ?_⟩ | refine ⟨by assumption, ?_⟩); (conv => whnf))); exact ⟨rfl, h⟩)
      · ((conv => whnf); (repeat ((first | refine br_t (by decide) ?_ | refine br_f (by decide) ?_ | refine br_nt (by decide) ?_ | refine br_nf (by decide) ?_ | refine br_t (by assumption) ?_ | refine br_f (by assumption) ?_ | refine br_nt (by assumption) ?_ | refine br_nf (by assumption) ?_ | refine ⟨_, rfl, ?_⟩ | refine ⟨by assumption, ?_⟩); (conv => whnf))); exact ⟨rfl, h⟩)
      · ((conv => whnf); (repeat ((first | refine br_t (by decide) ?_ | refine br_f (by decide) ?_ | refine br_nt (by decide) ?_ | refine br_nf (by decide) ?_ | refine br_t (by assumption) ?_ | refine br_f (by assumption) ?_ | refine br_nt (by assumption) ?_ | refine br_nf (by assumption) ?_ | refine ⟨_, rfl, ?_⟩ | refine ⟨by assumption, ?_⟩); (conv => whnf))); exact ⟨rfl, h⟩)
  · ((conv => whnf); (repeat ((first | refine br_t (by decide) ?_ | refine br_f (by decide) ?_ | refine br_nt (by decide) ?_ | refine br_nf (by decide) ?_ | refine br_t (by assumption) ?_ | refine br_f (by assumption) ?_ | refine br_nt (by assumption) ?_ | refine br_nf (by assumption) ?_ | refine ⟨_, rfl, ?_⟩ | refine ⟨by assumption, ?_⟩); (conv => whnf))); exact ⟨rfl, h⟩)
  · ((conv => whnf); (repeat ((first | refine br_t (by decide) ?_ | refine br_f (by decide) ?_ | refine br_nt (by decide) ?_ | refine br_nf (by decide) ?_ | refine br_t (by assumption) ?_ | refine br_f (by assumption) ?_ | refine br_nt (by assumption) ?_ | refine br_nf (by assumption) ?_ | refine ⟨_, rfl, ?_⟩ | refine ⟨by assumption, ?_⟩); (conv => whnf))); exact ⟨rfl, h⟩)
