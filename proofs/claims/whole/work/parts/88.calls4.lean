theorem leave_eq {w : qq_w} {N Pn E c : Nat} (H : iPrg w N Pn E) (hc : c < N) (h9 : cX w c 1 = 9) : ∃ p l r, p < Pn ∧ l + 1 < N ∧ r < N ∧ cLeave w c = l + 1 ∧ w.1 40 (qn (w.1 47 c)) = nI (l + 1) ∧ w.1 49 c = nI r ∧ w.1 43 c = 9 ∧ vp_in (cX w c 5) 8 ∧ vp_in (w.1 12 (qn (cX w c 5))) 63 := by
  have hN : N ≤ 64 := H.1.1
  have hP8 : Pn ≤ 8 := H.1.2.1
  obtain ⟨p, l, r, hp, hl, hr, e5, e47, e7, e49, e12, e39, e40, e43, q5, q47, q7, q49, q12, q39, q40⟩ := iP_cal H hc h9
  refine ⟨p, l, r, hp, hl, hr, ?_, by rw [q47, e40], e49, e43, i_in 8 e5 (by omega) (by decide), ?_⟩
  · unfold cLeave
    rw [q5, q12]
  · rw [q5]
    exact i_in 63 e12 (by omega) (by decide)
theorem sum_iff {w : qq_w} {N Pn E t c f g : Nat} (H : iPrg w N Pn E) (q1 : cBeg w N Pn t t) (q2 : mBeg w N Pn t t) (hc : c < N) (hf : f < 13) : bt (w.1 57 (13 * c + f)) g = true ↔ cX w c 1 = 9 ∧ cHolds w c f ∧ cThr w c f g := by
  have hN : N ≤ 64 := H.1.1
  have hI := q2.2.2.2.2.1
  have hS := q1.2.2.1
  constructor
  · intro z
    obtain ⟨c', d, f', l, a, b, r, hf', hj, hR, hl, hr, hT, hR2⟩ := hI.1 _ g (by omega) z
    obtain rfl : c = c' := by omega
    obtain rfl : f = f' := by omega
    have h9 := hT.1
    rw [(iP_tell H hc).2.1] at h9
    obtain ⟨p, l', r', hp, hl', hr', eL, e40, e49, -⟩ := leave_eq H hc h9
    have hll : l = l' + 1 := nI_inj (by omega) (by omega) (hT.2.1.symm.trans e40)
    have k1 := q2.2.2.2.1.1 _ _ _ hR
    have k2 := q2.2.2.2.1.1 _ _ _ hR2
    obtain ⟨g1, g2, g3, g4⟩ := hR
    obtain ⟨m1, m2, m3, m4⟩ := hR2
    refine ⟨h9, ⟨d, g2, (done_rowc q1 g1 g2).mpr k1⟩, a, b, m2, m3, (hS c 1 f a hc (by decide) (Or.inr h9) hf).mpr hT.2.2.2.1, ?_, (hS c 2 b g hc (by decide) (Or.inr h9) m3).mpr hT.2.2.2.2⟩
    rw [eL, ← hll]
    exact (done_rowc q1 m1 m2).mpr k2
  · rintro ⟨h9, ⟨d, hd, hb⟩, a, b, ha, hb2, x1, x2, x3⟩
    obtain ⟨p, l', r', hp, hl', hr', eL, e40, e49, e43, -⟩ := leave_eq H hc h9
    rw [eL] at x2
    have k1 := (done_rowc q1 (by omega) hd).mp hb
    have k2 := (done_rowc q1 (by omega) ha).mp x2
    exact hI.2 c d f (l' + 1) a b r' g (by omega) (by omega) (m_all q2 k1).1 (m_all q2 k2).1 ⟨e43, e40, e49, (hS c 1 f a hc (by decide) (Or.inr h9) hf).mp x1, (hS c 2 b g hc (by decide) (Or.inr h9) hb2).mp x3⟩
theorem pcb_0 {x : Int32} : ∀ n, (∀ i, i < n → ¬ bt x i = true) → pcb x n = 0
  | 0, _ => rfl
  | n + 1, h => by
    show pcb x n + (if bt x n = true then 1 else 0) = 0
    rw [pcb_0 n (fun i hi => h i (by omega)), if_neg (h n (by omega))]
theorem cCount_t {f : Nat → Int32} {n : Nat} : ∀ m, (∀ j i, n ≤ j → j < n + m → ¬ bt (f j) i = true) → cCount f (n + m) = cCount f n
  | 0, _ => rfl
  | m + 1, h => by
    show cCount f (n + m) + pcb (f (n + m)) 13 = cCount f n
    rw [cCount_t m (fun j i h1 h2 => h j i h1 (by omega)), pcb_0 13 (fun i _ => h (n + m) i (by omega) (by omega)), Nat.add_zero]
theorem sum_cnt {w : qq_w} {N Pn E t : Nat} (H : iPrg w N Pn E) (q2 : mBeg w N Pn t t) : cCount (w.1 57) 832 = cCount (w.1 57) (13 * N) := by
  have hN : N ≤ 64 := H.1.1
  have := cCount_t (f := w.1 57) (n := 13 * N) (832 - 13 * N) (fun j i h1 h2 z => by
    obtain ⟨c', d, f', l, a, b, r, hf', hj, hR, -⟩ := q2.2.2.2.2.1.1 j i (by omega) z
    have := (PClo_lt H q2.1 (q2.2.2.2.1.1 _ _ _ hR)).1.1
    omega)
  rw [show 13 * N + (832 - 13 * N) = 832 by omega] at this
  exact this
theorem lo_edges (a : Int32) (ha : a = 0 ∨ a = 1) : lwI Inv T_X7_edges T_X8_edges [.int a] := by
  intro w h
  obtain ⟨N, Pn, E, H, hF, hT, hS⟩ := id h
  obtain ⟨hN, hP, hE, e10, e88, e9, e82, e11, e820, -⟩ := H.1
  rcases sol_c hS with ⟨z1, z2⟩ | ⟨z1, z2, z3, z4⟩ | ⟨t, z1, z2, z3, z4, q1, q2, q5, q6⟩
  · conv => whnf
    (repeat ((first | refine br_t (by decide) ?_ | refine br_f (by decide) ?_ | refine br_nt (by decide) ?_ | refine br_nf (by decide) ?_ | refine br_t (by assumption) ?_ | refine br_f (by assumption) ?_ | refine br_nt (by assumption) ?_ | refine br_nf (by assumption) ?_ | refine ⟨_, rfl, ?_⟩ | refine ⟨by assumption, ?_⟩); (conv => whnf)))
    exact ⟨rfl, h⟩
  · conv => whnf
    (repeat ((first | refine br_t (by decide) ?_ | refine br_f (by decide) ?_ | refine br_nt (by decide) ?_ | refine br_nf (by decide) ?_ | refine br_t (by assumption) ?_ | refine br_f (by assumption) ?_ | refine br_nt (by assumption) ?_ | refine br_nf (by assumption) ?_ | refine ⟨_, rfl, ?_⟩ | refine ⟨by assumption, ?_⟩); (conv => whnf)))
    exact ⟨rfl, h⟩
  · rcases ha with rfl | rfl
    · conv => whnf
      (repeat ((first | refine br_t (by decide) ?_ | refine br_f (by decide) ?_ | refine br_nt (by decide) ?_ | refine br_nf (by decide) ?_ | refine br_t (by assumption) ?_ | refine br_f (by assumption) ?_ | refine br_nt (by assumption) ?_ | refine br_nf (by assumption) ?_ | refine ⟨_, rfl, ?_⟩ | refine ⟨by assumption, ?_⟩); (conv => whnf)))
      exact ⟨by rw [show w.1 8 34 = w.1 3 5 by rw [q5, q6]], h⟩
    · have eN := (iP_P H).2.2.1
      have p1 : vp_in (w.1 1 10) 65 ∧ (∀ j, fs (w.1 19 j)) ∧ ∀ c, c < qn (w.1 1 10) → cX w c 1 = 9 → vp_in (cX w c 5) 8 ∧ vp_in (w.1 12 (qn (cX w c 5))) 63 := by
        refine ⟨i_in 65 e10 (by omega) (by decide), hS.1, fun c hc h9 => ?_⟩
        rw [eN] at hc
        obtain ⟨p, l, r, -, -, -, -, -, -, -, y1, y2⟩ := leave_eq H hc h9
        exact ⟨y1, y2⟩
      conv => whnf
      (repeat ((first | refine br_t (by decide) ?_ | refine br_f (by decide) ?_ | refine br_nt (by decide) ?_ | refine br_nf (by decide) ?_ | refine br_t (by assumption) ?_ | refine br_f (by assumption) ?_ | refine br_nt (by assumption) ?_ | refine br_nf (by assumption) ?_ | refine ⟨_, rfl, ?_⟩ | refine ⟨by assumption, ?_⟩); (conv => whnf)))
      refine ⟨w.1 57, fun c d g hc hd => sum_iff H q1 q2 (by rw [eN] at hc; exact hc) hd, ?_⟩
      conv => whnf
      (repeat ((first | refine br_t (by decide) ?_ | refine br_f (by decide) ?_ | refine br_nt (by decide) ?_ | refine br_nf (by decide) ?_ | refine br_t (by assumption) ?_ | refine br_f (by assumption) ?_ | refine br_nt (by assumption) ?_ | refine br_nf (by assumption) ?_ | refine ⟨_, rfl, ?_⟩ | refine ⟨by assumption, ?_⟩); (conv => whnf)))
      refine ⟨?_, h⟩
      have hSI : w.1 8 35 = nI (cCount (w.1 57) 832) := q2.2.2.1.2.1
      rw [show w.1 8 35 = nI (cCount (w.1 57) (13 * qn (w.1 1 10))) by rw [hSI, eN, sum_cnt H q2]]
theorem lo_summary (a b : Int32) : lwI Inv T_X7_summary T_X8_summary [.int a, .int b] := by
  intro w h
  obtain ⟨N, Pn, E, H, hF, hT, hS⟩ := id h
  obtain ⟨hN, hP, hE, e10, e88, e9, e82, e11, e820, -⟩ := H.1
  rcases arg_c (a := a) (by omega) e10 e88 with ⟨n, hn, ea, k1, k2, k3⟩ | ⟨k1, k3⟩ | ⟨k1, k2, k3⟩
  · have hv : vp_in a 64 := i_in 64 ea (by omega) (by decide)
    rcases arg_k (a := b) 12 (by omega) with ⟨j, hj, eb, m1, m2, m3⟩ | ⟨m1, m3⟩ | ⟨m1, m2, m3⟩
    · have hv2 : vp_in b 13 := i_in 13 eb (by omega) (by decide)
      have c1 := nI_ml ea (x := 1) (i := 1) rfl (nI_lit 10)
      have v1 : vp_in (a * 10 + 1) 640 := i_in 640 c1 (by omega) (by decide)
      have ka : a.toNatClampNeg = n := i_c ea (by omega)
      have qa : qn a = n := ka
      have qb : qn b = j := i_c eb (by omega)
      have s1 : w.1 13 (a * 10 + 1).toNatClampNeg = cX w n 1 := by rw [i_c c1 (by omega)]
      have t1 : w.1 43 a.toNatClampNeg = cX w n 1 := by rw [ka, (iP_tell H hn).2.1]
      by_cases h9 : cX w n 1 = 9
      · have y1 : w.1 13 (a * 10 + 1).toNatClampNeg = 9 := s1.trans h9
        have y2 : w.1 43 a.toNatClampNeg = 9 := t1.trans h9
        obtain ⟨p, l, r, -, -, -, -, -, -, -, x1, x2⟩ := leave_eq H hn h9
        have p1 : vp_in a 64 ∧ vp_in b 13 ∧ vp_in (cX w (qn a) 5) 8 ∧ vp_in (w.1 12 (qn (cX w (qn a) 5))) 63 := by
          rw [qa]
          exact ⟨hv, hv2, x1, x2⟩
        have c2 := nI_mr ea eb (nI_lit 13)
        have v2 : vp_in (13 * a + b) 832 := i_in 832 c2 (by omega) (by decide)
        rcases sol_c hS with ⟨z1, z2⟩ | ⟨z1, z2, z3, z4⟩ | ⟨t, z1, z2, z3, z4, q1, q2, q5, q6⟩
        · conv => whnf
          (repeat ((first | refine br_t (by decide) ?_ | refine br_f (by decide) ?_ | refine br_nt (by decide) ?_ | refine br_nf (by decide) ?_ | refine br_t (by assumption) ?_ | refine br_f (by assumption) ?_ | refine br_nt (by assumption) ?_ | refine br_nf (by assumption) ?_ | refine ⟨_, rfl, ?_⟩ | refine ⟨by assumption, ?_⟩); (conv => whnf)))
          exact ⟨rfl, h⟩
        · conv => whnf
          (repeat ((first | refine br_t (by decide) ?_ | refine br_f (by decide) ?_ | refine br_nt (by decide) ?_ | refine br_nf (by decide) ?_ | refine br_t (by assumption) ?_ | refine br_f (by assumption) ?_ | refine br_nt (by assumption) ?_ | refine br_nf (by assumption) ?_ | refine ⟨_, rfl, ?_⟩ | refine ⟨by assumption, ?_⟩); (conv => whnf)))
          exact ⟨rfl, h⟩
        · conv => whnf
          (repeat ((first | refine br_t (by decide) ?_ | refine br_f (by decide) ?_ | refine br_nt (by decide) ?_ | refine br_nf (by decide) ?_ | refine br_t (by assumption) ?_ | refine br_f (by assumption) ?_ | refine br_nt (by assumption) ?_ | refine br_nf (by assumption) ?_ | refine ⟨_, rfl, ?_⟩ | refine ⟨by assumption, ?_⟩); (conv => whnf)))
          intro x hx
          conv => whnf
          (repeat ((first | refine br_t (by decide) ?_ | refine br_f (by decide) ?_ | refine br_nt (by decide) ?_ | refine br_nf (by decide) ?_ | refine br_t (by assumption) ?_ | refine br_f (by assumption) ?_ | refine br_nt (by assumption) ?_ | refine br_nf (by assumption) ?_ | refine ⟨_, rfl, ?_⟩ | refine ⟨by assumption, ?_⟩); (conv => whnf)))
          refine ⟨?_, h⟩
          show some (Value.int (w.1 57 (13 * a + b).toNatClampNeg)) = some (Value.int x)
          rw [i_c c2 (by omega), qa, qb] at *
          rw [b_uq (x := w.1 57 (13 * n + j)) (y := x) (fun g => (sum_iff H q1 q2 hn (by omega)).trans ⟨fun z => z.2, fun z => ⟨h9, z⟩⟩) hx]
      · have y1 : ¬ w.1 13 (a * 10 + 1).toNatClampNeg = 9 := fun z => h9 (s1.symm.trans z)
        have y2 : ¬ w.1 43 a.toNatClampNeg = 9 := fun z => h9 (t1.symm.trans z)
        have f3 := vk3
        conv => whnf
        (repeat ((first | refine br_t (by decide) ?_ | refine br_f (by decide) ?_ | refine br_nt (by decide) ?_ | refine br_nf (by decide) ?_ | refine br_t (by assumption) ?_ | refine br_f (by assumption) ?_ | refine br_nt (by assumption) ?_ | refine br_nf (by assumption) ?_ | refine ⟨_, rfl, ?_⟩ | refine ⟨by assumption, ?_⟩); (conv => whnf)))
        exact ⟨rfl, Inv_fnd h 3 (by decide)⟩
    · conv => whnf
      (repeat ((first | refine br_t (by decide) ?_ | refine br_f (by decide) ?_ | refine br_nt (by decide) ?_ | refine br_nf (by decide) ?_ | refine br_t (by assumption) ?_ | refine br_f (by assumption) ?_ | refine br_nt (by assumption) ?_ | refine br_nf (by assumption) ?_ | refine ⟨_, rfl, ?_⟩ | refine ⟨by assumption, ?_⟩); (conv => whnf)))
      exact ⟨rfl, h⟩
    · conv => whnf
      (repeat ((first | refine br_t (by decide) ?_ | refine br_f (by decide) ?_ | refine br_nt (by decide) ?_ | refine br_nf (by decide) ?_ | refine br_t (by assumption) ?_ | refine br_f (by assumption) ?_ | refine br_nt (by assumption) ?_ | refine br_nf (by assumption) ?_ | refine ⟨_, rfl, ?_⟩ | refine ⟨by assumption, ?_⟩); (conv => whnf)))
      exact ⟨rfl, h⟩
  · conv => whnf
    (repeat ((first | refine br_t (by decide) ?_ | refine br_f (by decide) ?_ | refine br_nt (by decide) ?_ | refine br_nf (by decide) ?_ | refine br_t (by assumption) ?_ | refine br_f (by assumption) ?_ | refine br_nt (by assumption) ?_ | refine br_nf (by assumption) ?_ | refine ⟨_, rfl, ?_⟩ | refine ⟨by assumption, ?_⟩); (conv => whnf)))
    exact ⟨rfl, h⟩
  · conv => whnf
    (repeat ((first | refine br_t (by decide) ?_ | refine br_f (by decide) ?_ | refine br_nt (by decide) ?_ | refine br_nf (by decide) ?_ | refine br_t (by assumption) ?_ | refine br_f (by assumption) ?_ | refine br_nt (by assumption) ?_ | refine br_nf (by assumption) ?_ | refine ⟨_, rfl, ?_⟩ | refine ⟨by assumption, ?_⟩); (conv => whnf)))
    exact ⟨rfl, h⟩
