theorem cCount_cg {f g : Nat → Int32} : ∀ n, (∀ i, i < n → f i = g i) → cCount f n = cCount g n
  | 0, _ => rfl
  | n + 1, h => by
    show cCount f n + pcb (f n) 13 = cCount g n + pcb (g n) 13
    rw [cCount_cg n (fun i hi => h i (by omega)), h n (by omega)]
theorem le01 {a : Int32} (h : 1 ≤ a) : 0 ≤ a := by
  rw [i_le] at h ⊢
  have e0 : (0 : Int32).toInt = 0 := by decide
  have e1 : (1 : Int32).toInt = 1 := by decide
  omega
theorem lo_share (a : Int32) : lwI Inv T_X7_share T_X8_share [.int a] := by
  intro w h
  obtain ⟨N, Pn, E, H, hF, hT, hS⟩ := id h
  obtain ⟨hN, hP, hE, e10, e88, e9, e82, e11, e820, -⟩ := H.1
  have eN := (iP_P H).2.2.1
  have eN8 := (iP_P H).2.2.2.1
  have v10 : vp_in (w.1 1 10) 65 := i_in 65 e10 (by omega) (by decide)
  have v88 : vp_in (w.1 8 8) 65 := i_in 65 e88 (by omega) (by decide)
  rcases arg_k (a := a) 12 (by omega) with ⟨j, hj, ea, m1, m2, m3⟩ | ⟨m1, m3⟩ | ⟨m1, m2, m3⟩
  · by_cases h0 : a = 0
    · have m4 : ¬ (1 ≤ a ∧ a ≤ 12) := by
        rw [h0]
        decide
      conv => whnf
      (repeat ((first | refine br_t (by decide) ?_ | refine br_f (by decide) ?_ | refine br_nt (by decide) ?_ | refine br_nf (by decide) ?_ | refine br_t (by assumption) ?_ | refine br_f (by assumption) ?_ | refine br_nt (by assumption) ?_ | refine br_nf (by assumption) ?_ | refine ⟨_, rfl, ?_⟩ | refine ⟨by assumption, ?_⟩); (conv => whnf)))
      exact ⟨rfl, h⟩
    · have hj0 : 1 ≤ j := by
        rcases Nat.eq_zero_or_pos j with z | z
        · exact absurd (by rw [ea, z]; rfl) h0
        · exact z
      have m4 : 1 ≤ a ∧ a ≤ 12 := ⟨by rw [ea]; exact nI_le (a := 1) hj0 (by omega), m3.2⟩
      have va : vp_in a 13 := i_in 13 ea (by omega) (by decide)
      rcases sol_c hS with ⟨z1, z2⟩ | ⟨z1, z2, z3, z4⟩ | ⟨t, z1, z2, z3, z4, q1, q2, q5, q6⟩
      · conv => whnf
        (repeat ((first | refine br_t (by decide) ?_ | refine br_f (by decide) ?_ | refine br_nt (by decide) ?_ | refine br_nf (by decide) ?_ | refine br_t (by assumption) ?_ | refine br_f (by assumption) ?_ | refine br_nt (by assumption) ?_ | refine br_nf (by assumption) ?_ | refine ⟨_, rfl, ?_⟩ | refine ⟨by assumption, ?_⟩); (conv => whnf)))
        exact ⟨rfl, h⟩
      · conv => whnf
        (repeat ((first | refine br_t (by decide) ?_ | refine br_f (by decide) ?_ | refine br_nt (by decide) ?_ | refine br_nf (by decide) ?_ | refine br_t (by assumption) ?_ | refine br_f (by assumption) ?_ | refine br_nt (by assumption) ?_ | refine br_nf (by assumption) ?_ | refine ⟨_, rfl, ?_⟩ | refine ⟨by assumption, ?_⟩); (conv => whnf)))
        exact ⟨rfl, h⟩
      · have p1 : vp_in (w.1 1 10) 65 ∧ ∀ j, j < 832 → fs (w.1 20 j) := ⟨v10, q1.2.2.2.2.2⟩
        have key : ∀ x : Int32, cCount (fun n => qq_or (w.1 56) (13 * n) 13 &&& x) (qn (w.1 8 8)) = cCount (fun n => qq_or (w.1 20) (13 * n) 13 &&& x) (qn (w.1 1 10)) := by
          intro x
          rw [eN, eN8]
          exact cCount_cg N (fun i hi => by show qq_or (w.1 56) (13 * i) 13 &&& x = qq_or (w.1 20) (13 * i) 13 &&& x; rw [hold_eq q1 q2 (by omega)])
        have b1 := cCount_le (fun n => qq_or (w.1 20) (13 * n) 13 &&& 8190) (qn (w.1 1 10))
        by_cases hz : cCount (fun n => qq_or (w.1 20) (13 * n) 13 &&& 8190) (qn (w.1 1 10)) = 0
        · have y1 : nI (cCount (fun n => qq_or (w.1 20) (13 * n) 13 &&& 8190) (qn (w.1 1 10))) = 0 := by rw [hz]; rfl
          have f4 := vk4
          conv => whnf
          (repeat ((first | refine br_t (by decide) ?_ | refine br_f (by decide) ?_ | refine br_nt (by decide) ?_ | refine br_nf (by decide) ?_ | refine br_t (by assumption) ?_ | refine br_f (by assumption) ?_ | refine br_nt (by assumption) ?_ | refine br_nf (by assumption) ?_ | refine ⟨_, rfl, ?_⟩ | refine ⟨by assumption, ?_⟩); (conv => whnf)))
          refine ⟨rfl, rfl, a, ⟨rfl, rfl, rfl, rfl, rfl, trivial⟩, va, by rw [ea, qn_nI (by omega)]; exact hj0, v88, fun _ => ?_, fun z => ?_⟩
          · exact ⟨rfl, Inv_fnd h 4 (by decide)⟩
          · refine absurd ?_ z
            exact (key 8190).trans hz
        · have y1 : ¬ nI (cCount (fun n => qq_or (w.1 20) (13 * n) 13 &&& 8190) (qn (w.1 1 10))) = 0 := fun z => hz (nI_inj (b := 0) (by omega) (by decide) z)
          conv => whnf
          (repeat ((first | refine br_t (by decide) ?_ | refine br_f (by decide) ?_ | refine br_nt (by decide) ?_ | refine br_nf (by decide) ?_ | refine br_t (by assumption) ?_ | refine br_f (by assumption) ?_ | refine br_nt (by assumption) ?_ | refine br_nf (by assumption) ?_ | refine ⟨_, rfl, ?_⟩ | refine ⟨by assumption, ?_⟩); (conv => whnf)))
          refine ⟨rfl, rfl, a, ⟨rfl, rfl, rfl, rfl, rfl, trivial⟩, va, by rw [ea, qn_nI (by omega)]; exact hj0, v88, fun z => ?_, fun _ => ⟨?_, h⟩⟩
          · refine absurd ?_ hz
            exact (key 8190).symm.trans z
          · show some (Value.int (1000 * nI (cCount (fun n => qq_or (w.1 56) (13 * n) 13 &&& ((1 : Int32) <<< (a &&& 31))) (qn (w.1 8 8))) / nI (cCount (fun n => qq_or (w.1 56) (13 * n) 13 &&& 8190) (qn (w.1 8 8))))) = _
            rw [key, key]
  · have h0 : ¬ a = 0 := by
      rintro rfl
      exact absurd m1 (by decide)
    have m4 : ¬ (1 ≤ a ∧ a ≤ 12) := fun z => m3 ⟨le01 z.1, z.2⟩
    conv => whnf
    (repeat ((first | refine br_t (by decide) ?_ | refine br_f (by decide) ?_ | refine br_nt (by decide) ?_ | refine br_nf (by decide) ?_ | refine br_t (by assumption) ?_ | refine br_f (by assumption) ?_ | refine br_nt (by assumption) ?_ | refine br_nf (by assumption) ?_ | refine ⟨_, rfl, ?_⟩ | refine ⟨by assumption, ?_⟩); (conv => whnf)))
    exact ⟨rfl, h⟩
  · have h0 : ¬ a = 0 := by
      rintro rfl
      exact absurd m2 (by decide)
    have m4 : ¬ (1 ≤ a ∧ a ≤ 12) := fun z => m3 ⟨(i_nlt a 0).mp m1, z.2⟩
    conv => whnf
    (repeat ((first | refine br_t (by decide) ?_ | refine br_f (by decide) ?_ | refine br_nt (by decide) ?_ | refine br_nf (by decide) ?_ | refine br_t (by assumption) ?_ | refine br_f (by assumption) ?_ | refine br_nt (by assumption) ?_ | refine br_nf (by assumption) ?_ | refine ⟨_, rfl, ?_⟩ | refine ⟨by assumption, ?_⟩); (conv => whnf)))
    exact ⟨rfl, h⟩
theorem lo_goes (a b c : Int32) : lwI Inv T_X7_goes T_X8_goes [.int a, .int b, .int c] := by
  intro w h
  obtain ⟨N, Pn, E, H, hF, hT, hS⟩ := id h
  obtain ⟨hN, hP, hE, e10, e88, e9, e82, e11, e820, -⟩ := H.1
  rcases arg_c (a := a) (by omega) e10 e88 with ⟨n, hn, ea, k1, k2, k3⟩ | ⟨k1, k3⟩ | ⟨k1, k2, k3⟩
  · have hv : vp_in a 64 := i_in 64 ea (by omega) (by decide)
    rcases arg_k (a := c) 12 (by omega) with ⟨j, hj, ec, m1, m2, m3⟩ | ⟨m1, m3⟩ | ⟨m1, m2, m3⟩
    · have hv2 : vp_in c 13 := i_in 13 ec (by omega) (by decide)
      rcases arg_k (a := b) 2 (by omega) with ⟨p, hp, eb, y1, y2, y3⟩ | ⟨y1, y3⟩ | ⟨y1, y2, y3⟩
      · have hv3 : vp_in b 3 := i_in 3 eb (by omega) (by decide)
        have c1 := nI_ml ea (x := 1) (i := 1) rfl (nI_lit 10)
        have v1 : vp_in (a * 10 + 1) 640 := i_in 640 c1 (by omega) (by decide)
        have ka : a.toNatClampNeg = n := i_c ea (by omega)
        have qa : qn a = n := ka
        have qc : qn c = j := i_c ec (by omega)
        have qb : qn b = p := i_c eb (by omega)
        have s1 : w.1 13 (a * 10 + 1).toNatClampNeg = cX w n 1 := by rw [i_c c1 (by omega)]
        have t1 : w.1 43 a.toNatClampNeg = cX w n 1 := by rw [ka, (iP_tell H hn).2.1]
        have pc : vp_in a 64 ∧ vp_in b 3 ∧ vp_in c 13 ∧ cFN w (qn a) := ⟨hv, hv3, hv2, by rw [qa]; exact (iP_mFN H hn).1⟩
        have pm : vp_in a 64 ∧ vp_in b 3 ∧ vp_in c 13 ∧ mFN w (qn a) := ⟨hv, hv3, hv2, by rw [qa]; exact (iP_mFN H hn).2⟩
        have fin : ∀ x y, cTgt w (qn a) (qn b) c x → mTgt w (qn a) (qn b) c y → y = x := by
          intro x y hx hy
          rw [qa, qb, ec] at hx hy
          exact tg_uq hy ((tg_eq H hn (by omega) (by omega)).mp hx)
        by_cases h0 : b = 0
        · have x0 : ¬ 0 < b := by
            rw [h0]
            decide
          have x1 : b ≤ 0 := by
            rw [h0]
            decide
          conv => whnf
          (repeat ((first | refine br_t (by decide) ?_ | refine br_f (by decide) ?_ | refine br_nt (by decide) ?_ | refine br_nf (by decide) ?_ | refine br_t (by assumption) ?_ | refine br_f (by assumption) ?_ | refine br_nt (by assumption) ?_ | refine br_nf (by assumption) ?_ | refine ⟨_, rfl, ?_⟩ | refine ⟨by assumption, ?_⟩); (conv => whnf)))
          intro x hx
          conv => whnf
          (repeat ((first | refine br_t (by decide) ?_ | refine br_f (by decide) ?_ | refine br_nt (by decide) ?_ | refine br_nf (by decide) ?_ | refine br_t (by assumption) ?_ | refine br_f (by assumption) ?_ | refine br_nt (by assumption) ?_ | refine br_nf (by assumption) ?_ | refine ⟨_, rfl, ?_⟩ | refine ⟨by assumption, ?_⟩); (conv => whnf)))
          intro y hy
          conv => whnf
          exact ⟨by rw [fin x y hx hy], h⟩
        · have x0 : 0 < b := by
            rw [i_lt]
            have g1 := i_le.mp y3.1
            have e0 : (0 : Int32).toInt = 0 := by decide
            have : ¬ b.toInt = 0 := fun z => h0 (Int32.toInt_inj.mp (by rw [z, e0]))
            omega
          have x1 : ¬ b ≤ 0 := by
            rw [i_le]
            rw [i_lt] at x0
            omega
          by_cases h9 : cX w n 1 = 9
          · have g1 : w.1 13 (a * 10 + 1).toNatClampNeg = 9 := s1.trans h9
            have g2 : w.1 43 a.toNatClampNeg = 9 := t1.trans h9
            conv => whnf
            (repeat ((first | refine br_t (by decide) ?_ | refine br_f (by decide) ?_ | refine br_nt (by decide) ?_ | refine br_nf (by decide) ?_ | refine br_t (by assumption) ?_ | refine br_f (by assumption) ?_ | refine br_nt (by assumption) ?_ | refine br_nf (by assumption) ?_ | refine ⟨_, rfl, ?_⟩ | refine ⟨by assumption, ?_⟩); (conv => whnf)))
            intro x hx
            conv => whnf
            (repeat ((first | refine br_t (by decide) ?_ | refine br_f (by decide) ?_ | refine br_nt (by decide) ?_ | refine br_nf (by decide) ?_ | refine br_t (by assumption) ?_ | refine br_f (by assumption) ?_ | refine br_nt (by assumption) ?_ | refine br_nf (by assumption) ?_ | refine ⟨_, rfl, ?_⟩ | refine ⟨by assumption, ?_⟩); (conv => whnf)))
            intro y hy
            conv => whnf
            exact ⟨by rw [fin x y hx hy], h⟩
          · have g1 : ¬ w.1 13 (a * 10 + 1).toNatClampNeg = 9 := fun z => h9 (s1.symm.trans z)
            have g2 : ¬ w.1 43 a.toNatClampNeg = 9 := fun z => h9 (t1.symm.trans z)
            have f3 := vk3
            conv => whnf
            (repeat ((first | refine br_t (by decide) ?_ | refine br_f (by decide) ?_ | refine br_nt (by decide) ?_ | refine br_nf (by decide) ?_ | refine br_t (by assumption) ?_ | refine br_f (by assumption) ?_ | refine br_nt (by assumption) ?_ | refine br_nf (by assumption) ?_ | refine ⟨_, rfl, ?_⟩ | refine ⟨by assumption, ?_⟩); (conv => whnf)))
            exact ⟨rfl, Inv_fnd h 3 (by decide)⟩
      · conv => whnf
        (repeat ((first | refine br_t (by decide) ?_ | refine br_f (by decide) ?_ | refine br_nt (by decide) ?_ | refine br_nf (by decide) ?_ | refine br_t (by assumption) ?_ | refine br_f (by assumption) ?_ | refine br_nt (by assumption) ?_ | refine br_nf (by assumption) ?_ | refine ⟨_, rfl, ?_⟩ | refine ⟨by assumption, ?_⟩); (conv => whnf)))
        exact ⟨rfl, h⟩
      · conv => whnf
        (repeat ((first | refine br_t (by decide) ?_ | refine br_f (by decide) ?_ | refine br_nt (by decide) ?_ | refine br_nf (by decide) ?_ | refine br_t (by assumption) ?_ | refine br_f (by assumption) ?_ | refine br_nt (by assumption) ?_ | refine br_nf (by assumption) ?_ | refine ⟨_, rfl, ?_⟩ | refine ⟨by assumption, ?_⟩); (conv => whnf)))
        exact ⟨rfl, h⟩
    · rcases arg_k (a := b) 2 (by omega) with ⟨p, hp, eb, y1, y2, y3⟩ | ⟨y1, y3⟩ | ⟨y1, y2, y3⟩ <;> ((conv => whnf); (repeat ((first | refine br_t (by decide) ?_ | refine br_f (by decide) ?_ | refine br_nt (by decide) ?_ | refine br_nf (by decide) ?_ | refine br_t (by assumption) ?_ | refine br_f (by assumption) ?_ | refine br_nt (by assumption) ?_ | refine br_nf (by assumption) ?_ | refine ⟨_, rfl, ?_⟩ | refine ⟨by assumption, ?_⟩); (conv => whnf))); exact ⟨rfl, h⟩)
    · rcases arg_k (a := b) 2 (by omega) with ⟨p, hp, eb, y1, y2, y3⟩ | ⟨y1, y3⟩ | ⟨y1, y2, y3⟩ <;> ((conv => whnf); (repeat ((first | refine br_t (by decide) ?_ | refine br_f (by decide) ?_ | refine br_nt (by decide) ?_ | refine br_nf (by decide) ?_ | refine br_t (by assumption) ?_ | refine br_f (by assumption) ?_ | refine br_nt (by assumption) ?_ | refine br_nf (by assumption) ?_ | refine ⟨_, rfl, ?_⟩ | refine ⟨by assumption, ?_⟩); (conv => whnf))); exact ⟨rfl, h⟩)
  · conv => whnf
    (repeat ((first | refine br_t (by decide) ?_ | refine br_f (by decide) ?_ | refine br_nt (by decide) ?_ | refine br_nf (by decide) ?_ | refine br_t (by assumption) ?_ | refine br_f (by assumption) ?_ | refine br_nt (by assumption) ?_ | refine br_nf (by assumption) ?_ | refine ⟨_, rfl, ?_⟩ | refine ⟨by assumption, ?_⟩); (conv => whnf)))
    exact ⟨rfl, h⟩
  · conv => whnf
    (repeat ((first | refine br_t (by decide) ?_ | refine br_f (by decide) ?_ | refine br_nt (by decide) ?_ | refine br_nf (by decide) ?_ | refine br_t (by assumption) ?_ | refine br_f (by assumption) ?_ | refine br_nt (by assumption) ?_ | refine br_nf (by assumption) ?_ | refine ⟨_, rfl, ?_⟩ | refine ⟨by assumption, ?_⟩); (conv => whnf)))
    exact ⟨rfl, h⟩
