set_option maxHeartbeats 32000000 in
theorem lo_node (a b x y z : Int32) : lwI Inv T_X7_node T_X8_node [.int a, .int b, .int x, .int y, .int z] := by
  intro w h
  obtain ⟨N, Pn, E, H, hF, hT, hS⟩ := id h
  obtain ⟨hN, hP, hE, e10, e88, e9, e82, -⟩ := H.1
  rcases arg_c (a := a) (by omega) e9 e82 with ⟨n, hn, ea, k1, k2, k3⟩ | ⟨k1, k3⟩ | ⟨k1, k2, k3⟩
  · have hv : vp_in a 8 := i_in 8 ea (by omega) (by decide)
    have ka : a.toNatClampNeg = n := i_c ea (by omega)
    have hpr := H.2.2.1 n hn
    rcases kd_c (b := b) with ⟨j, hj2, hj8, rfl⟩ | ⟨b1, b3⟩ | ⟨b1, b2, b3⟩
    · rcases (show j = 2 ∨ j = 3 ∨ j = 4 ∨ j = 5 ∨ j = 6 ∨ j = 7 ∨ j = 8 by omega) with rfl | rfl | rfl | rfl | rfl | rfl | rfl
      · have hvk : vp_in (nI 2) 11 := i_in 11 rfl (by decide) (by decide)
        have hu : ¬ qq_under (qn (nI 2)) 4 := by
          unfold qq_under
          decide
        by_cases hfull : N = 64
        · have hr1 : 64 < w.1 1 10 + 1 := by
            rw [e10, hfull]
            decide
          have hr2 : w.1 8 8 = 64 := by
            rw [e88, hfull]
            rfl
          ((conv => whnf); (repeat ((first | refine br_t (by decide) ?_ | refine br_f (by decide) ?_ | refine br_nt (by decide) ?_ | refine br_nf (by decide) ?_ | refine ⟨_, rfl, ?_⟩ | refine br_t (by with_reducible assumption) ?_ | refine br_f (by with_reducible assumption) ?_ | refine br_nt (by with_reducible assumption) ?_ | refine br_nf (by with_reducible assumption) ?_ | refine ⟨by with_reducible assumption, ?_⟩ | refine ⟨Or.inl rfl, ?_⟩ | refine br_t (by assumption) ?_ | refine br_f (by assumption) ?_ | refine br_nt (by assumption) ?_ | refine br_nf (by assumption) ?_ | refine ⟨by assumption, ?_⟩); (conv => whnf))); exact ⟨rfl, h⟩)
        · have hr1 : ¬ 64 < w.1 1 10 + 1 := by
            rw [e10, nI_1, i_lt, nI_toInt (by omega)]
            have : (64 : Int32).toInt = 64 := by decide
            omega
          exact nd_2 h H hF hT hS hn ea k1 k2 k3 hv hr1 (by omega) 
      · have hvk : vp_in (nI 3) 11 := i_in 11 rfl (by decide) (by decide)
        have hu : ¬ qq_under (qn (nI 3)) 4 := by
          unfold qq_under
          decide
        rcases var_c2 hpr x (w.1 9 a.toNatClampNeg) (w.1 37 a.toNatClampNeg) (by rw [ka]) (by rw [ka]) with ⟨xX0, -, xX1, xX2, xX4⟩ | ⟨-, xX2, xX4⟩ | ⟨-, xX1, xX2, xX4⟩
        · by_cases hfull : N = 64
          · have hr1 : 64 < w.1 1 10 + 1 := by
              rw [e10, hfull]
              decide
            have hr2 : w.1 8 8 = 64 := by
              rw [e88, hfull]
              rfl
            ((conv => whnf); (repeat ((first | refine br_t (by decide) ?_ | refine br_f (by decide) ?_ | refine br_nt (by decide) ?_ | refine br_nf (by decide) ?_ | refine ⟨_, rfl, ?_⟩ | refine br_t (by with_reducible assumption) ?_ | refine br_f (by with_reducible assumption) ?_ | refine br_nt (by with_reducible assumption) ?_ | refine br_nf (by with_reducible assumption) ?_ | refine ⟨by with_reducible assumption, ?_⟩ | refine ⟨Or.inl rfl, ?_⟩ | refine br_t (by assumption) ?_ | refine br_f (by assumption) ?_ | refine br_nt (by assumption) ?_ | refine br_nf (by assumption) ?_ | refine ⟨by assumption, ?_⟩); (conv => whnf))); exact ⟨rfl, h⟩)
          · have hr1 : ¬ 64 < w.1 1 10 + 1 := by
              rw [e10, nI_1, i_lt, nI_toInt (by omega)]
              have : (64 : Int32).toInt = 64 := by decide
              omega
            exact nd_3 h H hF hT hS hn ea k1 k2 k3 hv hr1 (by omega) xX0 xX1 xX2 xX4
        · ((conv => whnf); (repeat ((first | refine br_t (by decide) ?_ | refine br_f (by decide) ?_ | refine br_nt (by decide) ?_ | refine br_nf (by decide) ?_ | refine ⟨_, rfl, ?_⟩ | refine br_t (by with_reducible assumption) ?_ | refine br_f (by with_reducible assumption) ?_ | refine br_nt (by with_reducible assumption) ?_ | refine br_nf (by with_reducible assumption) ?_ | refine ⟨by with_reducible assumption, ?_⟩ | refine ⟨Or.inl rfl, ?_⟩ | refine br_t (by assumption) ?_ | refine br_f (by assumption) ?_ | refine br_nt (by assumption) ?_ | refine br_nf (by assumption) ?_ | refine ⟨by assumption, ?_⟩); (conv => whnf))); exact ⟨rfl, h⟩)
        · ((conv => whnf); (repeat ((first | refine br_t (by decide) ?_ | refine br_f (by decide) ?_ | refine br_nt (by decide) ?_ | refine br_nf (by decide) ?_ | refine ⟨_, rfl, ?_⟩ | refine br_t (by with_reducible assumption) ?_ | refine br_f (by with_reducible assumption) ?_ | refine br_nt (by with_reducible assumption) ?_ | refine br_nf (by with_reducible assumption) ?_ | refine ⟨by with_reducible assumption, ?_⟩ | refine ⟨Or.inl rfl, ?_⟩ | refine br_t (by assumption) ?_ | refine br_f (by assumption) ?_ | refine br_nt (by assumption) ?_ | refine br_nf (by assumption) ?_ | refine ⟨by assumption, ?_⟩); (conv => whnf))); exact ⟨rfl, h⟩)
      · have hvk : vp_in (nI 4) 11 := i_in 11 rfl (by decide) (by decide)
        have hu : qq_under (qn (nI 4)) 4 := by
          unfold qq_under
          decide
        rcases var_c2 hpr x (w.1 9 a.toNatClampNeg) (w.1 37 a.toNatClampNeg) (by rw [ka]) (by rw [ka]) with ⟨xX0, -, xX1, xX2, xX4⟩ | ⟨-, xX2, xX4⟩ | ⟨-, xX1, xX2, xX4⟩
        · rcases var_c2 hpr y (w.1 9 a.toNatClampNeg) (w.1 37 a.toNatClampNeg) (by rw [ka]) (by rw [ka]) with ⟨xY0, -, xY1, xY2, xY4⟩ | ⟨-, xY2, xY4⟩ | ⟨-, xY1, xY2, xY4⟩
          · by_cases hfull : N = 64
            · have hr1 : 64 < w.1 1 10 + 1 := by
                rw [e10, hfull]
                decide
              have hr2 : w.1 8 8 = 64 := by
                rw [e88, hfull]
                rfl
              ((conv => whnf); (repeat ((first | refine br_t (by decide) ?_ | refine br_f (by decide) ?_ | refine br_nt (by decide) ?_ | refine br_nf (by decide) ?_ | refine ⟨_, rfl, ?_⟩ | refine br_t (by with_reducible assumption) ?_ | refine br_f (by with_reducible assumption) ?_ | refine br_nt (by with_reducible assumption) ?_ | refine br_nf (by with_reducible assumption) ?_ | refine ⟨by with_reducible assumption, ?_⟩ | refine ⟨Or.inl rfl, ?_⟩ | refine br_t (by assumption) ?_ | refine br_f (by assumption) ?_ | refine br_nt (by assumption) ?_ | refine br_nf (by assumption) ?_ | refine ⟨by assumption, ?_⟩); (conv => whnf))); exact ⟨rfl, h⟩)
            · have hr1 : ¬ 64 < w.1 1 10 + 1 := by
                rw [e10, nI_1, i_lt, nI_toInt (by omega)]
                have : (64 : Int32).toInt = 64 := by decide
                omega
              exact nd_4 h H hF hT hS hn ea k1 k2 k3 hv hr1 (by omega) xX0 xX1 xX2 xX4 xY0 xY1 xY2 xY4
          · ((conv => whnf); (repeat ((first | refine br_t (by decide) ?_ | refine br_f (by decide) ?_ | refine br_nt (by decide) ?_ | refine br_nf (by decide) ?_ | refine ⟨_, rfl, ?_⟩ | refine br_t (by with_reducible assumption) ?_ | refine br_f (by with_reducible assumption) ?_ | refine br_nt (by with_reducible assumption) ?_ | refine br_nf (by with_reducible assumption) ?_ | refine ⟨by with_reducible assumption, ?_⟩ | refine ⟨Or.inl rfl, ?_⟩ | refine br_t (by assumption) ?_ | refine br_f (by assumption) ?_ | refine br_nt (by assumption) ?_ | refine br_nf (by assumption) ?_ | refine ⟨by assumption, ?_⟩); (conv => whnf))); exact ⟨rfl, h⟩)
          · ((conv => whnf); (repeat ((first | refine br_t (by decide) ?_ | refine br_f (by decide) ?_ | refine br_nt (by decide) ?_ | refine br_nf (by decide) ?_ | refine ⟨_, rfl, ?_⟩ | refine br_t (by with_reducible assumption) ?_ | refine br_f (by with_reducible assumption) ?_ | refine br_nt (by with_reducible assumption) ?_ | refine br_nf (by with_reducible assumption) ?_ | refine ⟨by with_reducible assumption, ?_⟩ | refine ⟨Or.inl rfl, ?_⟩ | refine br_t (by assumption) ?_ | refine br_f (by assumption) ?_ | refine br_nt (by assumption) ?_ | refine br_nf (by assumption) ?_ | refine ⟨by assumption, ?_⟩); (conv => whnf))); exact ⟨rfl, h⟩)
        · ((conv => whnf); (repeat ((first | refine br_t (by decide) ?_ | refine br_f (by decide) ?_ | refine br_nt (by decide) ?_ | refine br_nf (by decide) ?_ | refine ⟨_, rfl, ?_⟩ | refine br_t (by with_reducible assumption) ?_ | refine br_f (by with_reducible assumption) ?_ | refine br_nt (by with_reducible assumption) ?_ | refine br_nf (by with_reducible assumption) ?_ | refine ⟨by with_reducible assumption, ?_⟩ | refine ⟨Or.inl rfl, ?_⟩ | refine br_t (by assumption) ?_ | refine br_f (by assumption) ?_ | refine br_nt (by assumption) ?_ | refine br_nf (by assumption) ?_ | refine ⟨by assumption, ?_⟩); (conv => whnf))); exact ⟨rfl, h⟩)
        · ((conv => whnf); (repeat ((first | refine br_t (by decide) ?_ | refine br_f (by decide) ?_ | refine br_nt (by decide) ?_ | refine br_nf (by decide) ?_ | refine ⟨_, rfl, ?_⟩ | refine br_t (by with_reducible assumption) ?_ | refine br_f (by with_reducible assumption) ?_ | refine br_nt (by with_reducible assumption) ?_ | refine br_nf (by with_reducible assumption) ?_ | refine ⟨by with_reducible assumption, ?_⟩ | refine ⟨Or.inl rfl, ?_⟩ | refine br_t (by assumption) ?_ | refine br_f (by assumption) ?_ | refine br_nt (by assumption) ?_ | refine br_nf (by assumption) ?_ | refine ⟨by assumption, ?_⟩); (conv => whnf))); exact ⟨rfl, h⟩)
      · have hvk : vp_in (nI 5) 11 := i_in 11 rfl (by decide) (by decide)
        have hu : qq_under (qn (nI 5)) 4 := by
          unfold qq_under
          decide
        rcases var_c2 hpr x (w.1 9 a.toNatClampNeg) (w.1 37 a.toNatClampNeg) (by rw [ka]) (by rw [ka]) with ⟨xX0, -, xX1, xX2, xX4⟩ | ⟨-, xX2, xX4⟩ | ⟨-, xX1, xX2, xX4⟩
        · rcases var_c2 hpr y (w.1 9 a.toNatClampNeg) (w.1 37 a.toNatClampNeg) (by rw [ka]) (by rw [ka]) with ⟨xY0, -, xY1, xY2, xY4⟩ | ⟨-, xY2, xY4⟩ | ⟨-, xY1, xY2, xY4⟩
          · rcases var_c2 hpr z (w.1 9 a.toNatClampNeg) (w.1 37 a.toNatClampNeg) (by rw [ka]) (by rw [ka]) with ⟨xZ0, -, xZ1, xZ2, xZ4⟩ | ⟨-, xZ2, xZ4⟩ | ⟨-, xZ1, xZ2, xZ4⟩
            · by_cases hfull : N = 64
              · have hr1 : 64 < w.1 1 10 + 1 := by
                  rw [e10, hfull]
                  decide
                have hr2 : w.1 8 8 = 64 := by
                  rw [e88, hfull]
                  rfl
                ((conv => whnf); (repeat ((first | refine br_t (by decide) ?_ | refine br_f (by decide) ?_ | refine br_nt (by decide) ?_ | refine br_nf (by decide) ?_ | refine ⟨_, rfl, ?_⟩ | refine br_t (by with_reducible assumption) ?_ | refine br_f (by with_reducible assumption) ?_ | refine br_nt (by with_reducible assumption) ?_ | refine br_nf (by with_reducible assumption) ?_ | refine ⟨by with_reducible assumption, ?_⟩ | refine ⟨Or.inl rfl, ?_⟩ | refine br_t (by assumption) ?_ | refine br_f (by assumption) ?_ | refine br_nt (by assumption) ?_ | refine br_nf (by assumption) ?_ | refine ⟨by assumption, ?_⟩); (conv => whnf))); exact ⟨rfl, h⟩)
              · have hr1 : ¬ 64 < w.1 1 10 + 1 := by
                  rw [e10, nI_1, i_lt, nI_toInt (by omega)]
                  have : (64 : Int32).toInt = 64 := by decide
                  omega
                exact nd_5 h H hF hT hS hn ea k1 k2 k3 hv hr1 (by omega) xX0 xX1 xX2 xX4 xY0 xY1 xY2 xY4 xZ0 xZ1 xZ2 xZ4
            · ((conv => whnf); (repeat ((first | refine br_t (by decide) ?_ | refine br_f (by decide) ?_ | refine br_nt (by decide) ?_ | refine br_nf (by decide) ?_ | refine ⟨_, rfl, ?_⟩ | refine br_t (by with_reducible assumption) ?_ | refine br_f (by with_reducible assumption) ?_ | refine br_nt (by with_reducible assumption) ?_ | refine br_nf (by with_reducible assumption) ?_ | refine ⟨by with_reducible assumption, ?_⟩ | refine ⟨Or.inl rfl, ?_⟩ | refine br_t (by assumption) ?_ | refine br_f (by assumption) ?_ | refine br_nt (by assumption) ?_ | refine br_nf (by assumption) ?_ | refine ⟨by assumption, ?_⟩); (conv => whnf))); exact ⟨rfl, h⟩)
            · ((conv => whnf); (repeat ((first | refine br_t (by decide) ?_ | refine br_f (by decide) ?_ | refine br_nt (by decide) ?_ | refine br_nf (by decide) ?_ | refine ⟨_, rfl, ?_⟩ | refine br_t (by with_reducible assumption) ?_ | refine br_f (by with_reducible assumption) ?_ | refine br_nt (by with_reducible assumption) ?_ | refine br_nf (by with_reducible assumption) ?_ | refine ⟨by with_reducible assumption, ?_⟩ | refine ⟨Or.inl rfl, ?_⟩ | refine br_t (by assumption) ?_ | refine br_f (by assumption) ?_ | refine br_nt (by assumption) ?_ | refine br_nf (by assumption) ?_ | refine ⟨by assumption, ?_⟩); (conv => whnf))); exact ⟨rfl, h⟩)
          · ((conv => whnf); (repeat ((first | refine br_t (by decide) ?_ | refine br_f (by decide) ?_ | refine br_nt (by decide) ?_ | refine br_nf (by decide) ?_ | refine ⟨_, rfl, ?_⟩ | refine br_t (by with_reducible assumption) ?_ | refine br_f (by with_reducible assumption) ?_ | refine br_nt (by with_reducible assumption) ?_ | refine br_nf (by with_reducible assumption) ?_ | refine ⟨by with_reducible assumption, ?_⟩ | refine ⟨Or.inl rfl, ?_⟩ | refine br_t (by assumption) ?_ | refine br_f (by assumption) ?_ | refine br_nt (by assumption) ?_ | refine br_nf (by assumption) ?_ | refine ⟨by assumption, ?_⟩); (conv => whnf))); exact ⟨rfl, h⟩)
          · ((conv => whnf); (repeat ((first | refine br_t (by decide) ?_ | refine br_f (by decide) ?_ | refine br_nt (by decide) ?_ | refine br_nf (by decide) ?_ | refine ⟨_, rfl, ?_⟩ | refine br_t (by with_reducible assumption) ?_ | refine br_f (by with_reducible assumption) ?_ | refine br_nt (by with_reducible assumption) ?_ | refine br_nf (by with_reducible assumption) ?_ | refine ⟨by with_reducible assumption, ?_⟩ | refine ⟨Or.inl rfl, ?_⟩ | refine br_t (by assumption) ?_ | refine br_f (by assumption) ?_ | refine br_nt (by assumption) ?_ | refine br_nf (by assumption) ?_ | refine ⟨by assumption, ?_⟩); (conv => whnf))); exact ⟨rfl, h⟩)
        · ((conv => whnf); (repeat ((first | refine br_t (by decide) ?_ | refine br_f (by decide) ?_ | refine br_nt (by decide) ?_ | refine br_nf (by decide) ?_ | refine ⟨_, rfl, ?_⟩ | refine br_t (by with_reducible assumption) ?_ | refine br_f (by with_reducible assumption) ?_ | refine br_nt (by with_reducible assumption) ?_ | refine br_nf (by with_reducible assumption) ?_ | refine ⟨by with_reducible assumption, ?_⟩ | refine ⟨Or.inl rfl, ?_⟩ | refine br_t (by assumption) ?_ | refine br_f (by assumption) ?_ | refine br_nt (by assumption) ?_ | refine br_nf (by assumption) ?_ | refine ⟨by assumption, ?_⟩); (conv => whnf))); exact ⟨rfl, h⟩)
        · ((conv => whnf); (repeat ((first | refine br_t (by decide) ?_ | refine br_f (by decide) ?_ | refine br_nt (by decide) ?_ | refine br_nf (by decide) ?_ | refine ⟨_, rfl, ?_⟩ | refine br_t (by with_reducible assumption) ?_ | refine br_f (by with_reducible assumption) ?_ | refine br_nt (by with_reducible assumption) ?_ | refine br_nf (by with_reducible assumption) ?_ | refine ⟨by with_reducible assumption, ?_⟩ | refine ⟨Or.inl rfl, ?_⟩ | refine br_t (by assumption) ?_ | refine br_f (by assumption) ?_ | refine br_nt (by assumption) ?_ | refine br_nf (by assumption) ?_ | refine ⟨by assumption, ?_⟩); (conv => whnf))); exact ⟨rfl, h⟩)
      · have hvk : vp_in (nI 6) 11 := i_in 11 rfl (by decide) (by decide)
        have hu : ¬ qq_under (qn (nI 6)) 4 := by
          unfold qq_under
          decide
        rcases var_c2 hpr x (w.1 9 a.toNatClampNeg) (w.1 37 a.toNatClampNeg) (by rw [ka]) (by rw [ka]) with ⟨xX0, -, xX1, xX2, xX4⟩ | ⟨-, xX2, xX4⟩ | ⟨-, xX1, xX2, xX4⟩
        · by_cases hfull : N = 64
          · have hr1 : 64 < w.1 1 10 + 1 := by
              rw [e10, hfull]
              decide
            have hr2 : w.1 8 8 = 64 := by
              rw [e88, hfull]
              rfl
            ((conv => whnf); (repeat ((first | refine br_t (by decide) ?_ | refine br_f (by decide) ?_ | refine br_nt (by decide) ?_ | refine br_nf (by decide) ?_ | refine ⟨_, rfl, ?_⟩ | refine br_t (by with_reducible assumption) ?_ | refine br_f (by with_reducible assumption) ?_ | refine br_nt (by with_reducible assumption) ?_ | refine br_nf (by with_reducible assumption) ?_ | refine ⟨by with_reducible assumption, ?_⟩ | refine ⟨Or.inl rfl, ?_⟩ | refine br_t (by assumption) ?_ | refine br_f (by assumption) ?_ | refine br_nt (by assumption) ?_ | refine br_nf (by assumption) ?_ | refine ⟨by assumption, ?_⟩); (conv => whnf))); exact ⟨rfl, h⟩)
          · have hr1 : ¬ 64 < w.1 1 10 + 1 := by
              rw [e10, nI_1, i_lt, nI_toInt (by omega)]
              have : (64 : Int32).toInt = 64 := by decide
              omega
            exact nd_6 h H hF hT hS hn ea k1 k2 k3 hv hr1 (by omega) xX0 xX1 xX2 xX4
        · ((conv => whnf); (repeat ((first | refine br_t (by decide) ?_ | refine br_f (by decide) ?_ | refine br_nt (by decide) ?_ | refine br_nf (by decide) ?_ | refine ⟨_, rfl, ?_⟩ | refine br_t (by with_reducible assumption) ?_ | refine br_f (by with_reducible assumption) ?_ | refine br_nt (by with_reducible assumption) ?_ | refine br_nf (by with_reducible assumption) ?_ | refine ⟨by with_reducible assumption, ?_⟩ | refine ⟨Or.inl rfl, ?_⟩ | refine br_t (by assumption) ?_ | refine br_f (by assumption) ?_ | refine br_nt (by assumption) ?_ | refine br_nf (by assumption) ?_ | refine ⟨by assumption, ?_⟩); (conv => whnf))); exact ⟨rfl, h⟩)
        · ((conv => whnf); (repeat ((first | refine br_t (by decide) ?_ | refine br_f (by decide) ?_ | refine br_nt (by decide) ?_ | refine br_nf (by decide) ?_ | refine ⟨_, rfl, ?_⟩ | refine br_t (by with_reducible assumption) ?_ | refine br_f (by with_reducible assumption) ?_ | refine br_nt (by with_reducible assumption) ?_ | refine br_nf (by with_reducible assumption) ?_ | refine ⟨by with_reducible assumption, ?_⟩ | refine ⟨Or.inl rfl, ?_⟩ | refine br_t (by assumption) ?_ | refine br_f (by assumption) ?_ | refine br_nt (by assumption) ?_ | refine br_nf (by assumption) ?_ | refine ⟨by assumption, ?_⟩); (conv => whnf))); exact ⟨rfl, h⟩)
      · have hvk : vp_in (nI 7) 11 := i_in 11 rfl (by decide) (by decide)
        have hu : ¬ qq_under (qn (nI 7)) 4 := by
          unfold qq_under
          decide
        rcases var_c2 hpr x (w.1 9 a.toNatClampNeg) (w.1 37 a.toNatClampNeg) (by rw [ka]) (by rw [ka]) with ⟨xX0, -, xX1, xX2, xX4⟩ | ⟨-, xX2, xX4⟩ | ⟨-, xX1, xX2, xX4⟩
        · by_cases hfull : N = 64
          · have hr1 : 64 < w.1 1 10 + 1 := by
              rw [e10, hfull]
              decide
            have hr2 : w.1 8 8 = 64 := by
              rw [e88, hfull]
              rfl
            ((conv => whnf); (repeat ((first | refine br_t (by decide) ?_ | refine br_f (by decide) ?_ | refine br_nt (by decide) ?_ | refine br_nf (by decide) ?_ | refine ⟨_, rfl, ?_⟩ | refine br_t (by with_reducible assumption) ?_ | refine br_f (by with_reducible assumption) ?_ | refine br_nt (by with_reducible assumption) ?_ | refine br_nf (by with_reducible assumption) ?_ | refine ⟨by with_reducible assumption, ?_⟩ | refine ⟨Or.inl rfl, ?_⟩ | refine br_t (by assumption) ?_ | refine br_f (by assumption) ?_ | refine br_nt (by assumption) ?_ | refine br_nf (by assumption) ?_ | refine ⟨by assumption, ?_⟩); (conv => whnf))); exact ⟨rfl, h⟩)
          · have hr1 : ¬ 64 < w.1 1 10 + 1 := by
              rw [e10, nI_1, i_lt, nI_toInt (by omega)]
              have : (64 : Int32).toInt = 64 := by decide
              omega
            exact nd_7 h H hF hT hS hn ea k1 k2 k3 hv hr1 (by omega) xX0 xX1 xX2 xX4
        · ((conv => whnf); (repeat ((first | refine br_t (by decide) ?_ | refine br_f (by decide) ?_ | refine br_nt (by decide) ?_ | refine br_nf (by decide) ?_ | refine ⟨_, rfl, ?_⟩ | refine br_t (by with_reducible assumption) ?_ | refine br_f (by with_reducible assumption) ?_ | refine br_nt (by with_reducible assumption) ?_ | refine br_nf (by with_reducible assumption) ?_ | refine ⟨by with_reducible assumption, ?_⟩ | refine ⟨Or.inl rfl, ?_⟩ | refine br_t (by assumption) ?_ | refine br_f (by assumption) ?_ | refine br_nt (by assumption) ?_ | refine br_nf (by assumption) ?_ | refine ⟨by assumption, ?_⟩); (conv => whnf))); exact ⟨rfl, h⟩)
        · ((conv => whnf); (repeat ((first | refine br_t (by decide) ?_ | refine br_f (by decide) ?_ | refine br_nt (by decide) ?_ | refine br_nf (by decide) ?_ | refine ⟨_, rfl, ?_⟩ | refine br_t (by with_reducible assumption) ?_ | refine br_f (by with_reducible assumption) ?_ | refine br_nt (by with_reducible assumption) ?_ | refine br_nf (by with_reducible assumption) ?_ | refine ⟨by with_reducible assumption, ?_⟩ | refine ⟨Or.inl rfl, ?_⟩ | refine br_t (by assumption) ?_ | refine br_f (by assumption) ?_ | refine br_nt (by assumption) ?_ | refine br_nf (by assumption) ?_ | refine ⟨by assumption, ?_⟩); (conv => whnf))); exact ⟨rfl, h⟩)
      · have hvk : vp_in (nI 8) 11 := i_in 11 rfl (by decide) (by decide)
        have hu : ¬ qq_under (qn (nI 8)) 4 := by
          unfold qq_under
          decide
        rcases var_c2 hpr x (w.1 9 a.toNatClampNeg) (w.1 37 a.toNatClampNeg) (by rw [ka]) (by rw [ka]) with ⟨xX0, -, xX1, xX2, xX4⟩ | ⟨-, xX2, xX4⟩ | ⟨-, xX1, xX2, xX4⟩
        · by_cases hfull : N = 64
          · have hr1 : 64 < w.1 1 10 + 1 := by
              rw [e10, hfull]
              decide
            have hr2 : w.1 8 8 = 64 := by
              rw [e88, hfull]
              rfl
            ((conv => whnf); (repeat ((first | refine br_t (by decide) ?_ | refine br_f (by decide) ?_ | refine br_nt (by decide) ?_ | refine br_nf (by decide) ?_ | refine ⟨_, rfl, ?_⟩ | refine br_t (by with_reducible assumption) ?_ | refine br_f (by with_reducible assumption) ?_ | refine br_nt (by with_reducible assumption) ?_ | refine br_nf (by with_reducible assumption) ?_ | refine ⟨by with_reducible assumption, ?_⟩ | refine ⟨Or.inl rfl, ?_⟩ | refine br_t (by assumption) ?_ | refine br_f (by assumption) ?_ | refine br_nt (by assumption) ?_ | refine br_nf (by assumption) ?_ | refine ⟨by assumption, ?_⟩); (conv => whnf))); exact ⟨rfl, h⟩)
          · have hr1 : ¬ 64 < w.1 1 10 + 1 := by
              rw [e10, nI_1, i_lt, nI_toInt (by omega)]
              have : (64 : Int32).toInt = 64 := by decide
              omega
            exact nd_8 h H hF hT hS hn ea k1 k2 k3 hv hr1 (by omega) xX0 xX1 xX2 xX4
        · ((conv => whnf); (repeat ((first | refine br_t (by decide) ?_ | refine br_f (by decide) ?_ | refine br_nt (by decide) ?_ | refine br_nf (by decide) ?_ | refine ⟨_, rfl, ?_⟩ | refine br_t (by with_reducible assumption) ?_ | refine br_f (by with_reducible assumption) ?_ | refine br_nt (by with_reducible assumption) ?_ | refine br_nf (by with_reducible assumption) ?_ | refine ⟨by with_reducible assumption, ?_⟩ | refine ⟨Or.inl rfl, ?_⟩ | refine br_t (by assumption) ?_ | refine br_f (by assumption) ?_ | refine br_nt (by assumption) ?_ | refine br_nf (by assumption) ?_ | refine ⟨by assumption, ?_⟩); (conv => whnf))); exact ⟨rfl, h⟩)
        · ((conv => whnf); (repeat ((first | refine br_t (by decide) ?_ | refine br_f (by decide) ?_ | refine br_nt (by decide) ?_ | refine br_nf (by decide) ?_ | refine ⟨_, rfl, ?_⟩ | refine br_t (by with_reducible assumption) ?_ | refine br_f (by with_reducible assumption) ?_ | refine br_nt (by with_reducible assumption) ?_ | refine br_nf (by with_reducible assumption) ?_ | refine ⟨by with_reducible assumption, ?_⟩ | refine ⟨Or.inl rfl, ?_⟩ | refine br_t (by assumption) ?_ | refine br_f (by assumption) ?_ | refine br_nt (by assumption) ?_ | refine br_nf (by assumption) ?_ | refine ⟨by assumption, ?_⟩); (conv => whnf))); exact ⟨rfl, h⟩)
    · ((conv => whnf); (repeat ((first | refine br_t (by decide) ?_ | refine br_f (by decide) ?_ | refine br_nt (by decide) ?_ | refine br_nf (by decide) ?_ | refine ⟨_, rfl, ?_⟩ | refine br_t (by with_reducible assumption) ?_ | refine br_f (by with_reducible assumption) ?_ | refine br_nt (by with_reducible assumption) ?_ | refine br_nf (by with_reducible assumption) ?_ | refine ⟨by with_reducible assumption, ?_⟩ | refine ⟨Or.inl rfl, ?_⟩ | refine br_t (by assumption) ?_ | refine br_f (by assumption) ?_ | refine br_nt (by assumption) ?_ | refine br_nf (by assumption) ?_ | refine ⟨by assumption, ?_⟩); (conv => whnf))); exact ⟨rfl, h⟩)
    · have b2' : ¬ b ≤ 8 := by
        rw [i_le]
        rw [i_lt] at b2
        omega
      ((conv => whnf); (repeat ((first | refine br_t (by decide) ?_ | refine br_f (by decide) ?_ | refine br_nt (by decide) ?_ | refine br_nf (by decide) ?_ | refine ⟨_, rfl, ?_⟩ | refine br_t (by with_reducible assumption) ?_ | refine br_f (by with_reducible assumption) ?_ | refine br_nt (by with_reducible assumption) ?_ | refine br_nf (by with_reducible assumption) ?_ | refine ⟨by with_reducible assumption, ?_⟩ | refine ⟨Or.inl rfl, ?_⟩ | refine br_t (by assumption) ?_ | refine br_f (by assumption) ?_ | refine br_nt (by assumption) ?_ | refine br_nf (by assumption) ?_ | refine ⟨by assumption, ?_⟩); (conv => whnf))); exact ⟨rfl, h⟩)
  · ((conv => whnf); (repeat ((first | refine br_t (by decide) ?_ | refine br_f (by decide) ?_ | refine br_nt (by decide) ?_ | refine br_nf (by decide) ?_ | refine ⟨_, rfl, ?_⟩ | refine br_t (by with_reducible assumption) ?_ | refine br_f (by with_reducible assumption) ?_ | refine br_nt (by with_reducible assumption) ?_ | refine br_nf (by with_reducible assumption) ?_ | refine ⟨by with_reducible assumption, ?_⟩ | refine ⟨Or.inl rfl, ?_⟩ | refine br_t (by assumption) ?_ | refine br_f (by assumption) ?_ | refine br_nt (by assumption) ?_ | refine br_nf (by assumption) ?_ | refine ⟨by assumption, ?_⟩); (conv => whnf))); exact ⟨rfl, h⟩)
  · ((conv => whnf); (repeat ((first | refine br_t (by decide) ?_ | refine br_f (by decide) ?_ | refine br_nt (by decide) ?_ | refine br_nf (by decide) ?_ | refine ⟨_, rfl, ?_⟩ | refine br_t (by with_reducible assumption) ?_ | refine br_f (by with_reducible assumption) ?_ | refine br_nt (by with_reducible assumption) ?_ | refine br_nf (by with_reducible assumption) ?_ | refine ⟨by with_reducible assumption, ?_⟩ | refine ⟨Or.inl rfl, ?_⟩ | refine br_t (by assumption) ?_ | refine br_f (by assumption) ?_ | refine br_nt (by assumption) ?_ | refine br_nf (by assumption) ?_ | refine ⟨by assumption, ?_⟩); (conv => whnf))); exact ⟨rfl, h⟩)
