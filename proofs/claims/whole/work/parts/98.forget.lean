theorem Inv_end2 {w w2 : qq_w} {N Pn E : Nat} (hF : iFnd w) (hT : iTrk w) (hS : ∀ j, fs (w.1 19 j)) (H2 : iPrg w2 N Pn E) (k37 : w2.1 3 7 = 0) (k27 : w2.1 8 27 = 0) (k35 : w2.1 3 5 = 0) (k36 : w2.1 3 6 = 0) (k46 : w2.1 4 6 = 0) (hq : ∀ q, q ∈ [5, 6, 19, 25, 26, 27, 28, 32, 36, 61, 62, 63, 64] → w2.1 q = w.1 q) (k80 : w2.1 8 0 = w.1 8 0) (k44 : w2.1 8 44 = w.1 8 44) : Inv w2 :=
  Inv_end hF hT hS H2 k37 k27 k35 k36 k46 (hq 19 (by decide)) k80 (by rw [hq 6 (by decide)]) (hq 36 (by decide)) (hq 32 (by decide)) k44 (by rw [hq 5 (by decide)]) (hq 25 (by decide)) (hq 26 (by decide)) (hq 27 (by decide)) (hq 28 (by decide)) (hq 61 (by decide)) (hq 62 (by decide)) (hq 63 (by decide)) (hq 64 (by decide))
theorem row_n {c m : Int32} {z : Bool} (h : iRow c m z) : ¬ c = -1 ↔ ¬ m = -5 := by
  rcases h with ⟨rfl, rfl⟩ | ⟨b, hb, rfl, hc⟩
  · exact ⟨fun z => absurd rfl z, fun z => absurd rfl z⟩
  · refine ⟨fun _ => i_ng (by omega) (-5) (by decide), fun _ => ?_⟩
    rw [hc]
    split
    · exact or1_ne hb
    · exact i_ng (by omega) (-1) (by decide)
theorem some_eq {w : qq_w} {n p : Nat} (H : iRows w) (hn : n < 64) (hp : p < 3) : qq_some1 (w.1 18) (39 * n + 13 * p) 13 (-1) ↔ qq_some1 (w.1 54) (39 * n + 13 * p) 13 (-5) := by
  constructor
  · rintro ⟨k, hk, h⟩
    exact ⟨k, hk, (row_n (H (39 * n + 13 * p + k) (by omega))).mp h⟩
  · rintro ⟨k, hk, h⟩
    exact ⟨k, hk, (row_n (H (39 * n + 13 * p + k) (by omega))).mpr h⟩
theorem lo_forget (a b : Int32) : lwI Inv T_X7_forget T_X8_forget [.int a, .int b] := by
  intro w h
  obtain ⟨N, Pn, E, H, hF, hT, hS⟩ := id h
  obtain ⟨hN, hP, hE, e10, e88, e9, e82, e11, e820, -⟩ := H.1
  rcases arg_c (a := a) (by omega) e10 e88 with ⟨n, hn, ea, k1, k2, k3⟩ | ⟨k1, k3⟩ | ⟨k1, k2, k3⟩
  · have hv : vp_in a 64 := i_in 64 ea (by omega) (by decide)
    rcases arg_k (a := b) 2 (by omega) with ⟨p, hp, eb, y1, y2, y3⟩ | ⟨y1, y3⟩ | ⟨y1, y2, y3⟩
    · have hv3 : vp_in b 3 := i_in 3 eb (by omega) (by decide)
      have hv4 : vp_in a 64 ∧ vp_in b 3 := ⟨hv, hv3⟩
      have c1 := nI_ml ea (x := 1) (i := 1) rfl (nI_lit 10)
      have v1 : vp_in (a * 10 + 1) 640 := i_in 640 c1 (by omega) (by decide)
      have ka : a.toNatClampNeg = n := i_c ea (by omega)
      have qa : qn a = n := ka
      have qb : qn b = p := i_c eb (by omega)
      have s1 : w.1 13 (a * 10 + 1).toNatClampNeg = cX w n 1 := by rw [i_c c1 (by omega)]
      have t1 : w.1 43 a.toNatClampNeg = cX w n 1 := by rw [ka, (iP_tell H hn).2.1]
      have cf : (a * 3 + b) * 13 = nI (39 * n + 13 * p) := by
        have : (a * 3 + b) * nI 13 = nI (39 * n + 13 * p) := by
          rw [nI_ml ea eb (nI_lit 3), pk_mul]
          congr 1
          omega
        exact this
      have ct : (a * 3 + b) * 13 + 13 = nI (39 * n + 13 * p + 13) := by
        rw [cf]
        exact nI_add _ 13
      have qf : qn ((a * 3 + b) * 13) = 39 * n + 13 * p := by rw [cf, qn_nI (by omega)]
      have qt : qn ((a * 3 + b) * 13 + 13) = 39 * n + 13 * p + 13 := by rw [ct, qn_nI (by omega)]
      by_cases h0 : b = 0
      · have x0 : ¬ 0 < b := by
          rw [h0]
          decide
        have x1 : b ≤ 0 := by
          rw [h0]
          decide
        by_cases hs1 : qq_some1 (w.1 18) (39 * qn a + 13 * qn b) 13 (-1)
        · have hs2 : qq_some1 (w.1 54) (39 * n + 13 * p) 13 (-5) := by
            rw [qa, qb] at hs1
            exact (some_eq H.2.2.2.2.2.1 (by omega) (by omega)).mp hs1
          conv => whnf
          (repeat ((first | refine br_t (by decide) ?_ | refine br_f (by decide) ?_ | refine br_nt (by decide) ?_ | refine br_nf (by decide) ?_ | refine br_t (by assumption) ?_ | refine br_f (by assumption) ?_ | refine br_nt (by assumption) ?_ | refine br_nf (by assumption) ?_ | refine ⟨_, rfl, ?_⟩ | refine ⟨Or.inl rfl, ?_⟩ | refine ⟨by assumption, ?_⟩); (conv => whnf)))
          refine ⟨⟨2496, 39 * n + 13 * p, 39 * n + 13 * p + 13, Or.inl ⟨rfl, rfl⟩, cf, ct, by omega, by omega⟩, fun w1 hw1 => ?_⟩
          obtain ⟨ho, hr18⟩ := hw1
          have e8 : w1.1 8 = w.1 8 := ho.2 8 (by decide)
          have e43 : w1.1 43 = w.1 43 := ho.2 43 (by decide)
          have e54 : w1.1 54 = w.1 54 := ho.2 54 (by decide)
          have k3' : 0 ≤ a ∧ a ≤ w1.1 8 8 - 1 := by
            rw [e8]
            exact k3
          conv => whnf
          (repeat ((first | refine br_t (by decide) ?_ | refine br_f (by decide) ?_ | refine br_nt (by decide) ?_ | refine br_nf (by decide) ?_ | refine br_t (by assumption) ?_ | refine br_f (by assumption) ?_ | refine br_nt (by assumption) ?_ | refine br_nf (by assumption) ?_ | refine ⟨_, rfl, ?_⟩ | refine ⟨Or.inl rfl, ?_⟩ | refine ⟨by assumption, ?_⟩); (conv => whnf)))
          refine ⟨rfl, rfl, n, p, ⟨rfl, by rw [← ea]; rfl, by rw [← eb]; rfl, rfl, rfl, trivial⟩, by omega, by omega, fun _ w2 hw2 => ?_, fun z => absurd ?_ z⟩
          · obtain ⟨u1, u2, u3, u4⟩ := hw2
            refine ⟨rfl, Inv_end2 (w := w) (N := N) (Pn := Pn) (E := E) hF hT hS.1 (iPrg_row H (fun i hi => ?_) (fun q hq z1 z2 => ?_) (fun j hj => ?_) ?_) ?_ ?_ ?_ ?_ ?_ (fun q hq => ?_) ?_ ?_⟩
            · have h18 : w2.1 18 i = if 39 * n + 13 * p ≤ i ∧ i < 39 * n + 13 * p + 13 then -1 else w.1 18 i := by
                rw [u2 18 (by decide) (by decide), hr18 i, qf, qt]
                rfl
              rw [h18, u4 i, e54]
              split
              · exact Or.inl ⟨rfl, rfl⟩
              · exact H.2.2.2.2.2.1 i hi
            · simp only [pgI, List.mem_cons, List.not_mem_nil, or_false] at hq
              rcases hq with rfl | rfl | rfl | rfl | rfl | rfl | rfl | rfl | rfl | rfl | rfl | rfl | rfl | rfl | rfl | rfl | rfl | rfl | rfl | rfl | rfl | rfl | rfl | rfl | rfl | rfl | rfl | rfl | rfl <;> first | exact absurd rfl z1 | exact absurd rfl z2 | exact (u2 _ (by decide) (by decide)).trans (ho.2 _ (by decide))
            · rw [u3, e8]
              show upd (w.1 8) 27 0 j = _
              rw [upd_at, if_neg (fun z => by subst z; revert hj; decide)]
            · rw [u1, ho.1]
              rfl
            · rw [u2 3 (by decide) (by decide), ho.2 3 (by decide)]
              rfl
            · rw [u3]
              rfl
            · rw [u2 3 (by decide) (by decide), ho.2 3 (by decide)]
              rfl
            · rw [u2 3 (by decide) (by decide), ho.2 3 (by decide)]
              rfl
            · rw [u2 4 (by decide) (by decide), ho.2 4 (by decide)]
              rfl
            · simp only [List.mem_cons, List.not_mem_nil, or_false] at hq
              rcases hq with rfl | rfl | rfl | rfl | rfl | rfl | rfl | rfl | rfl | rfl | rfl | rfl | rfl <;> exact (u2 _ (by decide) (by decide)).trans (ho.2 _ (by decide))
            · rw [u3, e8]
              rfl
            · rw [u3, e8]
              rfl
          · rw [e54]
            exact hs2
        · have hs2 : ¬ qq_some1 (w.1 54) (39 * n + 13 * p) 13 (-5) := by
            rw [qa, qb] at hs1
            exact fun z => hs1 ((some_eq H.2.2.2.2.2.1 (by omega) (by omega)).mpr z)
          have f1 := vk1
          conv => whnf
          (repeat ((first | refine br_t (by decide) ?_ | refine br_f (by decide) ?_ | refine br_nt (by decide) ?_ | refine br_nf (by decide) ?_ | refine br_t (by assumption) ?_ | refine br_f (by assumption) ?_ | refine br_nt (by assumption) ?_ | refine br_nf (by assumption) ?_ | refine ⟨_, rfl, ?_⟩ | refine ⟨Or.inl rfl, ?_⟩ | refine ⟨by assumption, ?_⟩); (conv => whnf)))
          refine ⟨rfl, rfl, n, p, ⟨rfl, by rw [← ea]; rfl, by rw [← eb]; rfl, rfl, rfl, trivial⟩, by omega, by omega, fun z => absurd z hs2, fun _ => ⟨rfl, Inv_fnd h 1 (by decide)⟩⟩
      · have x0 : 0 < b := by
          rw [i_lt]
          have g1 := i_le.mp y3.1
          have e0 : (0 : Int32).toInt = 0 := by decide
          have : ¬ b.toInt = 0 := fun z => h0 (Int32.toInt_inj.mp (by rw [z, e0]))
          omega
        have x1 : ¬ b ≤ 0 := by
          rw [i_le]
          rw [i_lt] at x0
          omega
        by_cases h9 : cX w n 1 = 9
        · have g1 : w.1 13 (a * 10 + 1).toNatClampNeg = 9 := s1.trans h9
          have g2 : w.1 43 a.toNatClampNeg = 9 := t1.trans h9
          by_cases hs1 : qq_some1 (w.1 18) (39 * qn a + 13 * qn b) 13 (-1)
          · have hs2 : qq_some1 (w.1 54) (39 * n + 13 * p) 13 (-5) := by
              rw [qa, qb] at hs1
              exact (some_eq H.2.2.2.2.2.1 (by omega) (by omega)).mp hs1
            conv => whnf
            (repeat ((first | refine br_t (by decide) ?_ | refine br_f (by decide) ?_ | refine br_nt (by decide) ?_ | refine br_nf (by decide) ?_ | refine br_t (by assumption) ?_ | refine br_f (by assumption) ?_ | refine br_nt (by assumption) ?_ | refine br_nf (by assumption) ?_ | refine ⟨_, rfl, ?_⟩ | refine ⟨Or.inl rfl, ?_⟩ | refine ⟨by assumption, ?_⟩); (conv => whnf)))
            refine ⟨⟨2496, 39 * n + 13 * p, 39 * n + 13 * p + 13, Or.inl ⟨rfl, rfl⟩, cf, ct, by omega, by omega⟩, fun w1 hw1 => ?_⟩
            obtain ⟨ho, hr18⟩ := hw1
            have e8 : w1.1 8 = w.1 8 := ho.2 8 (by decide)
            have e43 : w1.1 43 = w.1 43 := ho.2 43 (by decide)
            have e54 : w1.1 54 = w.1 54 := ho.2 54 (by decide)
            have k3' : 0 ≤ a ∧ a ≤ w1.1 8 8 - 1 := by
              rw [e8]
              exact k3
            have g2' : w1.1 43 a.toNatClampNeg = 9 := by
              rw [e43]
              exact g2
            conv => whnf
            (repeat ((first | refine br_t (by decide) ?_ | refine br_f (by decide) ?_ | refine br_nt (by decide) ?_ | refine br_nf (by decide) ?_ | refine br_t (by assumption) ?_ | refine br_f (by assumption) ?_ | refine br_nt (by assumption) ?_ | refine br_nf (by assumption) ?_ | refine ⟨_, rfl, ?_⟩ | refine ⟨Or.inl rfl, ?_⟩ | refine ⟨by assumption, ?_⟩); (conv => whnf)))
            refine ⟨rfl, rfl, n, p, ⟨rfl, by rw [← ea]; rfl, by rw [← eb]; rfl, rfl, rfl, trivial⟩, by omega, by omega, fun _ w2 hw2 => ?_, fun z => absurd ?_ z⟩
            · obtain ⟨u1, u2, u3, u4⟩ := hw2
              refine ⟨rfl, Inv_end2 (w := w) (N := N) (Pn := Pn) (E := E) hF hT hS.1 (iPrg_row H (fun i hi => ?_) (fun q hq z1 z2 => ?_) (fun j hj => ?_) ?_) ?_ ?_ ?_ ?_ ?_ (fun q hq => ?_) ?_ ?_⟩
              · have h18 : w2.1 18 i = if 39 * n + 13 * p ≤ i ∧ i < 39 * n + 13 * p + 13 then -1 else w.1 18 i := by
                  rw [u2 18 (by decide) (by decide), hr18 i, qf, qt]
                  rfl
                rw [h18, u4 i, e54]
                split
                · exact Or.inl ⟨rfl, rfl⟩
                · exact H.2.2.2.2.2.1 i hi
              · simp only [pgI, List.mem_cons, List.not_mem_nil, or_false] at hq
                rcases hq with rfl | rfl | rfl | rfl | rfl | rfl | rfl | rfl | rfl | rfl | rfl | rfl | rfl | rfl | rfl | rfl | rfl | rfl | rfl | rfl | rfl | rfl | rfl | rfl | rfl | rfl | rfl | rfl | rfl <;> first | exact absurd rfl z1 | exact absurd rfl z2 | exact (u2 _ (by decide) (by decide)).trans (ho.2 _ (by decide))
              · rw [u3, e8]
                show upd (w.1 8) 27 0 j = _
                rw [upd_at, if_neg (fun z => by subst z; revert hj; decide)]
              · rw [u1, ho.1]
                rfl
              · rw [u2 3 (by decide) (by decide), ho.2 3 (by decide)]
                rfl
              · rw [u3]
                rfl
              · rw [u2 3 (by decide) (by decide), ho.2 3 (by decide)]
                rfl
              · rw [u2 3 (by decide) (by decide), ho.2 3 (by decide)]
                rfl
              · rw [u2 4 (by decide) (by decide), ho.2 4 (by decide)]
                rfl
              · simp only [List.mem_cons, List.not_mem_nil, or_false] at hq
                rcases hq with rfl | rfl | rfl | rfl | rfl | rfl | rfl | rfl | rfl | rfl | rfl | rfl | rfl <;> exact (u2 _ (by decide) (by decide)).trans (ho.2 _ (by decide))
              · rw [u3, e8]
                rfl
              · rw [u3, e8]
                rfl
            · rw [e54]
              exact hs2
          · have hs2 : ¬ qq_some1 (w.1 54) (39 * n + 13 * p) 13 (-5) := by
              rw [qa, qb] at hs1
              exact fun z => hs1 ((some_eq H.2.2.2.2.2.1 (by omega) (by omega)).mpr z)
            have f1 := vk1
            conv => whnf
            (repeat ((first | refine br_t (by decide) ?_ | refine br_f (by decide) ?_ | refine br_nt (by decide) ?_ | refine br_nf (by decide) ?_ | refine br_t (by assumption) ?_ | refine br_f (by assumption) ?_ | refine br_nt (by assumption) ?_ | refine br_nf (by assumption) ?_ | refine ⟨_, rfl, ?_⟩ | refine ⟨Or.inl rfl, ?_⟩ | refine ⟨by assumption, ?_⟩); (conv => whnf)))
            refine ⟨rfl, rfl, n, p, ⟨rfl, by rw [← ea]; rfl, by rw [← eb]; rfl, rfl, rfl, trivial⟩, by omega, by omega, fun z => absurd z hs2, fun _ => ⟨rfl, Inv_fnd h 1 (by decide)⟩⟩
        · have g1 : ¬ w.1 13 (a * 10 + 1).toNatClampNeg = 9 := fun z => h9 (s1.symm.trans z)
          have g2 : ¬ w.1 43 a.toNatClampNeg = 9 := fun z => h9 (t1.symm.trans z)
          have f3 := vk3
          conv => whnf
          (repeat ((first | refine br_t (by decide) ?_ | refine br_f (by decide) ?_ | refine br_nt (by decide) ?_ | refine br_nf (by decide) ?_ | refine br_t (by assumption) ?_ | refine br_f (by assumption) ?_ | refine br_nt (by assumption) ?_ | refine br_nf (by assumption) ?_ | refine ⟨_, rfl, ?_⟩ | refine ⟨Or.inl rfl, ?_⟩ | refine ⟨by assumption, ?_⟩); (conv => whnf)))
          exact ⟨rfl, Inv_fnd h 3 (by decide)⟩
    · ((conv => whnf); (repeat ((first | refine br_t (by decide) ?_ | refine br_f (by decide) ?_ | refine br_nt (by decide) ?_ | refine br_nf (by decide) ?_ | refine br_t (by assumption) ?_ | refine br_f (by assumption) ?_ | refine br_nt (by assumption) ?_ | refine br_nf (by assumption) ?_ | refine ⟨_, rfl, ?_⟩ | refine ⟨by assumption, ?_⟩); (conv => whnf))); exact ⟨rfl, h⟩)
    · ((conv => whnf); (repeat ((first | refine br_t (by decide) ?_ | refine br_f (by decide) ?_ | refine br_nt (by decide) ?_ | refine br_nf (by decide) ?_ | refine br_t (by assumption) ?_ | refine br_f (by assumption) ?_ | refine br_nt (by assumption) ?_ | refine br_nf (by assumption) ?_ | refine ⟨_, rfl, ?_⟩ | refine ⟨by assumption, ?_⟩); (conv => whnf))); exact ⟨rfl, h⟩)
  · ((conv => whnf); (repeat ((first | refine br_t (by decide) ?_ | refine br_f (by decide) ?_ | refine br_nt (by decide) ?_ | refine br_nf (by decide) ?_ | refine br_t (by assumption) ?_ | refine br_f (by assumption) ?_ | refine br_nt (by assumption) ?_ | refine br_nf (by assumption) ?_ | refine ⟨_, rfl, ?_⟩ | refine ⟨by assumption, ?_⟩); (conv => whnf))); exact ⟨rfl, h⟩)
  · ((conv => whnf); (repeat ((first | refine br_t (by decide) ?_ | refine br_f (by decide) ?_ | refine br_nt (by decide) ?_ | refine br_nf (by decide) ?_ | refine br_t (by assumption) ?_ | refine br_f (by assumption) ?_ | refine br_nt (by assumption) ?_ | refine br_nf (by assumption) ?_ | refine ⟨_, rfl, ?_⟩ | refine ⟨by assumption, ?_⟩); (conv => whnf))); exact ⟨rfl, h⟩)
