theorem Dn_c {w : qq_w} {N Pn E t : Nat} (h : Dn w N Pn E t) : ¬ w.1 3 7 = 0 ∧ ¬ w.1 8 27 = 0 ∧ w.1 3 6 = w.1 3 5 ∧ w.1 8 33 = w.1 8 32 ∧ w.1 8 8 = nI N ∧ qn (w.1 1 10) = N ∧ qn (w.1 1 9) = Pn ∧ qn (w.1 8 8) = N := by
  obtain ⟨H, hF, hT, hfs, q1, q2, -⟩ := h
  obtain ⟨b1, b2, b3, b4⟩ := beg_t q1
  obtain ⟨d1, d2, d3, d4, d5⟩ := meg_t q2
  obtain ⟨p1, p2, p3, p4, -⟩ := iP_P H
  exact ⟨by rw [q1.2.1]; decide, by rw [q2.2.1]; decide, by rw [b3, b4], by rw [d3, d4], H.1.2.2.2.2.1, p3, p1, p4⟩
theorem Dn_h {w : qq_w} {N Pn E t n f : Nat} (h : Dn w N Pn E t) (hn : n < 64) : (bt (qq_or (w.1 20) (13 * n) 13) f = true ↔ ∃ d, PClo w n d f) ∧ (mHolds w n f ↔ ∃ d, PClo w n d f) := by
  obtain ⟨H, hF, hT, hfs, q1, q2, -⟩ := h
  rw [qq_or_bt]
  refine ⟨⟨?_, ?_⟩, ?_, ?_⟩
  · rintro ⟨i, hi, hb⟩
    exact ⟨i, (done_rowc q1 hn hi).mp hb⟩
  · rintro ⟨d, hc⟩
    have := (PClo_lt H q1.1 hc).1.2.1
    exact ⟨d, this, (done_rowc q1 hn this).mpr hc⟩
  · rintro ⟨i, hi, hb⟩
    exact ⟨i, (done_row q2 hn hi).mp hb⟩
  · rintro ⟨d, hc⟩
    have := (PClo_lt H q1.1 hc).1.2.1
    exact ⟨d, this, (done_row q2 hn this).mpr hc⟩
theorem Dn_P {w w' : qq_w} {N Pn E t : Nat} (hf : cFnd w w' N Pn) : PClo w' = PClo w := by
  obtain ⟨f1, f2, f3, f4, f5, f6, f7, f8⟩ := hf
  exact PClo_sp ⟨fun q hq => f1 q (by revert hq; revert q; decide), fun j _ => by rw [f1 8 (by decide)], f5 17 (by decide)⟩
theorem Dn_M {w w' : qq_w} (hf : mMeas w w') : PClo w' = PClo w ∧ w'.2 24 = w.2 24 ∧ w'.1 4 6 = w.1 4 6 ∧ w'.1 5 = w.1 5 ∧ (∀ q, q ∈ [25, 26, 27, 28] → w'.1 q = w.1 q) := by
  obtain ⟨⟨s1, s2⟩, f2, f3, f4, f5⟩ := hf
  have z8 : ∀ q, q ∈ pgI → q ≠ 8 := by decide
  refine ⟨PClo_sp ⟨fun q hq => s1 q (z8 q hq), fun j hj => s2 j (fun z => by subst z; revert hj; decide) (fun z => by subst z; revert hj; decide), f3 17 (by decide) (by decide)⟩, f3 24 (by decide) (by decide), by rw [s1 4 (by decide)], s1 5 (by decide), fun q hq => s1 q (fun z => by subst z; revert hq; decide)⟩
theorem lo_length (a b : Int32) : lwJ Inv T_X7_length T_X8_length [.int a, .int b] := by
  intro w h
  obtain ⟨N, Pn, E, H, hF, hT, hS⟩ := id h
  obtain ⟨hN, hP, hE, e10, e88, e9, e82, e11, e820, -⟩ := H.1
  rcases arg_c (a := a) (by omega) e10 e88 with ⟨n, hn, ea, k1, k2, k3⟩ | ⟨k1, k3⟩ | ⟨k1, k2, k3⟩
  · have hv : vp_in a 64 := i_in 64 ea (by omega) (by decide)
    have k3n : 0 ≤ a ∧ a ≤ nI N - 1 := by
      rw [← e88]
      exact k3
    rcases arg_k (a := b) 12 (by omega) with ⟨j, hj, eb, m1, m2, m3⟩ | ⟨m1, m3⟩ | ⟨m1, m2, m3⟩
    · have hv2 : vp_in b 13 := i_in 13 eb (by omega) (by decide)
      have qa : qn a = n := i_c ea (by omega)
      have qb : qn b = j := i_c eb (by omega)
      have c1 := nI_ml ea eb (nI_lit 13)
      have v1 : vp_in (a * 13 + b) 832 := i_in 832 c1 (by omega) (by decide)
      have c2 := nI_mr ea eb (nI_lit 13)
      have v2 : vp_in (13 * a + b) 832 := i_in 832 c2 (by omega) (by decide)
      rcases sol_d H hF hT hS with ⟨z1, z2⟩ | ⟨z1, z2, z3, z4⟩ | ⟨t, z1, z2, z3, z4, D⟩
      · ((conv => whnf); (repeat ((first | refine br_t (by decide) ?_ | refine br_f (by decide) ?_ | refine br_nt (by decide) ?_ | refine br_nf (by decide) ?_ | refine br_t (by assumption) ?_ | refine br_f (by assumption) ?_ | refine br_nt (by assumption) ?_ | refine br_nf (by assumption) ?_ | refine ⟨_, rfl, ?_⟩ | refine ⟨by assumption, ?_⟩); (conv => whnf))); exact ⟨rfl, h⟩)
      · ((conv => whnf); (repeat ((first | refine br_t (by decide) ?_ | refine br_f (by decide) ?_ | refine br_nt (by decide) ?_ | refine br_nf (by decide) ?_ | refine br_t (by assumption) ?_ | refine br_f (by assumption) ?_ | refine br_nt (by assumption) ?_ | refine br_nf (by assumption) ?_ | refine ⟨_, rfl, ?_⟩ | refine ⟨by assumption, ?_⟩); (conv => whnf))); exact ⟨rfl, h⟩)
      · have hbit : (qq_or (w.1 20) (13 * qn a) 13 >>> (b &&& 31)) &&& 1 = 0 ↔ bt (qq_or (w.1 20) (13 * n) 13) j = false := by
          rw [qa, eb]
          exact b_has (by omega) _
        by_cases hcl : ∃ d, PClo w n d j
        · obtain ⟨d0, hcl0⟩ := hcl
          have hb1 : ¬ (qq_or (w.1 20) (13 * qn a) 13 >>> (b &&& 31)) &&& 1 = 0 := fun z => by
            have y := hbit.mp z
            rw [((Dn_h D (by omega)).1).mpr ⟨d0, hcl0⟩] at y
            cases y
          obtain ⟨-, -, -, -, -, xN, xP, -⟩ := Dn_c D
          conv => whnf
          (repeat ((first | refine br_t (by decide) ?_ | refine br_f (by decide) ?_ | refine br_nt (by decide) ?_ | refine br_nf (by decide) ?_ | refine br_t (by assumption) ?_ | refine br_f (by assumption) ?_ | refine br_nt (by assumption) ?_ | refine br_nf (by assumption) ?_ | refine ⟨_, rfl, ?_⟩ | refine ⟨by assumption, ?_⟩); (conv => whnf)))
          refine ⟨fun _ => by rw [xN, xP]; exact Dn_Fp D, fun h46 => ?_, fun h4 w1 hf => ?_⟩
          · have D1 := D
            have hcl1 := hcl0
            obtain ⟨-, x2, -, x4, x88, -, -, xq⟩ := Dn_c D1
            have x3 : 0 ≤ a ∧ a ≤ w.1 8 8 - 1 := by
              rw [x88]
              exact k3n
            conv => whnf
            (repeat ((first | refine br_t (by decide) ?_ | refine br_f (by decide) ?_ | refine br_nt (by decide) ?_ | refine br_nf (by decide) ?_ | refine br_t (by assumption) ?_ | refine br_f (by assumption) ?_ | refine br_nt (by assumption) ?_ | refine br_nf (by assumption) ?_ | refine ⟨_, rfl, ?_⟩ | refine ⟨by assumption, ?_⟩); (conv => whnf)))
            refine ⟨fun _ => Dn_mp D1, fun h8 => ?_, fun h8 w2 hm => ?_⟩
            · have D2 := D1
              have hcl2 : PClo w n d0 j := hcl1
              have l24 : w.2 24 = w.2 24 := rfl
              have hh : mHolds w (qn a) (qn b) := by
                rw [qa, qb]
                exact ((Dn_h D1 (by omega)).2).mpr ⟨d0, hcl1⟩
              have hv5 : vp_in a 64 ∧ vp_in b 13 := ⟨hv, hv2⟩
              obtain ⟨L, hL, l1, l2⟩ := Dn_len D2 (D2.2.2.2.2.2.2.2.1 h46) (D2.2.2.2.2.2.2.2.2 h8) hcl2
              conv => whnf
              (repeat ((first | refine br_t (by decide) ?_ | refine br_f (by decide) ?_ | refine br_nt (by decide) ?_ | refine br_nf (by decide) ?_ | refine br_t (by assumption) ?_ | refine br_f (by assumption) ?_ | refine br_nt (by assumption) ?_ | refine br_nf (by assumption) ?_ | refine ⟨_, rfl, ?_⟩ | refine ⟨by assumption, ?_⟩); (conv => whnf)))
              refine ⟨?_, Dn_Inv D2⟩
              show some (Value.long (w.2 60 (13 * a + b).toNatClampNeg)) = some (Value.long (w.2 24 (a * 13 + b).toNatClampNeg))
              rw [i_c c1 (by omega), i_c c2 (by omega), l2, ← l1, l24]
            · obtain ⟨D2, h8'⟩ := Dn_meas D1 hm
              obtain ⟨mp, l24, m46, -⟩ := Dn_M hm
              have hcl2 : PClo w2 n d0 j := by
                rw [mp]
                exact hcl1
              have h46' : ¬ w2.1 4 6 = 0 := by
                rw [m46]
                exact h46
              have hh : mHolds w2 (qn a) (qn b) := by
                rw [qa, qb]
                exact ((Dn_h D2 (by omega)).2).mpr ⟨d0, hcl2⟩
              have hv5 : vp_in a 64 ∧ vp_in b 13 := ⟨hv, hv2⟩
              obtain ⟨L, hL, l1, l2⟩ := Dn_len D2 (D2.2.2.2.2.2.2.2.1 h46') (D2.2.2.2.2.2.2.2.2 h8') hcl2
              conv => whnf
              (repeat ((first | refine br_t (by decide) ?_ | refine br_f (by decide) ?_ | refine br_nt (by decide) ?_ | refine br_nf (by decide) ?_ | refine br_t (by assumption) ?_ | refine br_f (by assumption) ?_ | refine br_nt (by assumption) ?_ | refine br_nf (by assumption) ?_ | refine ⟨_, rfl, ?_⟩ | refine ⟨by assumption, ?_⟩); (conv => whnf)))
              refine ⟨?_, Dn_Inv D2⟩
              show some (Value.long (w2.2 60 (13 * a + b).toNatClampNeg)) = some (Value.long (w.2 24 (a * 13 + b).toNatClampNeg))
              rw [i_c c1 (by omega), i_c c2 (by omega), l2, ← l1, l24]
          · rw [xN, xP] at hf
            obtain ⟨D1, h46⟩ := Dn_find D hf
            have hcl1 : PClo w1 n d0 j := by
              rw [Dn_P (t := 0) (E := 0) hf]
              exact hcl0
            obtain ⟨-, x2, -, x4, x88, -, -, xq⟩ := Dn_c D1
            have x3 : 0 ≤ a ∧ a ≤ w1.1 8 8 - 1 := by
              rw [x88]
              exact k3n
            conv => whnf
            (repeat ((first | refine br_t (by decide) ?_ | refine br_f (by decide) ?_ | refine br_nt (by decide) ?_ | refine br_nf (by decide) ?_ | refine br_t (by assumption) ?_ | refine br_f (by assumption) ?_ | refine br_nt (by assumption) ?_ | refine br_nf (by assumption) ?_ | refine ⟨_, rfl, ?_⟩ | refine ⟨by assumption, ?_⟩); (conv => whnf)))
            refine ⟨fun _ => Dn_mp D1, fun h8 => ?_, fun h8 w2 hm => ?_⟩
            · have D2 := D1
              have hcl2 : PClo w1 n d0 j := hcl1
              have l24 : w1.2 24 = w1.2 24 := rfl
              have hh : mHolds w1 (qn a) (qn b) := by
                rw [qa, qb]
                exact ((Dn_h D1 (by omega)).2).mpr ⟨d0, hcl1⟩
              have hv5 : vp_in a 64 ∧ vp_in b 13 := ⟨hv, hv2⟩
              obtain ⟨L, hL, l1, l2⟩ := Dn_len D2 (D2.2.2.2.2.2.2.2.1 h46) (D2.2.2.2.2.2.2.2.2 h8) hcl2
              conv => whnf
              (repeat ((first | refine br_t (by decide) ?_ | refine br_f (by decide) ?_ | refine br_nt (by decide) ?_ | refine br_nf (by decide) ?_ | refine br_t (by assumption) ?_ | refine br_f (by assumption) ?_ | refine br_nt (by assumption) ?_ | refine br_nf (by assumption) ?_ | refine ⟨_, rfl, ?_⟩ | refine ⟨by assumption, ?_⟩); (conv => whnf)))
              refine ⟨?_, Dn_Inv D2⟩
              show some (Value.long (w1.2 60 (13 * a + b).toNatClampNeg)) = some (Value.long (w1.2 24 (a * 13 + b).toNatClampNeg))
              rw [i_c c1 (by omega), i_c c2 (by omega), l2, ← l1, l24]
            · obtain ⟨D2, h8'⟩ := Dn_meas D1 hm
              obtain ⟨mp, l24, m46, -⟩ := Dn_M hm
              have hcl2 : PClo w2 n d0 j := by
                rw [mp]
                exact hcl1
              have h46' : ¬ w2.1 4 6 = 0 := by
                rw [m46]
                exact h46
              have hh : mHolds w2 (qn a) (qn b) := by
                rw [qa, qb]
                exact ((Dn_h D2 (by omega)).2).mpr ⟨d0, hcl2⟩
              have hv5 : vp_in a 64 ∧ vp_in b 13 := ⟨hv, hv2⟩
              obtain ⟨L, hL, l1, l2⟩ := Dn_len D2 (D2.2.2.2.2.2.2.2.1 h46') (D2.2.2.2.2.2.2.2.2 h8') hcl2
              conv => whnf
              (repeat ((first | refine br_t (by decide) ?_ | refine br_f (by decide) ?_ | refine br_nt (by decide) ?_ | refine br_nf (by decide) ?_ | refine br_t (by assumption) ?_ | refine br_f (by assumption) ?_ | refine br_nt (by assumption) ?_ | refine br_nf (by assumption) ?_ | refine ⟨_, rfl, ?_⟩ | refine ⟨by assumption, ?_⟩); (conv => whnf)))
              refine ⟨?_, Dn_Inv D2⟩
              show some (Value.long (w2.2 60 (13 * a + b).toNatClampNeg)) = some (Value.long (w1.2 24 (a * 13 + b).toNatClampNeg))
              rw [i_c c1 (by omega), i_c c2 (by omega), l2, ← l1, l24]
        · have hno := hcl
          have hb1 : (qq_or (w.1 20) (13 * qn a) 13 >>> (b &&& 31)) &&& 1 = 0 := by
            refine hbit.mpr ?_
            cases y : bt (qq_or (w.1 20) (13 * n) 13) j with
            | false => rfl
            | true => exact absurd (((Dn_h D (by omega)).1).mp y) hcl
          obtain ⟨-, x2, -, x4, x88, -, -, xq⟩ := Dn_c D
          have x3 : 0 ≤ a ∧ a ≤ w.1 8 8 - 1 := by
            rw [x88]
            exact k3n
          conv => whnf
          (repeat ((first | refine br_t (by decide) ?_ | refine br_f (by decide) ?_ | refine br_nt (by decide) ?_ | refine br_nf (by decide) ?_ | refine br_t (by assumption) ?_ | refine br_f (by assumption) ?_ | refine br_nt (by assumption) ?_ | refine br_nf (by assumption) ?_ | refine ⟨_, rfl, ?_⟩ | refine ⟨by assumption, ?_⟩); (conv => whnf)))
          refine ⟨fun _ => Dn_mp D, fun h8 => ?_, fun h8 w2 hm => ?_⟩
          · have hh : ¬ mHolds w (qn a) (qn b) := by
              rw [qa, qb]
              exact fun z => hno (((Dn_h D (by omega)).2).mp z)
            have hv5 : vp_in a 64 ∧ vp_in b 13 := ⟨hv, hv2⟩
            conv => whnf
            (repeat ((first | refine br_t (by decide) ?_ | refine br_f (by decide) ?_ | refine br_nt (by decide) ?_ | refine br_nf (by decide) ?_ | refine br_t (by assumption) ?_ | refine br_f (by assumption) ?_ | refine br_nt (by assumption) ?_ | refine br_nf (by assumption) ?_ | refine ⟨_, rfl, ?_⟩ | refine ⟨by assumption, ?_⟩); (conv => whnf)))
            exact ⟨rfl, Dn_Inv D⟩
          · obtain ⟨D2, h8'⟩ := Dn_meas D hm
            obtain ⟨mp, l24, m46, -⟩ := Dn_M hm
            have hh : ¬ mHolds w2 (qn a) (qn b) := by
              rw [qa, qb]
              exact fun z => hno (by
                have := ((Dn_h D2 (by omega)).2).mp z
                rw [mp] at this
                exact this)
            have hv5 : vp_in a 64 ∧ vp_in b 13 := ⟨hv, hv2⟩
            conv => whnf
            (repeat ((first | refine br_t (by decide) ?_ | refine br_f (by decide) ?_ | refine br_nt (by decide) ?_ | refine br_nf (by decide) ?_ | refine br_t (by assumption) ?_ | refine br_f (by assumption) ?_ | refine br_nt (by assumption) ?_ | refine br_nf (by assumption) ?_ | refine ⟨_, rfl, ?_⟩ | refine ⟨by assumption, ?_⟩); (conv => whnf)))
            exact ⟨rfl, Dn_Inv D2⟩
    · ((conv => whnf); (repeat ((first | refine br_t (by decide) ?_ | refine br_f (by decide) ?_ | refine br_nt (by decide) ?_ | refine br_nf (by decide) ?_ | refine br_t (by assumption) ?_ | refine br_f (by assumption) ?_ | refine br_nt (by assumption) ?_ | refine br_nf (by assumption) ?_ | refine ⟨_, rfl, ?_⟩ | refine ⟨by assumption, ?_⟩); (conv => whnf))); exact ⟨rfl, h⟩)
    · ((conv => whnf); (repeat ((first | refine br_t (by decide) ?_ | refine br_f (by decide) ?_ | refine br_nt (by decide) ?_ | refine br_nf (by decide) ?_ | refine br_t (by assumption) ?_ | refine br_f (by assumption) ?_ | refine br_nt (by assumption) ?_ | refine br_nf (by assumption) ?_ | refine ⟨_, rfl, ?_⟩ | refine ⟨by assumption, ?_⟩); (conv => whnf))); exact ⟨rfl, h⟩)
  · ((conv => whnf); (repeat ((first | refine br_t (by decide) ?_ | refine br_f (by decide) ?_ | refine br_nt (by decide) ?_ | refine br_nf (by decide) ?_ | refine br_t (by assumption) ?_ | refine br_f (by assumption) ?_ | refine br_nt (by assumption) ?_ | refine br_nf (by assumption) ?_ | refine ⟨_, rfl, ?_⟩ | refine ⟨by assumption, ?_⟩); (conv => whnf))); exact ⟨rfl, h⟩)
  · ((conv => whnf); (repeat ((first | refine br_t (by decide) ?_ | refine br_f (by decide) ?_ | refine br_nt (by decide) ?_ | refine br_nf (by decide) ?_ | refine br_t (by assumption) ?_ | refine br_f (by assumption) ?_ | refine br_nt (by assumption) ?_ | refine br_nf (by assumption) ?_ | refine ⟨_, rfl, ?_⟩ | refine ⟨by assumption, ?_⟩); (conv => whnf))); exact ⟨rfl, h⟩)
