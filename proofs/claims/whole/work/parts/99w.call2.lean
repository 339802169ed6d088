def clF (w : qq_w) (a b c d : Int32) (w2 : qq_w) : Prop := w2.2 = w.2 ∧ (∀ q, q ∉ [8, 42, 43, 44, 45, 46, 47, 48, 49, 50, 51] → w2.1 q = w.1 q) ∧ w2.1 42 = upd (upd (w.1 42) (w.1 8 8).toNatClampNeg a) (w.1 8 8 + 1).toNatClampNeg a ∧ w2.1 43 = upd (upd (w.1 43) (w.1 8 8).toNatClampNeg 9) (w.1 8 8 + 1).toNatClampNeg 10 ∧ w2.1 44 = upd (upd (w.1 44) (w.1 8 8).toNatClampNeg (-5)) (w.1 8 8 + 1).toNatClampNeg (-5) ∧ w2.1 45 = upd (upd (w.1 45) (w.1 8 8).toNatClampNeg (-5)) (w.1 8 8 + 1).toNatClampNeg (-5) ∧ w2.1 46 = upd (upd (w.1 46) (w.1 8 8).toNatClampNeg (-5)) (w.1 8 8 + 1).toNatClampNeg (-5) ∧ w2.1 47 = upd (upd (upd (w.1 47) (w.1 8 8).toNatClampNeg (-5)) (w.1 8 8 + 1).toNatClampNeg (-5)) (w.1 8 8 + 1 - 1).toNatClampNeg b ∧ w2.1 48 = upd (upd (upd (w.1 48) (w.1 8 8).toNatClampNeg (-5)) (w.1 8 8 + 1).toNatClampNeg (-5)) (w.1 8 8 + 1 - 1).toNatClampNeg c ∧ w2.1 49 = upd (upd (upd (upd (w.1 49) (w.1 8 8).toNatClampNeg (-5)) (w.1 8 8 + 1).toNatClampNeg (-5)) (w.1 8 8 + 1 - 1).toNatClampNeg (w.1 8 8 + 1 + 1 - 1)) (w.1 8 8 + 1 + 1 - 1).toNatClampNeg (w.1 8 8 + 1 - 1) ∧ w2.1 50 = upd (upd (upd (w.1 50) (w.1 8 8).toNatClampNeg (-5)) (w.1 8 8 + 1).toNatClampNeg (-5)) (w.1 8 8 + 1 - 1).toNatClampNeg d ∧ (∀ j, w2.1 51 j = if 4 * qn (w.1 8 8 + 1 - 1) ≤ j ∧ j < 4 * qn (w.1 8 8 + 1 - 1) + 4 then -5 else w.1 51 j) ∧ w2.1 8 8 = w.1 8 8 + 1 + 1 ∧ w2.1 8 9 = w.1 8 9 + 1 ∧ w2.1 8 27 = 0 ∧ ∀ j, j ∉ [8, 9, 27] → w2.1 8 j = w.1 8 j
set_option maxHeartbeats 16000000 in
set_option maxRecDepth 100000 in
theorem cl_cls {w : qq_w} {a b c d : Int32} {P : Option Value → qq_w → Prop} (k1 : ¬ a < 0) (k2 : ¬ w.1 1 9 ≤ a) (l1 : ¬ b < 0) (l2 : ¬ w.1 1 9 ≤ b) (hv : vp_in a 8) (d4 : ¬ 4 < d) (d5 : d ≤ 4) (d0 : ¬ d < 0) (d0' : 0 ≤ d) (hr1 : ¬ 64 < w.1 1 10 + 2) (v10 : vp_in (w.1 1 10) 63) (hc : c = -5 ∨ (¬ c = -5 ∧ ¬ c ≤ 0 ∧ ¬ 5 + w.1 9 a.toNatClampNeg ≤ c ∧ 1 ≤ c ∧ c ≤ 4 + w.1 37 a.toNatClampNeg)) (kk : ∀ w1, qq_addCall (eW w) a b c d w1 → P (some (.int (w.1 1 10))) w1) : T_X7_call [.ref 0, .int a, .int b, .int c, .int d] w P := by
  rcases hc with hc | ⟨hc, c1, c2, c3⟩
  · conv => whnf
    (repeat ((first | refine br_t (by decide) ?_ | refine br_f (by decide) ?_ | refine br_nt (by decide) ?_ | refine br_nf (by decide) ?_ | refine br_t (by with_reducible assumption) ?_ | refine br_f (by with_reducible assumption) ?_ | refine br_nt (by with_reducible assumption) ?_ | refine br_nf (by with_reducible assumption) ?_ | refine And.intro (by with_reducible assumption) ?_); (conv => whnf)))
    (refine ⟨Or.inl rfl, ?_⟩; conv => whnf)
    (refine ⟨Or.inl rfl, ?_⟩; conv => whnf)
    refine ⟨v10, fun w1 hw1 => ?_⟩
    conv => whnf
    exact kk w1 hw1
  · conv => whnf
    (repeat ((first | refine br_t (by decide) ?_ | refine br_f (by decide) ?_ | refine br_nt (by decide) ?_ | refine br_nf (by decide) ?_ | refine br_t (by with_reducible assumption) ?_ | refine br_f (by with_reducible assumption) ?_ | refine br_nt (by with_reducible assumption) ?_ | refine br_nf (by with_reducible assumption) ?_ | refine And.intro (by with_reducible assumption) ?_); (conv => whnf)))
    (refine ⟨Or.inl rfl, ?_⟩; conv => whnf)
    (refine ⟨Or.inl rfl, ?_⟩; conv => whnf)
    refine ⟨v10, fun w1 hw1 => ?_⟩
    conv => whnf
    exact kk w1 hw1
set_option maxHeartbeats 16000000 in
set_option maxRecDepth 100000 in
theorem cl_mdl {w : qq_w} {a b c d : Int32} {P : Option Value → qq_w → Prop} (k3 : 0 ≤ a ∧ a ≤ w.1 8 2 - 1) (l3 : 0 ≤ b ∧ b ≤ w.1 8 2 - 1) (hv : vp_in a 8) (d4 : ¬ 4 < d) (d5 : d ≤ 4) (d0 : ¬ d < 0) (d0' : 0 ≤ d) (hr2 : ¬ 64 < w.1 8 8 + 2) (hr3 : w.1 8 8 + 2 ≤ 64) (v88 : vp_in (w.1 8 8) 64) (v88b : vp_in (w.1 8 8 + 1) 64) (w88 : vp_in (w.1 8 8 + 1 - 1) 64) (w88b : vp_in (w.1 8 8 + 1 + 1 - 1) 64) (hc : c = -5 ∨ (¬ c = -5 ∧ ¬ c ≤ 0 ∧ ¬ 5 + w.1 9 a.toNatClampNeg ≤ c ∧ 1 ≤ c ∧ c ≤ 4 + w.1 37 a.toNatClampNeg)) (kk : ∀ w2, clF w a b c d w2 → P (some (.int (w.1 8 8 + 1 - 1))) w2) : T_X8_call [.ref 8, .int a, .int b, .int c, .int d] w P := by
  rcases hc with hc | ⟨hc, c1, c2, c3⟩
  · have E0 : w.1 8 = w.1 8 := rfl
    conv => whnf
    (repeat ((first | refine br_t (by decide) ?_ | refine br_f (by decide) ?_ | refine br_nt (by decide) ?_ | refine br_nf (by decide) ?_ | refine br_t (by with_reducible assumption) ?_ | refine br_f (by with_reducible assumption) ?_ | refine br_nt (by with_reducible assumption) ?_ | refine br_nf (by with_reducible assumption) ?_); (conv => whnf)))
    refine ⟨by rw [E0]; exact v88, ?_⟩
    refine gen_run (fun v1 h1 => ?_)
    have E1 : v1.1 8 = w.1 8 := by
      rw [h1]
      exact E0
    have o1 : ∀ r, r ≠ 42 → v1.1 r = w.1 r := fun r hr => by
      rw [h1]
      simp only [qq_ui, va_up, hr, if_false]
    have t1 : v1.1 42 = upd (w.1 42) (w.1 8 8).toNatClampNeg a := by
      rw [h1]
      show upd (w.1 42) (w.1 8 8).toNatClampNeg (a) = _
      rw [E0] <;> rfl
    have d1 : v1.2 = w.2 := by
      rw [h1]
      rfl
    clear h1
    conv => whnf
    refine ⟨by rw [E1]; exact v88, ?_⟩
    refine gen_run (fun v2 h2 => ?_)
    have E2 : v2.1 8 = w.1 8 := by
      rw [h2]
      exact E1
    have o2 : ∀ r, r ≠ 43 → v2.1 r = v1.1 r := fun r hr => by
      rw [h2]
      simp only [qq_ui, va_up, hr, if_false]
    have t2 : v2.1 43 = upd (v1.1 43) (w.1 8 8).toNatClampNeg (9) := by
      rw [h2]
      show upd (v1.1 43) (v1.1 8 8).toNatClampNeg (9) = _
      rw [E1] <;> rfl
    have d2 : v2.2 = v1.2 := by
      rw [h2]
      rfl
    clear h2
    conv => whnf
    refine ⟨by rw [E2]; exact v88, ?_⟩
    refine gen_run (fun v3 h3 => ?_)
    have E3 : v3.1 8 = w.1 8 := by
      rw [h3]
      exact E2
    have o3 : ∀ r, r ≠ 44 → v3.1 r = v2.1 r := fun r hr => by
      rw [h3]
      simp only [qq_ui, va_up, hr, if_false]
    have t3 : v3.1 44 = upd (v2.1 44) (w.1 8 8).toNatClampNeg (-5) := by
      rw [h3]
      show upd (v2.1 44) (v2.1 8 8).toNatClampNeg (-5) = _
      rw [E2] <;> rfl
    have d3 : v3.2 = v2.2 := by
      rw [h3]
      rfl
    clear h3
    conv => whnf
    refine ⟨by rw [E3]; exact v88, ?_⟩
    refine gen_run (fun v4 h4 => ?_)
    have E4 : v4.1 8 = w.1 8 := by
      rw [h4]
      exact E3
    have o4 : ∀ r, r ≠ 45 → v4.1 r = v3.1 r := fun r hr => by
      rw [h4]
      simp only [qq_ui, va_up, hr, if_false]
    have t4 : v4.1 45 = upd (v3.1 45) (w.1 8 8).toNatClampNeg (-5) := by
      rw [h4]
      show upd (v3.1 45) (v3.1 8 8).toNatClampNeg (-5) = _
      rw [E3] <;> rfl
    have d4 : v4.2 = v3.2 := by
      rw [h4]
      rfl
    clear h4
    conv => whnf
    refine ⟨by rw [E4]; exact v88, ?_⟩
    refine gen_run (fun v5 h5 => ?_)
    have E5 : v5.1 8 = w.1 8 := by
      rw [h5]
      exact E4
    have o5 : ∀ r, r ≠ 46 → v5.1 r = v4.1 r := fun r hr => by
      rw [h5]
      simp only [qq_ui, va_up, hr, if_false]
    have t5 : v5.1 46 = upd (v4.1 46) (w.1 8 8).toNatClampNeg (-5) := by
      rw [h5]
      show upd (v4.1 46) (v4.1 8 8).toNatClampNeg (-5) = _
      rw [E4] <;> rfl
    have d5 : v5.2 = v4.2 := by
      rw [h5]
      rfl
    clear h5
    conv => whnf
    refine ⟨by rw [E5]; exact v88, ?_⟩
    refine gen_run (fun v6 h6 => ?_)
    have E6 : v6.1 8 = w.1 8 := by
      rw [h6]
      exact E5
    have o6 : ∀ r, r ≠ 47 → v6.1 r = v5.1 r := fun r hr => by
      rw [h6]
      simp only [qq_ui, va_up, hr, if_false]
    have t6 : v6.1 47 = upd (v5.1 47) (w.1 8 8).toNatClampNeg (-5) := by
      rw [h6]
      show upd (v5.1 47) (v5.1 8 8).toNatClampNeg (-5) = _
      rw [E5] <;> rfl
    have d6 : v6.2 = v5.2 := by
      rw [h6]
      rfl
    clear h6
    conv => whnf
    refine ⟨by rw [E6]; exact v88, ?_⟩
    refine gen_run (fun v7 h7 => ?_)
    have E7 : v7.1 8 = w.1 8 := by
      rw [h7]
      exact E6
    have o7 : ∀ r, r ≠ 48 → v7.1 r = v6.1 r := fun r hr => by
      rw [h7]
      simp only [qq_ui, va_up, hr, if_false]
    have t7 : v7.1 48 = upd (v6.1 48) (w.1 8 8).toNatClampNeg (-5) := by
      rw [h7]
      show upd (v6.1 48) (v6.1 8 8).toNatClampNeg (-5) = _
      rw [E6] <;> rfl
    have d7 : v7.2 = v6.2 := by
      rw [h7]
      rfl
    clear h7
    conv => whnf
    refine ⟨by rw [E7]; exact v88, ?_⟩
    refine gen_run (fun v8 h8 => ?_)
    have E8 : v8.1 8 = w.1 8 := by
      rw [h8]
      exact E7
    have o8 : ∀ r, r ≠ 49 → v8.1 r = v7.1 r := fun r hr => by
      rw [h8]
      simp only [qq_ui, va_up, hr, if_false]
    have t8 : v8.1 49 = upd (v7.1 49) (w.1 8 8).toNatClampNeg (-5) := by
      rw [h8]
      show upd (v7.1 49) (v7.1 8 8).toNatClampNeg (-5) = _
      rw [E7] <;> rfl
    have d8 : v8.2 = v7.2 := by
      rw [h8]
      rfl
    clear h8
    conv => whnf
    refine ⟨by rw [E8]; exact v88, ?_⟩
    refine gen_run (fun v9 h9 => ?_)
    have E9 : v9.1 8 = w.1 8 := by
      rw [h9]
      exact E8
    have o9 : ∀ r, r ≠ 50 → v9.1 r = v8.1 r := fun r hr => by
      rw [h9]
      simp only [qq_ui, va_up, hr, if_false]
    have t9 : v9.1 50 = upd (v8.1 50) (w.1 8 8).toNatClampNeg (-5) := by
      rw [h9]
      show upd (v8.1 50) (v8.1 8 8).toNatClampNeg (-5) = _
      rw [E8] <;> rfl
    have d9 : v9.2 = v8.2 := by
      rw [h9]
      rfl
    clear h9
    conv => whnf
    refine ⟨Or.inl rfl, ?_⟩
    refine gen_run (fun v10 h10 => ?_)
    have E10 : v10.1 8 = upd (upd (w.1 8) 8 (w.1 8 8 + 1)) 27 0 := by
      rw [h10]
      show upd (upd (v9.1 8) 8 (v9.1 8 8 + 1)) 27 0 = _
      rw [E9] <;> rfl
    have o10 : ∀ r, r ≠ 8 → v10.1 r = v9.1 r := fun r hr => by
      rw [h10]
      simp only [qq_ui, va_up, hr, if_false]
    have d10 : v10.2 = v9.2 := by
      rw [h10]
      rfl
    clear h10
    conv => whnf
    refine ⟨by rw [E10]; exact v88b, ?_⟩
    refine gen_run (fun v11 h11 => ?_)
    have E11 : v11.1 8 = upd (upd (w.1 8) 8 (w.1 8 8 + 1)) 27 0 := by
      rw [h11]
      exact E10
    have o11 : ∀ r, r ≠ 42 → v11.1 r = v10.1 r := fun r hr => by
      rw [h11]
      simp only [qq_ui, va_up, hr, if_false]
    have t11 : v11.1 42 = upd (v10.1 42) (w.1 8 8 + 1).toNatClampNeg a := by
      rw [h11]
      show upd (v10.1 42) (v10.1 8 8).toNatClampNeg (a) = _
      rw [E10] <;> rfl
    have d11 : v11.2 = v10.2 := by
      rw [h11]
      rfl
    clear h11
    conv => whnf
    refine ⟨by rw [E11]; exact v88b, ?_⟩
    refine gen_run (fun v12 h12 => ?_)
    have E12 : v12.1 8 = upd (upd (w.1 8) 8 (w.1 8 8 + 1)) 27 0 := by
      rw [h12]
      exact E11
    have o12 : ∀ r, r ≠ 43 → v12.1 r = v11.1 r := fun r hr => by
      rw [h12]
      simp only [qq_ui, va_up, hr, if_false]
    have t12 : v12.1 43 = upd (v11.1 43) (w.1 8 8 + 1).toNatClampNeg (10) := by
      rw [h12]
      show upd (v11.1 43) (v11.1 8 8).toNatClampNeg (10) = _
      rw [E11] <;> rfl
    have d12 : v12.2 = v11.2 := by
      rw [h12]
      rfl
    clear h12
    conv => whnf
    refine ⟨by rw [E12]; exact v88b, ?_⟩
    refine gen_run (fun v13 h13 => ?_)
    have E13 : v13.1 8 = upd (upd (w.1 8) 8 (w.1 8 8 + 1)) 27 0 := by
      rw [h13]
      exact E12
    have o13 : ∀ r, r ≠ 44 → v13.1 r = v12.1 r := fun r hr => by
      rw [h13]
      simp only [qq_ui, va_up, hr, if_false]
    have t13 : v13.1 44 = upd (v12.1 44) (w.1 8 8 + 1).toNatClampNeg (-5) := by
      rw [h13]
      show upd (v12.1 44) (v12.1 8 8).toNatClampNeg (-5) = _
      rw [E12] <;> rfl
    have d13 : v13.2 = v12.2 := by
      rw [h13]
      rfl
    clear h13
    conv => whnf
    refine ⟨by rw [E13]; exact v88b, ?_⟩
    refine gen_run (fun v14 h14 => ?_)
    have E14 : v14.1 8 = upd (upd (w.1 8) 8 (w.1 8 8 + 1)) 27 0 := by
      rw [h14]
      exact E13
    have o14 : ∀ r, r ≠ 45 → v14.1 r = v13.1 r := fun r hr => by
      rw [h14]
      simp only [qq_ui, va_up, hr, if_false]
    have t14 : v14.1 45 = upd (v13.1 45) (w.1 8 8 + 1).toNatClampNeg (-5) := by
      rw [h14]
      show upd (v13.1 45) (v13.1 8 8).toNatClampNeg (-5) = _
      rw [E13] <;> rfl
    have d14 : v14.2 = v13.2 := by
      rw [h14]
      rfl
    clear h14
    conv => whnf
    refine ⟨by rw [E14]; exact v88b, ?_⟩
    refine gen_run (fun v15 h15 => ?_)
    have E15 : v15.1 8 = upd (upd (w.1 8) 8 (w.1 8 8 + 1)) 27 0 := by
      rw [h15]
      exact E14
    have o15 : ∀ r, r ≠ 46 → v15.1 r = v14.1 r := fun r hr => by
      rw [h15]
      simp only [qq_ui, va_up, hr, if_false]
    have t15 : v15.1 46 = upd (v14.1 46) (w.1 8 8 + 1).toNatClampNeg (-5) := by
      rw [h15]
      show upd (v14.1 46) (v14.1 8 8).toNatClampNeg (-5) = _
      rw [E14] <;> rfl
    have d15 : v15.2 = v14.2 := by
      rw [h15]
      rfl
    clear h15
    conv => whnf
    refine ⟨by rw [E15]; exact v88b, ?_⟩
    refine gen_run (fun v16 h16 => ?_)
    have E16 : v16.1 8 = upd (upd (w.1 8) 8 (w.1 8 8 + 1)) 27 0 := by
      rw [h16]
      exact E15
    have o16 : ∀ r, r ≠ 47 → v16.1 r = v15.1 r := fun r hr => by
      rw [h16]
      simp only [qq_ui, va_up, hr, if_false]
    have t16 : v16.1 47 = upd (v15.1 47) (w.1 8 8 + 1).toNatClampNeg (-5) := by
      rw [h16]
      show upd (v15.1 47) (v15.1 8 8).toNatClampNeg (-5) = _
      rw [E15] <;> rfl
    have d16 : v16.2 = v15.2 := by
      rw [h16]
      rfl
    clear h16
    conv => whnf
    refine ⟨by rw [E16]; exact v88b, ?_⟩
    refine gen_run (fun v17 h17 => ?_)
    have E17 : v17.1 8 = upd (upd (w.1 8) 8 (w.1 8 8 + 1)) 27 0 := by
      rw [h17]
      exact E16
    have o17 : ∀ r, r ≠ 48 → v17.1 r = v16.1 r := fun r hr => by
      rw [h17]
      simp only [qq_ui, va_up, hr, if_false]
    have t17 : v17.1 48 = upd (v16.1 48) (w.1 8 8 + 1).toNatClampNeg (-5) := by
      rw [h17]
      show upd (v16.1 48) (v16.1 8 8).toNatClampNeg (-5) = _
      rw [E16] <;> rfl
    have d17 : v17.2 = v16.2 := by
      rw [h17]
      rfl
    clear h17
    conv => whnf
    refine ⟨by rw [E17]; exact v88b, ?_⟩
    refine gen_run (fun v18 h18 => ?_)
    have E18 : v18.1 8 = upd (upd (w.1 8) 8 (w.1 8 8 + 1)) 27 0 := by
      rw [h18]
      exact E17
    have o18 : ∀ r, r ≠ 49 → v18.1 r = v17.1 r := fun r hr => by
      rw [h18]
      simp only [qq_ui, va_up, hr, if_false]
    have t18 : v18.1 49 = upd (v17.1 49) (w.1 8 8 + 1).toNatClampNeg (-5) := by
      rw [h18]
      show upd (v17.1 49) (v17.1 8 8).toNatClampNeg (-5) = _
      rw [E17] <;> rfl
    have d18 : v18.2 = v17.2 := by
      rw [h18]
      rfl
    clear h18
    conv => whnf
    refine ⟨by rw [E18]; exact v88b, ?_⟩
    refine gen_run (fun v19 h19 => ?_)
    have E19 : v19.1 8 = upd (upd (w.1 8) 8 (w.1 8 8 + 1)) 27 0 := by
      rw [h19]
      exact E18
    have o19 : ∀ r, r ≠ 50 → v19.1 r = v18.1 r := fun r hr => by
      rw [h19]
      simp only [qq_ui, va_up, hr, if_false]
    have t19 : v19.1 50 = upd (v18.1 50) (w.1 8 8 + 1).toNatClampNeg (-5) := by
      rw [h19]
      show upd (v18.1 50) (v18.1 8 8).toNatClampNeg (-5) = _
      rw [E18] <;> rfl
    have d19 : v19.2 = v18.2 := by
      rw [h19]
      rfl
    clear h19
    conv => whnf
    refine ⟨Or.inl rfl, ?_⟩
    refine gen_run (fun v20 h20 => ?_)
    have E20 : v20.1 8 = upd (upd (upd (upd (w.1 8) 8 (w.1 8 8 + 1)) 27 0) 8 (w.1 8 8 + 1 + 1)) 27 0 := by
      rw [h20]
      show upd (upd (v19.1 8) 8 (v19.1 8 8 + 1)) 27 0 = _
      rw [E19] <;> rfl
    have o20 : ∀ r, r ≠ 8 → v20.1 r = v19.1 r := fun r hr => by
      rw [h20]
      simp only [qq_ui, va_up, hr, if_false]
    have d20 : v20.2 = v19.2 := by
      rw [h20]
      rfl
    clear h20
    conv => whnf
    refine ⟨by rw [E10]; exact w88, ?_⟩
    refine gen_run (fun v21 h21 => ?_)
    have E21 : v21.1 8 = upd (upd (upd (upd (w.1 8) 8 (w.1 8 8 + 1)) 27 0) 8 (w.1 8 8 + 1 + 1)) 27 0 := by
      rw [h21]
      exact E20
    have o21 : ∀ r, r ≠ 47 → v21.1 r = v20.1 r := fun r hr => by
      rw [h21]
      simp only [qq_ui, va_up, hr, if_false]
    have t21 : v21.1 47 = upd (v20.1 47) (w.1 8 8 + 1 - 1).toNatClampNeg b := by
      rw [h21]
      show upd (v20.1 47) (v10.1 8 8 - 1).toNatClampNeg (b) = _
      rw [E10] <;> rfl
    have d21 : v21.2 = v20.2 := by
      rw [h21]
      rfl
    clear h21
    conv => whnf
    refine ⟨by rw [E10]; exact w88, ?_⟩
    refine gen_run (fun v22 h22 => ?_)
    have E22 : v22.1 8 = upd (upd (upd (upd (w.1 8) 8 (w.1 8 8 + 1)) 27 0) 8 (w.1 8 8 + 1 + 1)) 27 0 := by
      rw [h22]
      exact E21
    have o22 : ∀ r, r ≠ 48 → v22.1 r = v21.1 r := fun r hr => by
      rw [h22]
      simp only [qq_ui, va_up, hr, if_false]
    have t22 : v22.1 48 = upd (v21.1 48) (w.1 8 8 + 1 - 1).toNatClampNeg c := by
      rw [h22]
      show upd (v21.1 48) (v10.1 8 8 - 1).toNatClampNeg (c) = _
      rw [E10] <;> rfl
    have d22 : v22.2 = v21.2 := by
      rw [h22]
      rfl
    clear h22
    conv => whnf
    refine ⟨by rw [E10]; exact w88, ?_⟩
    refine gen_run (fun v23 h23 => ?_)
    have E23 : v23.1 8 = upd (upd (upd (upd (w.1 8) 8 (w.1 8 8 + 1)) 27 0) 8 (w.1 8 8 + 1 + 1)) 27 0 := by
      rw [h23]
      exact E22
    have o23 : ∀ r, r ≠ 49 → v23.1 r = v22.1 r := fun r hr => by
      rw [h23]
      simp only [qq_ui, va_up, hr, if_false]
    have t23 : v23.1 49 = upd (v22.1 49) (w.1 8 8 + 1 - 1).toNatClampNeg (w.1 8 8 + 1 + 1 - 1) := by
      rw [h23]
      show upd (v22.1 49) (v10.1 8 8 - 1).toNatClampNeg (v20.1 8 8 - 1) = _
      rw [E10, E20] <;> rfl
    have d23 : v23.2 = v22.2 := by
      rw [h23]
      rfl
    clear h23
    conv => whnf
    refine ⟨by rw [E20]; exact w88b, ?_⟩
    refine gen_run (fun v24 h24 => ?_)
    have E24 : v24.1 8 = upd (upd (upd (upd (w.1 8) 8 (w.1 8 8 + 1)) 27 0) 8 (w.1 8 8 + 1 + 1)) 27 0 := by
      rw [h24]
      exact E23
    have o24 : ∀ r, r ≠ 49 → v24.1 r = v23.1 r := fun r hr => by
      rw [h24]
      simp only [qq_ui, va_up, hr, if_false]
    have t24 : v24.1 49 = upd (v23.1 49) (w.1 8 8 + 1 + 1 - 1).toNatClampNeg (w.1 8 8 + 1 - 1) := by
      rw [h24]
      show upd (v23.1 49) (v20.1 8 8 - 1).toNatClampNeg (v10.1 8 8 - 1) = _
      rw [E20, E10] <;> rfl
    have d24 : v24.2 = v23.2 := by
      rw [h24]
      rfl
    clear h24
    conv => whnf
    refine ⟨by rw [E10]; exact w88, ?_⟩
    refine gen_run (fun v25 h25 => ?_)
    have E25 : v25.1 8 = upd (upd (upd (upd (w.1 8) 8 (w.1 8 8 + 1)) 27 0) 8 (w.1 8 8 + 1 + 1)) 27 0 := by
      rw [h25]
      exact E24
    have o25 : ∀ r, r ≠ 50 → v25.1 r = v24.1 r := fun r hr => by
      rw [h25]
      simp only [qq_ui, va_up, hr, if_false]
    have t25 : v25.1 50 = upd (v24.1 50) (w.1 8 8 + 1 - 1).toNatClampNeg d := by
      rw [h25]
      show upd (v24.1 50) (v10.1 8 8 - 1).toNatClampNeg (d) = _
      rw [E10] <;> rfl
    have d25 : v25.2 = v24.2 := by
      rw [h25]
      rfl
    clear h25
    conv => whnf
    have hc1 : v10.1 8 8 - 1 = w.1 8 8 + 1 - 1 := by
      rw [E10]
      rfl
    refine ⟨rfl, rfl, v10.1 8 8 - 1, ⟨rfl, rfl, rfl, trivial⟩, by rw [hc1]; exact w88, fun w2 hw2 => ?_⟩
    obtain ⟨u1, u2, u3, u4⟩ := hw2
    suffices kF : clF w a b c d w2 by
      have kz := kk _ kF
      rw [← hc1] at kz
      exact kz
    refine ⟨?_, fun q hq => ?_, ?_, ?_, ?_, ?_, ?_, ?_, ?_, ?_, ?_, fun j => ?_, ?_, ?_, ?_, fun j hj => ?_⟩
    · rw [u1, d25, d24, d23, d22, d21, d20, d19, d18, d17, d16, d15, d14, d13, d12, d11, d10, d9, d8, d7, d6, d5, d4, d3, d2, d1]
    · have z8 : q ≠ 8 := fun z => hq (by simp [z])
      have z42 : q ≠ 42 := fun z => hq (by simp [z])
      have z43 : q ≠ 43 := fun z => hq (by simp [z])
      have z44 : q ≠ 44 := fun z => hq (by simp [z])
      have z45 : q ≠ 45 := fun z => hq (by simp [z])
      have z46 : q ≠ 46 := fun z => hq (by simp [z])
      have z47 : q ≠ 47 := fun z => hq (by simp [z])
      have z48 : q ≠ 48 := fun z => hq (by simp [z])
      have z49 : q ≠ 49 := fun z => hq (by simp [z])
      have z50 : q ≠ 50 := fun z => hq (by simp [z])
      have z51 : q ≠ 51 := fun z => hq (by simp [z])
      rw [u2 q z8 z51, o25 q z50, o24 q z49, o23 q z49, o22 q z48, o21 q z47, o20 q z8, o19 q z50, o18 q z49, o17 q z48, o16 q z47, o15 q z46, o14 q z45, o13 q z44, o12 q z43, o11 q z42, o10 q z8, o9 q z50, o8 q z49, o7 q z48, o6 q z47, o5 q z46, o4 q z45, o3 q z44, o2 q z43, o1 q z42]
    · rw [u2 42 (by decide) (by decide), o25 42 (by decide), o24 42 (by decide), o23 42 (by decide), o22 42 (by decide), o21 42 (by decide), o20 42 (by decide), o19 42 (by decide), o18 42 (by decide), o17 42 (by decide), o16 42 (by decide), o15 42 (by decide), o14 42 (by decide), o13 42 (by decide), o12 42 (by decide), t11, o10 42 (by decide), o9 42 (by decide), o8 42 (by decide), o7 42 (by decide), o6 42 (by decide), o5 42 (by decide), o4 42 (by decide), o3 42 (by decide), o2 42 (by decide), t1]
    · rw [u2 43 (by decide) (by decide), o25 43 (by decide), o24 43 (by decide), o23 43 (by decide), o22 43 (by decide), o21 43 (by decide), o20 43 (by decide), o19 43 (by decide), o18 43 (by decide), o17 43 (by decide), o16 43 (by decide), o15 43 (by decide), o14 43 (by decide), o13 43 (by decide), t12, o11 43 (by decide), o10 43 (by decide), o9 43 (by decide), o8 43 (by decide), o7 43 (by decide), o6 43 (by decide), o5 43 (by decide), o4 43 (by decide), o3 43 (by decide), t2, o1 43 (by decide)]
    · rw [u2 44 (by decide) (by decide), o25 44 (by decide), o24 44 (by decide), o23 44 (by decide), o22 44 (by decide), o21 44 (by decide), o20 44 (by decide), o19 44 (by decide), o18 44 (by decide), o17 44 (by decide), o16 44 (by decide), o15 44 (by decide), o14 44 (by decide), t13, o12 44 (by decide), o11 44 (by decide), o10 44 (by decide), o9 44 (by decide), o8 44 (by decide), o7 44 (by decide), o6 44 (by decide), o5 44 (by decide), o4 44 (by decide), t3, o2 44 (by decide), o1 44 (by decide)]
    · rw [u2 45 (by decide) (by decide), o25 45 (by decide), o24 45 (by decide), o23 45 (by decide), o22 45 (by decide), o21 45 (by decide), o20 45 (by decide), o19 45 (by decide), o18 45 (by decide), o17 45 (by decide), o16 45 (by decide), o15 45 (by decide), t14, o13 45 (by decide), o12 45 (by decide), o11 45 (by decide), o10 45 (by decide), o9 45 (by decide), o8 45 (by decide), o7 45 (by decide), o6 45 (by decide), o5 45 (by decide), t4, o3 45 (by decide), o2 45 (by decide), o1 45 (by decide)]
    · rw [u2 46 (by decide) (by decide), o25 46 (by decide), o24 46 (by decide), o23 46 (by decide), o22 46 (by decide), o21 46 (by decide), o20 46 (by decide), o19 46 (by decide), o18 46 (by decide), o17 46 (by decide), o16 46 (by decide), t15, o14 46 (by decide), o13 46 (by decide), o12 46 (by decide), o11 46 (by decide), o10 46 (by decide), o9 46 (by decide), o8 46 (by decide), o7 46 (by decide), o6 46 (by decide), t5, o4 46 (by decide), o3 46 (by decide), o2 46 (by decide), o1 46 (by decide)]
    · rw [u2 47 (by decide) (by decide), o25 47 (by decide), o24 47 (by decide), o23 47 (by decide), o22 47 (by decide), t21, o20 47 (by decide), o19 47 (by decide), o18 47 (by decide), o17 47 (by decide), t16, o15 47 (by decide), o14 47 (by decide), o13 47 (by decide), o12 47 (by decide), o11 47 (by decide), o10 47 (by decide), o9 47 (by decide), o8 47 (by decide), o7 47 (by decide), t6, o5 47 (by decide), o4 47 (by decide), o3 47 (by decide), o2 47 (by decide), o1 47 (by decide)]
    · rw [u2 48 (by decide) (by decide), o25 48 (by decide), o24 48 (by decide), o23 48 (by decide), t22, o21 48 (by decide), o20 48 (by decide), o19 48 (by decide), o18 48 (by decide), t17, o16 48 (by decide), o15 48 (by decide), o14 48 (by decide), o13 48 (by decide), o12 48 (by decide), o11 48 (by decide), o10 48 (by decide), o9 48 (by decide), o8 48 (by decide), t7, o6 48 (by decide), o5 48 (by decide), o4 48 (by decide), o3 48 (by decide), o2 48 (by decide), o1 48 (by decide)]
    · rw [u2 49 (by decide) (by decide), o25 49 (by decide), t24, t23, o22 49 (by decide), o21 49 (by decide), o20 49 (by decide), o19 49 (by decide), t18, o17 49 (by decide), o16 49 (by decide), o15 49 (by decide), o14 49 (by decide), o13 49 (by decide), o12 49 (by decide), o11 49 (by decide), o10 49 (by decide), o9 49 (by decide), t8, o7 49 (by decide), o6 49 (by decide), o5 49 (by decide), o4 49 (by decide), o3 49 (by decide), o2 49 (by decide), o1 49 (by decide)]
    · rw [u2 50 (by decide) (by decide), t25, o24 50 (by decide), o23 50 (by decide), o22 50 (by decide), o21 50 (by decide), o20 50 (by decide), t19, o18 50 (by decide), o17 50 (by decide), o16 50 (by decide), o15 50 (by decide), o14 50 (by decide), o13 50 (by decide), o12 50 (by decide), o11 50 (by decide), o10 50 (by decide), t9, o8 50 (by decide), o7 50 (by decide), o6 50 (by decide), o5 50 (by decide), o4 50 (by decide), o3 50 (by decide), o2 50 (by decide), o1 50 (by decide)]
    · rw [u4 j, hc1, o25 51 (by decide), o24 51 (by decide), o23 51 (by decide), o22 51 (by decide), o21 51 (by decide), o20 51 (by decide), o19 51 (by decide), o18 51 (by decide), o17 51 (by decide), o16 51 (by decide), o15 51 (by decide), o14 51 (by decide), o13 51 (by decide), o12 51 (by decide), o11 51 (by decide), o10 51 (by decide), o9 51 (by decide), o8 51 (by decide), o7 51 (by decide), o6 51 (by decide), o5 51 (by decide), o4 51 (by decide), o3 51 (by decide), o2 51 (by decide), o1 51 (by decide)]
    · rw [u3]
      show v25.1 8 8 = _
      rw [E25]
      rfl
    · rw [u3]
      show v25.1 8 9 + 1 = _
      rw [E25]
      rfl
    · rw [u3]
      show v25.1 8 27 = _
      rw [E25]
      rfl
    · have y8 : j ≠ 8 := fun z => hj (by simp [z])
      have y9 : j ≠ 9 := fun z => hj (by simp [z])
      have y27 : j ≠ 27 := fun z => hj (by simp [z])
      rw [u3, upd_at, if_neg y9, E25, upd_at, if_neg y27, upd_at, if_neg y8, upd_at, if_neg y27, upd_at, if_neg y8]
  · have E0 : w.1 8 = w.1 8 := rfl
    conv => whnf
    (repeat ((first | refine br_t (by decide) ?_ | refine br_f (by decide) ?_ | refine br_nt (by decide) ?_ | refine br_nf (by decide) ?_ | refine br_t (by with_reducible assumption) ?_ | refine br_f (by with_reducible assumption) ?_ | refine br_nt (by with_reducible assumption) ?_ | refine br_nf (by with_reducible assumption) ?_); (conv => whnf)))
    refine ⟨hv, ?_⟩
    conv => whnf
    (repeat ((first | refine br_t (by decide) ?_ | refine br_f (by decide) ?_ | refine br_nt (by decide) ?_ | refine br_nf (by decide) ?_ | refine br_t (by with_reducible assumption) ?_ | refine br_f (by with_reducible assumption) ?_ | refine br_nt (by with_reducible assumption) ?_ | refine br_nf (by with_reducible assumption) ?_); (conv => whnf)))
    refine ⟨by rw [E0]; exact v88, ?_⟩
    refine gen_run (fun v1 h1 => ?_)
    have E1 : v1.1 8 = w.1 8 := by
      rw [h1]
      exact E0
    have o1 : ∀ r, r ≠ 42 → v1.1 r = w.1 r := fun r hr => by
      rw [h1]
      simp only [qq_ui, va_up, hr, if_false]
    have t1 : v1.1 42 = upd (w.1 42) (w.1 8 8).toNatClampNeg a := by
      rw [h1]
      show upd (w.1 42) (w.1 8 8).toNatClampNeg (a) = _
      rw [E0] <;> rfl
    have d1 : v1.2 = w.2 := by
      rw [h1]
      rfl
    clear h1
    conv => whnf
    refine ⟨by rw [E1]; exact v88, ?_⟩
    refine gen_run (fun v2 h2 => ?_)
    have E2 : v2.1 8 = w.1 8 := by
      rw [h2]
      exact E1
    have o2 : ∀ r, r ≠ 43 → v2.1 r = v1.1 r := fun r hr => by
      rw [h2]
      simp only [qq_ui, va_up, hr, if_false]
    have t2 : v2.1 43 = upd (v1.1 43) (w.1 8 8).toNatClampNeg (9) := by
      rw [h2]
      show upd (v1.1 43) (v1.1 8 8).toNatClampNeg (9) = _
      rw [E1] <;> rfl
    have d2 : v2.2 = v1.2 := by
      rw [h2]
      rfl
    clear h2
    conv => whnf
    refine ⟨by rw [E2]; exact v88, ?_⟩
    refine gen_run (fun v3 h3 => ?_)
    have E3 : v3.1 8 = w.1 8 := by
      rw [h3]
      exact E2
    have o3 : ∀ r, r ≠ 44 → v3.1 r = v2.1 r := fun r hr => by
      rw [h3]
      simp only [qq_ui, va_up, hr, if_false]
    have t3 : v3.1 44 = upd (v2.1 44) (w.1 8 8).toNatClampNeg (-5) := by
      rw [h3]
      show upd (v2.1 44) (v2.1 8 8).toNatClampNeg (-5) = _
      rw [E2] <;> rfl
    have d3 : v3.2 = v2.2 := by
      rw [h3]
      rfl
    clear h3
    conv => whnf
    refine ⟨by rw [E3]; exact v88, ?_⟩
    refine gen_run (fun v4 h4 => ?_)
    have E4 : v4.1 8 = w.1 8 := by
      rw [h4]
      exact E3
    have o4 : ∀ r, r ≠ 45 → v4.1 r = v3.1 r := fun r hr => by
      rw [h4]
      simp only [qq_ui, va_up, hr, if_false]
    have t4 : v4.1 45 = upd (v3.1 45) (w.1 8 8).toNatClampNeg (-5) := by
      rw [h4]
      show upd (v3.1 45) (v3.1 8 8).toNatClampNeg (-5) = _
      rw [E3] <;> rfl
    have d4 : v4.2 = v3.2 := by
      rw [h4]
      rfl
    clear h4
    conv => whnf
    refine ⟨by rw [E4]; exact v88, ?_⟩
    refine gen_run (fun v5 h5 => ?_)
    have E5 : v5.1 8 = w.1 8 := by
      rw [h5]
      exact E4
    have o5 : ∀ r, r ≠ 46 → v5.1 r = v4.1 r := fun r hr => by
      rw [h5]
      simp only [qq_ui, va_up, hr, if_false]
    have t5 : v5.1 46 = upd (v4.1 46) (w.1 8 8).toNatClampNeg (-5) := by
      rw [h5]
      show upd (v4.1 46) (v4.1 8 8).toNatClampNeg (-5) = _
      rw [E4] <;> rfl
    have d5 : v5.2 = v4.2 := by
      rw [h5]
      rfl
    clear h5
    conv => whnf
    refine ⟨by rw [E5]; exact v88, ?_⟩
    refine gen_run (fun v6 h6 => ?_)
    have E6 : v6.1 8 = w.1 8 := by
      rw [h6]
      exact E5
    have o6 : ∀ r, r ≠ 47 → v6.1 r = v5.1 r := fun r hr => by
      rw [h6]
      simp only [qq_ui, va_up, hr, if_false]
    have t6 : v6.1 47 = upd (v5.1 47) (w.1 8 8).toNatClampNeg (-5) := by
      rw [h6]
      show upd (v5.1 47) (v5.1 8 8).toNatClampNeg (-5) = _
      rw [E5] <;> rfl
    have d6 : v6.2 = v5.2 := by
      rw [h6]
      rfl
    clear h6
    conv => whnf
    refine ⟨by rw [E6]; exact v88, ?_⟩
    refine gen_run (fun v7 h7 => ?_)
    have E7 : v7.1 8 = w.1 8 := by
      rw [h7]
      exact E6
    have o7 : ∀ r, r ≠ 48 → v7.1 r = v6.1 r := fun r hr => by
      rw [h7]
      simp only [qq_ui, va_up, hr, if_false]
    have t7 : v7.1 48 = upd (v6.1 48) (w.1 8 8).toNatClampNeg (-5) := by
      rw [h7]
      show upd (v6.1 48) (v6.1 8 8).toNatClampNeg (-5) = _
      rw [E6] <;> rfl
    have d7 : v7.2 = v6.2 := by
      rw [h7]
      rfl
    clear h7
    conv => whnf
    refine ⟨by rw [E7]; exact v88, ?_⟩
    refine gen_run (fun v8 h8 => ?_)
    have E8 : v8.1 8 = w.1 8 := by
      rw [h8]
      exact E7
    have o8 : ∀ r, r ≠ 49 → v8.1 r = v7.1 r := fun r hr => by
      rw [h8]
      simp only [qq_ui, va_up, hr, if_false]
    have t8 : v8.1 49 = upd (v7.1 49) (w.1 8 8).toNatClampNeg (-5) := by
      rw [h8]
      show upd (v7.1 49) (v7.1 8 8).toNatClampNeg (-5) = _
      rw [E7] <;> rfl
    have d8 : v8.2 = v7.2 := by
      rw [h8]
      rfl
    clear h8
    conv => whnf
    refine ⟨by rw [E8]; exact v88, ?_⟩
    refine gen_run (fun v9 h9 => ?_)
    have E9 : v9.1 8 = w.1 8 := by
      rw [h9]
      exact E8
    have o9 : ∀ r, r ≠ 50 → v9.1 r = v8.1 r := fun r hr => by
      rw [h9]
      simp only [qq_ui, va_up, hr, if_false]
    have t9 : v9.1 50 = upd (v8.1 50) (w.1 8 8).toNatClampNeg (-5) := by
      rw [h9]
      show upd (v8.1 50) (v8.1 8 8).toNatClampNeg (-5) = _
      rw [E8] <;> rfl
    have d9 : v9.2 = v8.2 := by
      rw [h9]
      rfl
    clear h9
    conv => whnf
    refine ⟨Or.inl rfl, ?_⟩
    refine gen_run (fun v10 h10 => ?_)
    have E10 : v10.1 8 = upd (upd (w.1 8) 8 (w.1 8 8 + 1)) 27 0 := by
      rw [h10]
      show upd (upd (v9.1 8) 8 (v9.1 8 8 + 1)) 27 0 = _
      rw [E9] <;> rfl
    have o10 : ∀ r, r ≠ 8 → v10.1 r = v9.1 r := fun r hr => by
      rw [h10]
      simp only [qq_ui, va_up, hr, if_false]
    have d10 : v10.2 = v9.2 := by
      rw [h10]
      rfl
    clear h10
    conv => whnf
    refine ⟨by rw [E10]; exact v88b, ?_⟩
    refine gen_run (fun v11 h11 => ?_)
    have E11 : v11.1 8 = upd (upd (w.1 8) 8 (w.1 8 8 + 1)) 27 0 := by
      rw [h11]
      exact E10
    have o11 : ∀ r, r ≠ 42 → v11.1 r = v10.1 r := fun r hr => by
      rw [h11]
      simp only [qq_ui, va_up, hr, if_false]
    have t11 : v11.1 42 = upd (v10.1 42) (w.1 8 8 + 1).toNatClampNeg a := by
      rw [h11]
      show upd (v10.1 42) (v10.1 8 8).toNatClampNeg (a) = _
      rw [E10] <;> rfl
    have d11 : v11.2 = v10.2 := by
      rw [h11]
      rfl
    clear h11
    conv => whnf
    refine ⟨by rw [E11]; exact v88b, ?_⟩
    refine gen_run (fun v12 h12 => ?_)
    have E12 : v12.1 8 = upd (upd (w.1 8) 8 (w.1 8 8 + 1)) 27 0 := by
      rw [h12]
      exact E11
    have o12 : ∀ r, r ≠ 43 → v12.1 r = v11.1 r := fun r hr => by
      rw [h12]
      simp only [qq_ui, va_up, hr, if_false]
    have t12 : v12.1 43 = upd (v11.1 43) (w.1 8 8 + 1).toNatClampNeg (10) := by
      rw [h12]
      show upd (v11.1 43) (v11.1 8 8).toNatClampNeg (10) = _
      rw [E11] <;> rfl
    have d12 : v12.2 = v11.2 := by
      rw [h12]
      rfl
    clear h12
    conv => whnf
    refine ⟨by rw [E12]; exact v88b, ?_⟩
    refine gen_run (fun v13 h13 => ?_)
    have E13 : v13.1 8 = upd (upd (w.1 8) 8 (w.1 8 8 + 1)) 27 0 := by
      rw [h13]
      exact E12
    have o13 : ∀ r, r ≠ 44 → v13.1 r = v12.1 r := fun r hr => by
      rw [h13]
      simp only [qq_ui, va_up, hr, if_false]
    have t13 : v13.1 44 = upd (v12.1 44) (w.1 8 8 + 1).toNatClampNeg (-5) := by
      rw [h13]
      show upd (v12.1 44) (v12.1 8 8).toNatClampNeg (-5) = _
      rw [E12] <;> rfl
    have d13 : v13.2 = v12.2 := by
      rw [h13]
      rfl
    clear h13
    conv => whnf
    refine ⟨by rw [E13]; exact v88b, ?_⟩
    refine gen_run (fun v14 h14 => ?_)
    have E14 : v14.1 8 = upd (upd (w.1 8) 8 (w.1 8 8 + 1)) 27 0 := by
      rw [h14]
      exact E13
    have o14 : ∀ r, r ≠ 45 → v14.1 r = v13.1 r := fun r hr => by
      rw [h14]
      simp only [qq_ui, va_up, hr, if_false]
    have t14 : v14.1 45 = upd (v13.1 45) (w.1 8 8 + 1).toNatClampNeg (-5) := by
      rw [h14]
      show upd (v13.1 45) (v13.1 8 8).toNatClampNeg (-5) = _
      rw [E13] <;> rfl
    have d14 : v14.2 = v13.2 := by
      rw [h14]
      rfl
    clear h14
    conv => whnf
    refine ⟨by rw [E14]; exact v88b, ?_⟩
    refine gen_run (fun v15 h15 => ?_)
    have E15 : v15.1 8 = upd (upd (w.1 8) 8 (w.1 8 8 + 1)) 27 0 := by
      rw [h15]
      exact E14
    have o15 : ∀ r, r ≠ 46 → v15.1 r = v14.1 r := fun r hr => by
      rw [h15]
      simp only [qq_ui, va_up, hr, if_false]
    have t15 : v15.1 46 = upd (v14.1 46) (w.1 8 8 + 1).toNatClampNeg (-5) := by
      rw [h15]
      show upd (v14.1 46) (v14.1 8 8).toNatClampNeg (-5) = _
      rw [E14] <;> rfl
    have d15 : v15.2 = v14.2 := by
      rw [h15]
      rfl
    clear h15
    conv => whnf
    refine ⟨by rw [E15]; exact v88b, ?_⟩
    refine gen_run (fun v16 h16 => ?_)
    have E16 : v16.1 8 = upd (upd (w.1 8) 8 (w.1 8 8 + 1)) 27 0 := by
      rw [h16]
      exact E15
    have o16 : ∀ r, r ≠ 47 → v16.1 r = v15.1 r := fun r hr => by
      rw [h16]
      simp only [qq_ui, va_up, hr, if_false]
    have t16 : v16.1 47 = upd (v15.1 47) (w.1 8 8 + 1).toNatClampNeg (-5) := by
      rw [h16]
      show upd (v15.1 47) (v15.1 8 8).toNatClampNeg (-5) = _
      rw [E15] <;> rfl
    have d16 : v16.2 = v15.2 := by
      rw [h16]
      rfl
    clear h16
    conv => whnf
    refine ⟨by rw [E16]; exact v88b, ?_⟩
    refine gen_run (fun v17 h17 => ?_)
    have E17 : v17.1 8 = upd (upd (w.1 8) 8 (w.1 8 8 + 1)) 27 0 := by
      rw [h17]
      exact E16
    have o17 : ∀ r, r ≠ 48 → v17.1 r = v16.1 r := fun r hr => by
      rw [h17]
      simp only [qq_ui, va_up, hr, if_false]
    have t17 : v17.1 48 = upd (v16.1 48) (w.1 8 8 + 1).toNatClampNeg (-5) := by
      rw [h17]
      show upd (v16.1 48) (v16.1 8 8).toNatClampNeg (-5) = _
      rw [E16] <;> rfl
    have d17 : v17.2 = v16.2 := by
      rw [h17]
      rfl
    clear h17
    conv => whnf
    refine ⟨by rw [E17]; exact v88b, ?_⟩
    refine gen_run (fun v18 h18 => ?_)
    have E18 : v18.1 8 = upd (upd (w.1 8) 8 (w.1 8 8 + 1)) 27 0 := by
      rw [h18]
      exact E17
    have o18 : ∀ r, r ≠ 49 → v18.1 r = v17.1 r := fun r hr => by
      rw [h18]
      simp only [qq_ui, va_up, hr, if_false]
    have t18 : v18.1 49 = upd (v17.1 49) (w.1 8 8 + 1).toNatClampNeg (-5) := by
      rw [h18]
      show upd (v17.1 49) (v17.1 8 8).toNatClampNeg (-5) = _
      rw [E17] <;> rfl
    have d18 : v18.2 = v17.2 := by
      rw [h18]
      rfl
    clear h18
    conv => whnf
    refine ⟨by rw [E18]; exact v88b, ?_⟩
    refine gen_run (fun v19 h19 => ?_)
    have E19 : v19.1 8 = upd (upd (w.1 8) 8 (w.1 8 8 + 1)) 27 0 := by
      rw [h19]
      exact E18
    have o19 : ∀ r, r ≠ 50 → v19.1 r = v18.1 r := fun r hr => by
      rw [h19]
      simp only [qq_ui, va_up, hr, if_false]
    have t19 : v19.1 50 = upd (v18.1 50) (w.1 8 8 + 1).toNatClampNeg (-5) := by
      rw [h19]
      show upd (v18.1 50) (v18.1 8 8).toNatClampNeg (-5) = _
      rw [E18] <;> rfl
    have d19 : v19.2 = v18.2 := by
      rw [h19]
      rfl
    clear h19
    conv => whnf
    refine ⟨Or.inl rfl, ?_⟩
    refine gen_run (fun v20 h20 => ?_)
    have E20 : v20.1 8 = upd (upd (upd (upd (w.1 8) 8 (w.1 8 8 + 1)) 27 0) 8 (w.1 8 8 + 1 + 1)) 27 0 := by
      rw [h20]
      show upd (upd (v19.1 8) 8 (v19.1 8 8 + 1)) 27 0 = _
      rw [E19] <;> rfl
    have o20 : ∀ r, r ≠ 8 → v20.1 r = v19.1 r := fun r hr => by
      rw [h20]
      simp only [qq_ui, va_up, hr, if_false]
    have d20 : v20.2 = v19.2 := by
      rw [h20]
      rfl
    clear h20
    conv => whnf
    refine ⟨by rw [E10]; exact w88, ?_⟩
    refine gen_run (fun v21 h21 => ?_)
    have E21 : v21.1 8 = upd (upd (upd (upd (w.1 8) 8 (w.1 8 8 + 1)) 27 0) 8 (w.1 8 8 + 1 + 1)) 27 0 := by
      rw [h21]
      exact E20
    have o21 : ∀ r, r ≠ 47 → v21.1 r = v20.1 r := fun r hr => by
      rw [h21]
      simp only [qq_ui, va_up, hr, if_false]
    have t21 : v21.1 47 = upd (v20.1 47) (w.1 8 8 + 1 - 1).toNatClampNeg b := by
      rw [h21]
      show upd (v20.1 47) (v10.1 8 8 - 1).toNatClampNeg (b) = _
      rw [E10] <;> rfl
    have d21 : v21.2 = v20.2 := by
      rw [h21]
      rfl
    clear h21
    conv => whnf
    refine ⟨by rw [E10]; exact w88, ?_⟩
    refine gen_run (fun v22 h22 => ?_)
    have E22 : v22.1 8 = upd (upd (upd (upd (w.1 8) 8 (w.1 8 8 + 1)) 27 0) 8 (w.1 8 8 + 1 + 1)) 27 0 := by
      rw [h22]
      exact E21
    have o22 : ∀ r, r ≠ 48 → v22.1 r = v21.1 r := fun r hr => by
      rw [h22]
      simp only [qq_ui, va_up, hr, if_false]
    have t22 : v22.1 48 = upd (v21.1 48) (w.1 8 8 + 1 - 1).toNatClampNeg c := by
      rw [h22]
      show upd (v21.1 48) (v10.1 8 8 - 1).toNatClampNeg (c) = _
      rw [E10] <;> rfl
    have d22 : v22.2 = v21.2 := by
      rw [h22]
      rfl
    clear h22
    conv => whnf
    refine ⟨by rw [E10]; exact w88, ?_⟩
    refine gen_run (fun v23 h23 => ?_)
    have E23 : v23.1 8 = upd (upd (upd (upd (w.1 8) 8 (w.1 8 8 + 1)) 27 0) 8 (w.1 8 8 + 1 + 1)) 27 0 := by
      rw [h23]
      exact E22
    have o23 : ∀ r, r ≠ 49 → v23.1 r = v22.1 r := fun r hr => by
      rw [h23]
      simp only [qq_ui, va_up, hr, if_false]
    have t23 : v23.1 49 = upd (v22.1 49) (w.1 8 8 + 1 - 1).toNatClampNeg (w.1 8 8 + 1 + 1 - 1) := by
      rw [h23]
      show upd (v22.1 49) (v10.1 8 8 - 1).toNatClampNeg (v20.1 8 8 - 1) = _
      rw [E10, E20] <;> rfl
    have d23 : v23.2 = v22.2 := by
      rw [h23]
      rfl
    clear h23
    conv => whnf
    refine ⟨by rw [E20]; exact w88b, ?_⟩
    refine gen_run (fun v24 h24 => ?_)
    have E24 : v24.1 8 = upd (upd (upd (upd (w.1 8) 8 (w.1 8 8 + 1)) 27 0) 8 (w.1 8 8 + 1 + 1)) 27 0 := by
      rw [h24]
      exact E23
    have o24 : ∀ r, r ≠ 49 → v24.1 r = v23.1 r := fun r hr => by
      rw [h24]
      simp only [qq_ui, va_up, hr, if_false]
    have t24 : v24.1 49 = upd (v23.1 49) (w.1 8 8 + 1 + 1 - 1).toNatClampNeg (w.1 8 8 + 1 - 1) := by
      rw [h24]
      show upd (v23.1 49) (v20.1 8 8 - 1).toNatClampNeg (v10.1 8 8 - 1) = _
      rw [E20, E10] <;> rfl
    have d24 : v24.2 = v23.2 := by
      rw [h24]
      rfl
    clear h24
    conv => whnf
    refine ⟨by rw [E10]; exact w88, ?_⟩
    refine gen_run (fun v25 h25 => ?_)
    have E25 : v25.1 8 = upd (upd (upd (upd (w.1 8) 8 (w.1 8 8 + 1)) 27 0) 8 (w.1 8 8 + 1 + 1)) 27 0 := by
      rw [h25]
      exact E24
    have o25 : ∀ r, r ≠ 50 → v25.1 r = v24.1 r := fun r hr => by
      rw [h25]
      simp only [qq_ui, va_up, hr, if_false]
    have t25 : v25.1 50 = upd (v24.1 50) (w.1 8 8 + 1 - 1).toNatClampNeg d := by
      rw [h25]
      show upd (v24.1 50) (v10.1 8 8 - 1).toNatClampNeg (d) = _
      rw [E10] <;> rfl
    have d25 : v25.2 = v24.2 := by
      rw [h25]
      rfl
    clear h25
    conv => whnf
    have hc1 : v10.1 8 8 - 1 = w.1 8 8 + 1 - 1 := by
      rw [E10]
      rfl
    refine ⟨rfl, rfl, v10.1 8 8 - 1, ⟨rfl, rfl, rfl, trivial⟩, by rw [hc1]; exact w88, fun w2 hw2 => ?_⟩
    obtain ⟨u1, u2, u3, u4⟩ := hw2
    suffices kF : clF w a b c d w2 by
      have kz := kk _ kF
      rw [← hc1] at kz
      exact kz
    refine ⟨?_, fun q hq => ?_, ?_, ?_, ?_, ?_, ?_, ?_, ?_, ?_, ?_, fun j => ?_, ?_, ?_, ?_, fun j hj => ?_⟩
    · rw [u1, d25, d24, d23, d22, d21, d20, d19, d18, d17, d16, d15, d14, d13, d12, d11, d10, d9, d8, d7, d6, d5, d4, d3, d2, d1]
    · have z8 : q ≠ 8 := fun z => hq (by simp [z])
      have z42 : q ≠ 42 := fun z => hq (by simp [z])
      have z43 : q ≠ 43 := fun z => hq (by simp [z])
      have z44 : q ≠ 44 := fun z => hq (by simp [z])
      have z45 : q ≠ 45 := fun z => hq (by simp [z])
      have z46 : q ≠ 46 := fun z => hq (by simp [z])
      have z47 : q ≠ 47 := fun z => hq (by simp [z])
      have z48 : q ≠ 48 := fun z => hq (by simp [z])
      have z49 : q ≠ 49 := fun z => hq (by simp [z])
      have z50 : q ≠ 50 := fun z => hq (by simp [z])
      have z51 : q ≠ 51 := fun z => hq (by simp [z])
      rw [u2 q z8 z51, o25 q z50, o24 q z49, o23 q z49, o22 q z48, o21 q z47, o20 q z8, o19 q z50, o18 q z49, o17 q z48, o16 q z47, o15 q z46, o14 q z45, o13 q z44, o12 q z43, o11 q z42, o10 q z8, o9 q z50, o8 q z49, o7 q z48, o6 q z47, o5 q z46, o4 q z45, o3 q z44, o2 q z43, o1 q z42]
    · rw [u2 42 (by decide) (by decide), o25 42 (by decide), o24 42 (by decide), o23 42 (by decide), o22 42 (by decide), o21 42 (by decide), o20 42 (by decide), o19 42 (by decide), o18 42 (by decide), o17 42 (by decide), o16 42 (by decide), o15 42 (by decide), o14 42 (by decide), o13 42 (by decide), o12 42 (by decide), t11, o10 42 (by decide), o9 42 (by decide), o8 42 (by decide), o7 42 (by decide), o6 42 (by decide), o5 42 (by decide), o4 42 (by decide), o3 42 (by decide), o2 42 (by decide), t1]
    · rw [u2 43 (by decide) (by decide), o25 43 (by decide), o24 43 (by decide), o23 43 (by decide), o22 43 (by decide), o21 43 (by decide), o20 43 (by decide), o19 43 (by decide), o18 43 (by decide), o17 43 (by decide), o16 43 (by decide), o15 43 (by decide), o14 43 (by decide), o13 43 (by decide), t12, o11 43 (by decide), o10 43 (by decide), o9 43 (by decide), o8 43 (by decide), o7 43 (by decide), o6 43 (by decide), o5 43 (by decide), o4 43 (by decide), o3 43 (by decide), t2, o1 43 (by decide)]
    · rw [u2 44 (by decide) (by decide), o25 44 (by decide), o24 44 (by decide), o23 44 (by decide), o22 44 (by decide), o21 44 (by decide), o20 44 (by decide), o19 44 (by decide), o18 44 (by decide), o17 44 (by decide), o16 44 (by decide), o15 44 (by decide), o14 44 (by decide), t13, o12 44 (by decide), o11 44 (by decide), o10 44 (by decide), o9 44 (by decide), o8 44 (by decide), o7 44 (by decide), o6 44 (by decide), o5 44 (by decide), o4 44 (by decide), t3, o2 44 (by decide), o1 44 (by decide)]
    · rw [u2 45 (by decide) (by decide), o25 45 (by decide), o24 45 (by decide), o23 45 (by decide), o22 45 (by decide), o21 45 (by decide), o20 45 (by decide), o19 45 (by decide), o18 45 (by decide), o17 45 (by decide), o16 45 (by decide), o15 45 (by decide), t14, o13 45 (by decide), o12 45 (by decide), o11 45 (by decide), o10 45 (by decide), o9 45 (by decide), o8 45 (by decide), o7 45 (by decide), o6 45 (by decide), o5 45 (by decide), t4, o3 45 (by decide), o2 45 (by decide), o1 45 (by decide)]
    · rw [u2 46 (by decide) (by decide), o25 46 (by decide), o24 46 (by decide), o23 46 (by decide), o22 46 (by decide), o21 46 (by decide), o20 46 (by decide), o19 46 (by decide), o18 46 (by decide), o17 46 (by decide), o16 46 (by decide), t15, o14 46 (by decide), o13 46 (by decide), o12 46 (by decide), o11 46 (by decide), o10 46 (by decide), o9 46 (by decide), o8 46 (by decide), o7 46 (by decide), o6 46 (by decide), t5, o4 46 (by decide), o3 46 (by decide), o2 46 (by decide), o1 46 (by decide)]
    · rw [u2 47 (by decide) (by decide), o25 47 (by decide), o24 47 (by decide), o23 47 (by decide), o22 47 (by decide), t21, o20 47 (by decide), o19 47 (by decide), o18 47 (by decide), o17 47 (by decide), t16, o15 47 (by decide), o14 47 (by decide), o13 47 (by decide), o12 47 (by decide), o11 47 (by decide), o10 47 (by decide), o9 47 (by decide), o8 47 (by decide), o7 47 (by decide), t6, o5 47 (by decide), o4 47 (by decide), o3 47 (by decide), o2 47 (by decide), o1 47 (by decide)]
    · rw [u2 48 (by decide) (by decide), o25 48 (by decide), o24 48 (by decide), o23 48 (by decide), t22, o21 48 (by decide), o20 48 (by decide), o19 48 (by decide), o18 48 (by decide), t17, o16 48 (by decide), o15 48 (by decide), o14 48 (by decide), o13 48 (by decide), o12 48 (by decide), o11 48 (by decide), o10 48 (by decide), o9 48 (by decide), o8 48 (by decide), t7, o6 48 (by decide), o5 48 (by decide), o4 48 (by decide), o3 48 (by decide), o2 48 (by decide), o1 48 (by decide)]
    · rw [u2 49 (by decide) (by decide), o25 49 (by decide), t24, t23, o22 49 (by decide), o21 49 (by decide), o20 49 (by decide), o19 49 (by decide), t18, o17 49 (by decide), o16 49 (by decide), o15 49 (by decide), o14 49 (by decide), o13 49 (by decide), o12 49 (by decide), o11 49 (by decide), o10 49 (by decide), o9 49 (by decide), t8, o7 49 (by decide), o6 49 (by decide), o5 49 (by decide), o4 49 (by decide), o3 49 (by decide), o2 49 (by decide), o1 49 (by decide)]
    · rw [u2 50 (by decide) (by decide), t25, o24 50 (by decide), o23 50 (by decide), o22 50 (by decide), o21 50 (by decide), o20 50 (by decide), t19, o18 50 (by decide), o17 50 (by decide), o16 50 (by decide), o15 50 (by decide), o14 50 (by decide), o13 50 (by decide), o12 50 (by decide), o11 50 (by decide), o10 50 (by decide), t9, o8 50 (by decide), o7 50 (by decide), o6 50 (by decide), o5 50 (by decide), o4 50 (by decide), o3 50 (by decide), o2 50 (by decide), o1 50 (by decide)]
    · rw [u4 j, hc1, o25 51 (by decide), o24 51 (by decide), o23 51 (by decide), o22 51 (by decide), o21 51 (by decide), o20 51 (by decide), o19 51 (by decide), o18 51 (by decide), o17 51 (by decide), o16 51 (by decide), o15 51 (by decide), o14 51 (by decide), o13 51 (by decide), o12 51 (by decide), o11 51 (by decide), o10 51 (by decide), o9 51 (by decide), o8 51 (by decide), o7 51 (by decide), o6 51 (by decide), o5 51 (by decide), o4 51 (by decide), o3 51 (by decide), o2 51 (by decide), o1 51 (by decide)]
    · rw [u3]
      show v25.1 8 8 = _
      rw [E25]
      rfl
    · rw [u3]
      show v25.1 8 9 + 1 = _
      rw [E25]
      rfl
    · rw [u3]
      show v25.1 8 27 = _
      rw [E25]
      rfl
    · have y8 : j ≠ 8 := fun z => hj (by simp [z])
      have y9 : j ≠ 9 := fun z => hj (by simp [z])
      have y27 : j ≠ 27 := fun z => hj (by simp [z])
      rw [u3, upd_at, if_neg y9, E25, upd_at, if_neg y27, upd_at, if_neg y8, upd_at, if_neg y27, upd_at, if_neg y8]
