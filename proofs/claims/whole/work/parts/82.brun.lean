/-! where every short track is found, there is one -/
theorem run_lev {D : BD} {N : Nat} (hb : bOk D N) (hF : ∀ n p f g, bF D n p f g → n < N ∧ f < 13 ∧ g < 13) (hE : ∀ m n, bE D m n → m < N ∧ n < N) : ∀ V n d f, n < N → d < 13 → f < 13 → bL D n d f = V → V < 300 → ∃ l : List (Nat × Nat × Nat), l.length = V ∧ ∀ st, bRun D l (n, f, d, st) (bEn D (bOw D n), d, d, st) := by
  obtain ⟨b1, b2, b3, b4, b5, b6, b7, b8, b9, b10, b11⟩ := hb
  intro V
  induction V using Nat.strongRecOn with
  | _ V ih =>
    intro n d f hn hd hf hV hV3
    by_cases h0 : V = 0
    · subst h0
      obtain ⟨e1, e2⟩ := b1 n d f hn hd hf hV
      refine ⟨[], rfl, fun st => ?_⟩
      show (n, f, d, st) = _
      rw [← e1, e2]
    by_cases h10 : bK D n = 10
    · obtain ⟨p1, p2, p3⟩ := b5 n hn h10
      by_cases hA : ∃ g, bPA D n d f g
      · obtain ⟨g, hg⟩ := hA
        obtain ⟨y, hy, -⟩ := lst_ex hg
        have hy1 : bL D (bPa D n) d y + 1 = bL D n d f ∧ bF D (bPa D n) 0 y f := hy.1
        obtain ⟨z1, z2⟩ := hy1
        obtain ⟨l, hl, hr⟩ := ih (V - 1) (by omega) (bPa D n) d y p1 hd (hF _ _ _ _ z2).2.1 (by omega) (by omega)
        refine ⟨(n, f, 2) :: l, by simp only [List.length_cons]; omega, fun st => ⟨(bPa D n, y, d, st), ⟨rfl, rfl, ?_⟩, ?_⟩⟩
        · exact Or.inr (Or.inr (Or.inr (Or.inl ⟨h10, rfl, hy, rfl, rfl, rfl⟩)))
        · have := hr st
          rw [p2] at this
          exact this
      · have hT := (b3 n d f hn hd hf h10 (by omega) (by omega)).resolve_left hA
        obtain ⟨x, hx⟩ := hT
        obtain ⟨y, hy, -⟩ := lst_ex hx
        have hy1 : bF D (bPa D n) 1 (y / 169) (y / 13 % 13) ∧ bF D (bPa D n) 2 (y % 13) f ∧ bL D (bPa D n) d (y / 169) + bL D (bLe D (bCa D (bPa D n))) (y / 13 % 13) (y % 13) + 2 = bL D n d f := hy.1
        obtain ⟨z1, z2, z3⟩ := hy1
        obtain ⟨q1, q2⟩ := b6 (bPa D n) p1 p3
        have hg := (hF _ _ _ _ z1).2.1
        obtain ⟨l1, hl1, hr1⟩ := ih _ (by omega) (bLe D (bCa D (bPa D n))) (y / 13 % 13) (y % 13) q1 (by omega) (by omega) rfl (by omega)
        obtain ⟨l2, hl2, hr2⟩ := ih _ (by omega) (bPa D n) d (y / 169) p1 hd hg rfl (by omega)
        obtain ⟨r1, r2, r3⟩ := b7 _ q1
        have ey : y = 169 * (y / 169) + 13 * (y / 13 % 13) + y % 13 := by omega
        refine ⟨(n, f, 4) :: (l1 ++ (bEn D (bOw D (bLe D (bCa D (bPa D n)))), y / 13 % 13, 3) :: l2), ?_, fun st => ⟨(bLe D (bCa D (bPa D n)), y % 13, y / 13 % 13, (bPa D n, y / 169, d) :: st), ⟨rfl, rfl, ?_⟩, ?_⟩⟩
        · simp only [List.length_cons, List.length_append]
          omega
        · refine Or.inr (Or.inr (Or.inr (Or.inr (Or.inl ⟨h10, fun g hg => hA ⟨g, hg⟩, rfl, Nat.mod_lt _ (by decide), Nat.mod_lt _ (by decide), ⟨y / 169, ?_, rfl⟩, rfl⟩))))
          rw [← ey]
          exact hy
        · refine bRun_app _ _ _ _ _ (hr1 _) ⟨(bPa D n, y / 169, d, st), ⟨rfl, rfl, Or.inl ⟨r2, rfl, rfl⟩⟩, ?_⟩
          have := hr2 st
          rw [p2] at this
          exact this
    · obtain ⟨k0, x, hx⟩ := b2 n d f hn hd hf h10 (by omega) (by omega)
      obtain ⟨y, hy, -⟩ := lst_ex hx
      have hy1 : bE D (y / 13) n ∧ bL D (y / 13) d (y % 13) + 1 = bL D n d f ∧ bF D (y / 13) 0 (y % 13) f := hy.1
      obtain ⟨z1, z2, z3⟩ := hy1
      have hm := (hE _ _ z1).1
      obtain ⟨l, hl, hr⟩ := ih (V - 1) (by omega) (y / 13) d (y % 13) hm hd (by omega) (by omega) (by omega)
      refine ⟨(n, f, 1) :: l, by simp only [List.length_cons]; omega, fun st => ⟨(y / 13, y % 13, d, st), ⟨rfl, rfl, ?_⟩, ?_⟩⟩
      · refine Or.inr (Or.inr (Or.inr (Or.inr (Or.inr ⟨k0, h10, rfl, ?_, ?_, rfl, rfl⟩))))
        · show y % 13 < 13
          omega
        · show lst (bPE D n d f) (13 * (y / 13) + y % 13)
          rw [Nat.div_add_mod]
          exact hy
      · have := hr st
        rw [b4 _ _ z1] at this
        exact this
theorem bOut_ex {D : BD} {N n f : Nat} (hb : bOk D N) (hn : n < N) (hf : f < 13) (h : bW D n f < 300) : ∃ d, bOut D n f d := by
  obtain ⟨d, hd, he⟩ := hb.2.2.2.2.2.2.2.2.1 n f hn hf h
  obtain ⟨y, hy, hle⟩ := lst_ex (P := fun d => bW D (bEn D (bOw D n)) d + bL D n d f = bW D n f) he
  exact ⟨y, by omega, hy⟩
theorem run_st {D : BD} {N : Nat} (hb : bOk D N) (hF : ∀ n p f g, bF D n p f g → n < N ∧ f < 13 ∧ g < 13) (hE : ∀ m n, bE D m n → m < N ∧ n < N) : ∀ W n f d, n < N → f < 13 → bW D n f = W → W < 300 → bOut D n f d → ∃ (l : List (Nat × Nat × Nat)) (s' : BSt), l.length = W + 1 ∧ bRun D l (n, f, d, []) s' := by
  intro W
  induction W using Nat.strongRecOn with
  | _ W ih =>
    intro n f d hn hf hW hW3 ho
    obtain ⟨hd, ho1, -⟩ := ho
    have ho1 : bW D (bEn D (bOw D n)) d + bL D n d f = bW D n f := ho1
    obtain ⟨r1, r2, r3⟩ := hb.2.2.2.2.2.2.1 n hn
    obtain ⟨l1, hl1, hr1⟩ := run_lev hb hF hE _ n d f hn hd hf rfl (by omega)
    by_cases hB : bOw D (bEn D (bOw D n)) = 0 ∧ bBg D d
    · have hz := hb.2.2.2.2.2.2.2.2.2.2 _ d r1 hd r2 hB.1 hB.2
      refine ⟨l1 ++ [(bEn D (bOw D n), d, 0)], (bEn D (bOw D n), d, d, []), ?_, bRun_app _ _ _ _ _ (hr1 []) ⟨_, ⟨rfl, rfl, Or.inr (Or.inl ⟨r2, rfl, hB, rfl, rfl, rfl, rfl, rfl⟩)⟩, rfl⟩⟩
      simp only [List.length_append, List.length_cons, List.length_nil]
      omega
    · obtain ⟨x, hx⟩ := hb.2.2.2.2.2.2.2.2.2.1 _ d r1 hd r2 (by omega) hB
      obtain ⟨y, hy, -⟩ := lst_ex hx
      have hy1 : bK D (y / 13) = 9 ∧ bCa D (y / 13) = bOw D (bEn D (bOw D n)) ∧ bW D (y / 13) (y % 13) + 1 = bW D (bEn D (bOw D n)) d ∧ bF D (y / 13) 1 (y % 13) d := hy.1
      obtain ⟨z1, z2, z3, z4⟩ := hy1
      have hc := (hF _ _ _ _ z4).1
      obtain ⟨d', ho'⟩ := bOut_ex hb hc (f := y % 13) (by omega) (by omega)
      obtain ⟨l2, s', hl2, hr2⟩ := ih (bW D (y / 13) (y % 13)) (by omega) (y / 13) (y % 13) d' hc (by omega) rfl (by omega) ho'
      refine ⟨l1 ++ (bEn D (bOw D n), d, 3) :: l2, s', ?_, bRun_app _ _ _ _ _ (hr1 []) ⟨(y / 13, y % 13, d', []), ⟨rfl, rfl, Or.inr (Or.inr (Or.inl ⟨r2, rfl, hB, rfl, ?_, ?_, ho', rfl⟩))⟩, hr2⟩⟩
      · simp only [List.length_append, List.length_cons]
        omega
      · show y % 13 < 13
        omega
      · show lst (bPC D (bEn D (bOw D n)) d) (13 * (y / 13) + y % 13)
        rw [Nat.div_add_mod]
        exact hy
/-- the class's own picture of lengths is one of the reference's form -/
def lcv (x : Int64) : Int64 := if lq x ≤ 1000000000000 then x else lN 4000000000000000000
def wcv (w : qq_w) : qq_w := (w.1, fun q => if q = 59 then (fun c => lcv (w.2 33 c)) else if q = 60 then (fun c => lcv (w.2 24 c)) else w.2 q)
theorem lcv_min {x : Int64} {D : Nat → Prop} (h : lMin x 2000000000000 D) : lMin (lcv x) 4000000000000000000 D ∧ lu (lcv x) = lu x := by
  rcases h with ⟨L, rfl, h1, h2, h3⟩ | ⟨rfl, h1⟩
  · have e : lcv (lN L) = lN L := by
      unfold lcv
      rw [lq_lN (by omega), if_pos h1]
    rw [e]
    exact ⟨Or.inl ⟨L, rfl, h1, h2, h3⟩, rfl⟩
  · have e : lcv (lN 2000000000000) = lN 4000000000000000000 := by
      unfold lcv
      rw [lq_lN (by omega), if_neg (by omega)]
    rw [e]
    refine ⟨Or.inr ⟨rfl, h1⟩, ?_⟩
    unfold lu
    rw [lq_U, lq_lN (by omega), if_neg (by omega), if_neg (by omega)]
theorem cv_len {w : qq_w} {N Pn E t : Nat} (H : iPrg w N Pn E) (hc : cBeg w N Pn t t) (hm : mBeg w N Pn t t) (hL : cLen w N Pn) : mLenN (wcv w) N ∧ (∀ n d f, n < N → d < 13 → f < 13 → lu ((wcv w).2 59 (169 * n + 13 * d + f)) = lu (w.2 33 (169 * n + 13 * d + f))) ∧ ∀ n f, n < N → f < 13 → lu ((wcv w).2 60 (13 * n + f)) = lu (w.2 24 (13 * n + f)) := by
  have key : ∀ n d e, n < N → d < 13 → e < 13 → lMin (lcv (w.2 33 (169 * n + 13 * d + e))) 4000000000000000000 (mLD w n d e) ∧ lu (lcv (w.2 33 (169 * n + 13 * d + e))) = lu (w.2 33 (169 * n + 13 * d + e)) := fun n d e hn hd he => lcv_min (lMin_iff (hL.1 n d e hn hd he) (fun L => ld_eq H hc hm))
  have key2 : ∀ n f, n < N → f < 13 → lMin (lcv (w.2 24 (13 * n + f))) 4000000000000000000 (mWD (wcv w) N n f) ∧ lu (lcv (w.2 24 (13 * n + f))) = lu (w.2 24 (13 * n + f)) := fun n f hn hf => lcv_min (lMin_iff (hL.2.1 n f hn hf) (fun L => wd_eq (v := wcv w) H hm.1 hc.2.2.1 rfl (fun n d f b hn hd hf hb => by
    rw [lMin_b (by omega) (by omega) hb (lMin_iff (hL.1 n d f hn hd hf) (fun L => ld_eq H hc hm))]
    exact (lMin_b (by omega) (by omega) hb (key n d f hn hd hf).1).symm)))
  exact ⟨⟨fun n d e hn hd he => (key n d e hn hd he).1, fun n f hn hf => (key2 n f hn hf).1⟩, fun n d f hn hd hf => (key n d f hn hd hf).2, fun n f hn hf => (key2 n f hn hf).2⟩
theorem cv_P {w : qq_w} {N Pn E : Nat} (H : iPrg w N Pn E) : iPrg (wcv w) N Pn E := iPrg_sp ⟨fun _ _ => rfl, fun _ _ => rfl, rfl⟩ H
theorem cv_B {w : qq_w} {N Pn t f : Nat} (H : mBeg w N Pn t f) : mBeg (wcv w) N Pn t f := by
  obtain ⟨h1, h2, ⟨u1, u2, u3, u4, u5, u6⟩, h4, h5, h6⟩ := H
  have hp : sPg w (wcv w) := ⟨fun _ _ => rfl, fun _ _ => rfl, rfl⟩
  refine ⟨h1, h2, ⟨mPW_sp' hp u1, u2, u3, u4, u5, u6⟩, ?_, ?_, h6⟩
  · rw [srch_sp hp]
    exact h4
  · rw [sumI_sp hp]
    exact h5
