/-! reports and digest -/
theorem b_mk (P : Nat → Prop) : ∀ k, k ≤ 13 → ∃ x : Int32, ∀ g, bt x g = true ↔ g < k ∧ P g
  | 0, _ => ⟨0, fun g => by
      rw [b_0]
      exact ⟨fun z => (Bool.false_ne_true z).elim, fun z => absurd z.1 (Nat.not_lt_zero g)⟩⟩
  | k + 1, hk => by
    obtain ⟨x, hx⟩ := b_mk P k (by omega)
    by_cases hp : P k
    · refine ⟨x ||| (1 : Int32) <<< (nI k &&& 31), fun g => ?_⟩
      rw [b_or, Bool.or_eq_true, hx, b_one (by omega), decide_eq_true_eq]
      constructor
      · rintro (⟨z1, z2⟩ | rfl)
        · exact ⟨by omega, z2⟩
        · exact ⟨by omega, hp⟩
      · rintro ⟨z1, z2⟩
        by_cases z : g = k
        · exact Or.inr z
        · exact Or.inl ⟨by omega, z2⟩
    · refine ⟨x, fun g => ?_⟩
      rw [hx]
      constructor
      · rintro ⟨z1, z2⟩
        exact ⟨by omega, z2⟩
      · rintro ⟨z1, z2⟩
        by_cases z : g = k
        · subst z
          exact absurd z2 hp
        · exact ⟨by omega, z2⟩
theorem qn_m5 : qn (-5) = 0 := by decide
theorem rd_eq {w : qq_w} {N Pn E n x : Nat} (H : iPrg w N Pn E) (hn : n < N) (hx1 : 1 ≤ x) (hx : x < 13) : mReads w n (nI x) ↔ cWt w n x := by
  obtain ⟨-, t1, t2, t3, t4, -, -, -, t8, -⟩ := iP_tell H hn
  obtain ⟨e23, hcl⟩ := iP_cli H
  obtain ⟨p, k, hp, hk, -, ek, -, ⟨hX, hX'⟩, ⟨hY, hY'⟩, ⟨hZ, hZ'⟩, ⟨-, h5⟩, -⟩ := iP_kind H hn
  have hpr := H.2.2.1 p hp
  have hv : ∀ v, iVar w p v → ∀ y, y < 13 → (v = nI y ↔ y = qn v) := by
    intro v hv y hy
    obtain ⟨X, h1, h2, rfl⟩ := iVar_lt hpr hv
    rw [qn_nI (by omega), nI_eq (by omega) (by omega)]
    exact eq_comm
  have cK : ∀ j : Nat, j < 11 → (cX w n 1 = nI j ↔ k = j) := fun j hj => by rw [ek, nI_eq (by omega) (by omega)]
  have c8 : cX w n 1 = 8 ↔ k = 8 := cK 8 (by decide)
  have c4 : cX w n 1 = 4 ↔ k = 4 := cK 4 (by decide)
  have c5 : cX w n 1 = 5 ↔ k = 5 := cK 5 (by decide)
  have c9 : cX w n 1 = 9 ↔ k = 9 := cK 9 (by decide)
  have n5 : ¬ (-5 : Int32) = nI x := fun z => i_ng (by omega) (-5) (by decide) z.symm
  unfold mReads cWt cReadG
  rw [t1, t2, t3, t4, t8, e23, c8, c4, c5, c9]
  have eX : k = 8 → (cX w n 2 = nI x ↔ x = qn (cX w n 2)) := fun z => hv _ (hX (by omega)) x hx
  have eY : (cX w n 3 = nI x) ↔ ((k = 4 ∨ k = 5) ∧ x = qn (cX w n 3)) := by
    by_cases z : k = 4 ∨ k = 5
    · rw [hv _ (hY z) x hx]
      exact ⟨fun y => ⟨z, y⟩, fun y => y.2⟩
    · rw [hY' z]
      exact ⟨fun y => absurd y n5, fun y => absurd y.1 z⟩
  have eZ : (cX w n 4 = nI x) ↔ (k = 5 ∧ x = qn (cX w n 4)) := by
    by_cases z : k = 5
    · rw [hv _ (hZ z) x hx]
      exact ⟨fun y => ⟨z, y⟩, fun y => y.2⟩
    · rw [hZ' z]
      exact ⟨fun y => absurd y n5, fun y => absurd y.1 z⟩
  have eA : (∃ i, i < qn (cX w n 8) ∧ w.1 51 (4 * n + i) = nI x) ↔ (k = 9 ∧ ∃ i, i < qn (cX w n 8) ∧ ¬ w.1 14 (4 * n + i) = -5 ∧ x = qn (w.1 14 (4 * n + i))) := by
    by_cases z : k = 9
    · obtain ⟨q, hq, f0, p', r, m, hp', hr, hm, e5, v6, e7, r1, r0, r9, e8, ha⟩ := iP_call H hn (c9.mpr z)
      rw [e8, qn_nI (by omega)]
      constructor
      · rintro ⟨i, hi, h1⟩
        rw [(ha i (by omega)).2] at h1
        refine ⟨z, i, hi, fun y => n5 (y.symm.trans h1), ?_⟩
        rw [h1, qn_nI (by omega)]
      · rintro ⟨-, i, hi, h1, h2⟩
        refine ⟨i, hi, ?_⟩
        rw [(ha i (by omega)).2]
        rcases iVarO_lt (H.2.2.1 q hq) (ha i (by omega)).1 with y | ⟨y, y1, y2, y3⟩
        · exact absurd y h1
        · rw [y3, h2, y3, qn_nI (by omega)]
    · rw [(h5 z).2.2.2, qn_m5]
      constructor
      · rintro ⟨i, hi, -⟩
        omega
      · rintro ⟨y, -⟩
        exact absurd y z
  rw [eY, eZ, eA]
  rcases hcl with c | c | c <;> rw [c]
  · constructor
    · rintro ⟨⟨-, h1, h2⟩ | ⟨h1, -⟩ | ⟨h1, -⟩, -⟩
      · exact Or.inl ⟨⟨by decide, h1⟩, (eX h1).mp h2⟩
      · exact absurd rfl h1
      · exact absurd h1 (by decide)
    · rintro (⟨⟨h1, h2⟩, h3⟩ | ⟨-, h1, -⟩)
      · exact ⟨Or.inl ⟨rfl, h2, (eX h2).mpr h3⟩, by decide⟩
      · exact absurd h1 (by decide)
  · constructor
    · rintro ⟨⟨h1, -⟩ | ⟨-, ⟨h1, h2⟩ | h1 | h1⟩ | ⟨-, h1⟩, -⟩
      · exact absurd h1 (by decide)
      · exact Or.inl ⟨⟨by decide, h1⟩, (eX h1).mp h2⟩
      · exact Or.inr ⟨fun z => by omega, rfl, Or.inl h1⟩
      · exact Or.inr ⟨fun z => by omega, rfl, Or.inr (Or.inl h1)⟩
      · exact Or.inr ⟨fun z => by omega, rfl, Or.inr (Or.inr h1)⟩
    · rintro (⟨⟨h1, h2⟩, h3⟩ | ⟨-, -, h1 | h1 | h1⟩)
      · exact ⟨Or.inr (Or.inl ⟨by decide, Or.inl ⟨h2, (eX h2).mpr h3⟩⟩), by decide⟩
      · exact ⟨Or.inr (Or.inl ⟨by decide, Or.inr (Or.inl h1)⟩), by decide⟩
      · exact ⟨Or.inr (Or.inl ⟨by decide, Or.inr (Or.inr h1)⟩), by decide⟩
      · exact ⟨Or.inr (Or.inr ⟨rfl, h1⟩), by decide⟩
  · constructor
    · rintro ⟨-, h1⟩
      exact absurd rfl h1
    · rintro (⟨⟨h1, -⟩, -⟩ | ⟨-, h1, -⟩)
      · exact absurd rfl h1
      · exact absurd h1 (by decide)
theorem wt_pos {w : qq_w} {N Pn E n x : Nat} (H : iPrg w N Pn E) (hn : n < N) (h : cWt w n x) : 1 ≤ x := by
  obtain ⟨p, k, hp, hk, -, ek, -, ⟨hX, -⟩, ⟨hY, -⟩, ⟨hZ, -⟩, -⟩ := iP_kind H hn
  have hpr := H.2.2.1 p hp
  have hv : ∀ v, iVar w p v → 1 ≤ qn v := by
    intro v hv
    obtain ⟨X, h1, h2, rfl⟩ := iVar_lt hpr hv
    rw [qn_nI (by omega)]
    exact h1
  have cK : ∀ j : Nat, j < 11 → cX w n 1 = nI j → k = j := fun j hj h => nI_inj (by omega) (by omega) (ek.symm.trans h)
  rcases h with ⟨⟨-, h8⟩, rfl⟩ | ⟨-, -, ⟨h4, rfl⟩ | ⟨h5, rfl⟩ | ⟨h9, i, hi, h1, rfl⟩⟩
  · have := cK 8 (by decide) h8
    exact hv _ (hX (by omega))
  · refine hv _ (hY ?_)
    rcases h4 with h4 | h4
    · exact Or.inl (cK 4 (by decide) h4)
    · exact Or.inr (cK 5 (by decide) h4)
  · exact hv _ (hZ (cK 5 (by decide) h5))
  · obtain ⟨q, hq, f0, p', r, m, hp', hr, hm, e5, v6, e7, r1, r0, r9, e8, ha⟩ := iP_call H hn h9
    rw [e8, qn_nI (by omega)] at hi
    rcases iVarO_lt (H.2.2.1 q hq) (ha i (by omega)).1 with y | ⟨y, y1, y2, y3⟩
    · exact absurd y h1
    · rw [y3, qn_nI (by omega)]
      exact y1
/-- the reported, by node -/
theorem rp_ex {w : qq_w} {N Pn E t : Nat} (H : iPrg w N Pn E) (q1 : cBeg w N Pn t t) (q2 : mBeg w N Pn t t) : ∃ B : Nat → Int32, (∀ n, n < N → fs (B n) ∧ ∀ g, bt (B n) g = true ↔ cRp w n g) ∧ ∀ n, n < N → bt (B n) 0 = false ∧ ∀ x, 1 ≤ x → x < 13 → (bt (B n) x = true ↔ mReads w n (nI x) ∧ mHolds w n x) := by
  have hN : N ≤ 64 := H.1.1
  have hB : ∀ n, ∃ x : Int32, ∀ g, bt x g = true ↔ g < 13 ∧ cRp w n g := fun n => b_mk (cRp w n) 13 (by omega)
  have lt : ∀ n g, n < N → cRp w n g → g < 13 := by
    rintro n g hn ⟨-, d, hd, hb⟩
    exact fs_lt (q1.2.2.2.2.2 _ (by omega)) hb
  have hh : ∀ n x, n < N → (cHolds w n x ↔ mHolds w n x) := by
    intro n x hn
    constructor
    · rintro ⟨d, hd, hb⟩
      exact ⟨d, hd, by rw [← rows_eq q1 q2 (by omega)]; exact hb⟩
    · rintro ⟨d, hd, hb⟩
      exact ⟨d, hd, by rw [rows_eq q1 q2 (by omega)]; exact hb⟩
  refine ⟨fun n => Classical.choose (hB n), fun n hn => ⟨fun i hi => ?_, fun g => ?_⟩, fun n hn => ⟨?_, fun x hx1 hx => ?_⟩⟩
  · cases z : bt (Classical.choose (hB n)) i with
    | false => rfl
    | true =>
      have := ((Classical.choose_spec (hB n)) i).mp z
      omega
  · rw [Classical.choose_spec (hB n) g]
    exact ⟨fun z => z.2, fun z => ⟨lt n g hn z, z⟩⟩
  · cases z : bt (Classical.choose (hB n)) 0 with
    | false => rfl
    | true =>
      have := wt_pos H hn ((Classical.choose_spec (hB n)) 0 |>.mp z).2.1
      omega
  · rw [Classical.choose_spec (hB n) x, rd_eq H hn hx1 hx, ← hh n x hn]
    exact ⟨fun z => z.2, fun z => ⟨hx, z⟩⟩
theorem pcb_mo {x : Int32} {a : Nat} : ∀ b, a ≤ b → pcb x a ≤ pcb x b
  | 0, h => by
    obtain rfl : a = 0 := by omega
    exact Nat.le_refl _
  | b + 1, h => by
    by_cases z : a = b + 1
    · subst z
      exact Nat.le_refl _
    · have := pcb_mo (x := x) (a := a) b (by omega)
      show pcb x a ≤ pcb x b + _
      omega
theorem pcb_st {x : Int32} {a b : Nat} (h : a < b) (hb : bt x a = true) : pcb x a < pcb x b := by
  have h1 : pcb x (a + 1) = pcb x a + 1 := by
    show pcb x a + (if bt x a = true then 1 else 0) = _
    rw [if_pos hb]
  have := pcb_mo (x := x) b (show a + 1 ≤ b by omega)
  omega
theorem cCount_mo {f : Nat → Int32} {a : Nat} : ∀ b, a ≤ b → cCount f a ≤ cCount f b
  | 0, h => by
    obtain rfl : a = 0 := by omega
    exact Nat.le_refl _
  | b + 1, h => by
    by_cases z : a = b + 1
    · subst z
      exact Nat.le_refl _
    · have := cCount_mo (f := f) (a := a) b (by omega)
      show cCount f a ≤ cCount f b + _
      omega
theorem rk_lt {B : Nat → Int32} {n x n' x' : Nat} (hx : x < 13) (hb : bt (B n) x = true) (h : n < n' ∨ (n = n' ∧ x < x')) : cCount B n + pcb (B n) x < cCount B n' + pcb (B n') x' := by
  rcases h with h | ⟨rfl, h⟩
  · have h1 := pcb_st hx hb
    have h2 := cCount_mo (f := B) n' (show n + 1 ≤ n' by omega)
    have h3 : cCount B (n + 1) = cCount B n + pcb (B n) 13 := rfl
    omega
  · have := pcb_st h hb
    omega
theorem rp_uq {B : Nat → Int32} {i : Int32} {n x n' x' : Nat} (hn : n < 64) (hx : x < 13) (hn' : n' < 64) (hx' : x' < 13) (h : rpIs B i n x) (h' : rpIs B i n' x') : n = n' ∧ x = x' := by
  have b1 := cCount_le B n
  have b2 := pcb_le (B n) x
  have b3 := cCount_le B n'
  have b4 := pcb_le (B n') x'
  have e := nI_inj (by omega) (by omega) (h.2.trans h'.2.symm)
  rcases Nat.lt_trichotomy n n' with z | z | z
  · have := rk_lt hx h.1 (Or.inl z) (x' := x')
    omega
  · subst z
    rcases Nat.lt_trichotomy x x' with y | y | y
    · have := rk_lt hx h.1 (Or.inr ⟨rfl, y⟩)
      omega
    · exact ⟨rfl, y⟩
    · have := rk_lt hx' h'.1 (Or.inr ⟨rfl, y⟩)
      omega
  · have := rk_lt hx' h'.1 (Or.inl z) (x' := x)
    omega
theorem Inv_46 {w : qq_w} (h : Inv w) (x : Int32) : Inv (qq_ui w 8 46 x) := by
  obtain ⟨N, Pn, E, H, hF, hT, hS⟩ := h
  have hfr : frT w (qq_ui w 8 46 x) := by
    refine ⟨fun q hq => ?_, fun j hj => ?_, rfl⟩
    · have z8 : q ≠ 8 := fun z => hq (by simp [z])
      simp only [qq_ui, va_up, z8, if_false]
    · have z0 : j ≠ 46 := fun z => hj (by simp [z])
      show upd (w.1 8) 46 _ j = _
      rw [upd_at, if_neg z0]
  refine ⟨N, Pn, E, iPrg_sp (frT_sp hfr) H, iFnd_eq rfl rfl rfl rfl hF, iTrk_eq rfl rfl (fun q hq => ?_) hT, iSol_fr hfr hS⟩
  have z8 : q ≠ 8 := fun z => by subst z; revert hq; decide
  simp only [qq_ui, va_up, z8, if_false]
theorem lo_reports : lwI Inv T_X7_reports T_X8_reports [] := by
  intro w h
  obtain ⟨N, Pn, E, H, hF, hT, hS⟩ := id h
  obtain ⟨hN, hP, hE, e10, e88, e9, e82, e11, e820, -⟩ := H.1
  have eN := (iP_P H).2.2.1
  have eN8 := (iP_P H).2.2.2.1
  have v10 : vp_in (w.1 1 10) 65 := i_in 65 e10 (by omega) (by decide)
  have v88 : vp_in (w.1 8 8) 65 := i_in 65 e88 (by omega) (by decide)
  rcases sol_c hS with ⟨z1, z2⟩ | ⟨z1, z2, z3, z4⟩ | ⟨t, z1, z2, z3, z4, q1, q2, q5, q6⟩
  · ((conv => whnf); (repeat ((first | refine br_t (by decide) ?_ | refine br_f (by decide) ?_ | refine br_nt (by decide) ?_ | refine br_nf (by decide) ?_ | refine br_t (by assumption) ?_ | refine br_f (by assumption) ?_ | refine br_nt (by assumption) ?_ | refine br_nf (by assumption) ?_ | refine ⟨_, rfl, ?_⟩ | refine ⟨by assumption, ?_⟩); (conv => whnf))); exact ⟨rfl, h⟩)
  · ((conv => whnf); (repeat ((first | refine br_t (by decide) ?_ | refine br_f (by decide) ?_ | refine br_nt (by decide) ?_ | refine br_nf (by decide) ?_ | refine br_t (by assumption) ?_ | refine br_f (by assumption) ?_ | refine br_nt (by assumption) ?_ | refine br_nf (by assumption) ?_ | refine ⟨_, rfl, ?_⟩ | refine ⟨by assumption, ?_⟩); (conv => whnf))); exact ⟨rfl, h⟩)
  · obtain ⟨B, hB1, hB2⟩ := rp_ex H q1 q2
    conv => whnf
    (repeat ((first | refine br_t (by decide) ?_ | refine br_f (by decide) ?_ | refine br_nt (by decide) ?_ | refine br_nf (by decide) ?_ | refine br_t (by assumption) ?_ | refine br_f (by assumption) ?_ | refine br_nt (by assumption) ?_ | refine br_nf (by assumption) ?_ | refine ⟨_, rfl, ?_⟩ | refine ⟨by assumption, ?_⟩); (conv => whnf)))
    refine ⟨rfl, rfl, ⟨rfl, rfl, rfl, trivial⟩, v10, fun n hn => iP_cRk H (by rw [eN] at hn; exact hn), B, fun n hn => hB1 n (by rw [eN] at hn; exact hn), ?_⟩
    conv => whnf
    (repeat ((first | refine br_t (by decide) ?_ | refine br_f (by decide) ?_ | refine br_nt (by decide) ?_ | refine br_nf (by decide) ?_ | refine br_t (by assumption) ?_ | refine br_f (by assumption) ?_ | refine br_nt (by assumption) ?_ | refine br_nf (by assumption) ?_ | refine ⟨_, rfl, ?_⟩ | refine ⟨by assumption, ?_⟩); (conv => whnf)))
    refine ⟨⟨v88, fun n hn => (iP_mRo H (by rw [eN8] at hn; exact hn)).2⟩, B, fun n hn => hB2 n (by rw [eN8] at hn; exact hn), fun n x hn hx1 hx hr => ?_, fun hr => ?_⟩
    · conv => whnf
      exact ⟨by show some (Value.int (nI (cCount B (qn (w.1 8 8))))) = _; rw [eN8, eN], Inv_46 h _⟩
    · conv => whnf
      exact ⟨by show some (Value.int (nI (cCount B (qn (w.1 8 8))))) = _; rw [eN8, eN], Inv_46 h _⟩
