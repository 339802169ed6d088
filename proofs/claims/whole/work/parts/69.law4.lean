/-- what is owed of class and reference: each call alike -/
def lwOwed (Inv : qq_w → Prop) : Prop := (∀ a1 a2 : Int32, lwI Inv T_X7_procedure T_X8_procedure [.int a1, .int a2]) ∧
  (∀ a1 a2 : Int32, (a2 = 0 ∨ a2 = 1) → lwI Inv T_X7_ends T_X8_ends [.int a1, .int a2]) ∧
  (∀ a1 a2 : Int32, lwI Inv T_X7_outcome T_X8_outcome [.int a1, .int a2]) ∧
  (∀ a1 a2 a3 a4 a5 : Int32, lwI Inv T_X7_node T_X8_node [.int a1, .int a2, .int a3, .int a4, .int a5]) ∧
  (∀ a1 a2 a3 a4 : Int32, lwI Inv T_X7_call T_X8_call [.int a1, .int a2, .int a3, .int a4]) ∧
  (∀ a1 a2 a3 : Int32, lwI Inv T_X7_argument T_X8_argument [.int a1, .int a2, .int a3]) ∧
  (∀ a1 a2 a3 a4 a5 : Int32, lwI Inv T_X7_copy T_X8_copy [.int a1, .int a2, .int a3, .int a4, .int a5]) ∧
  (∀ a1 a2 : Int32, lwI Inv T_X7_edge T_X8_edge [.int a1, .int a2]) ∧
  (∀ a1 a2 : Int32, lwI Inv T_X7_told T_X8_told [.int a1, .int a2]) ∧
  (∀ a1 a2 : Int32, lwI Inv T_X7_given T_X8_given [.int a1, .int a2]) ∧
  (∀ a1 a2 : Int32, lwI Inv T_X7_is T_X8_is [.int a1, .int a2]) ∧
  (∀ a1 : Int32, lwI Inv T_X7_client T_X8_client [.int a1]) ∧
  (∀ a1 a2 a3 a4 : Int32, lwI Inv T_X7_flow T_X8_flow [.int a1, .int a2, .int a3, .int a4]) ∧
  (∀ a1 a2 a3 : Int32, lwI Inv T_X7_zero T_X8_zero [.int a1, .int a2, .int a3]) ∧
  (∀ a1 a2 : Int32, lwI Inv T_X7_forget T_X8_forget [.int a1, .int a2]) ∧
  (∀ a1 : Int32, lwI Inv T_X7_begin T_X8_begin [.int a1]) ∧
  (∀ a1 a2 a3 : Int32, lwI Inv T_X7_goes T_X8_goes [.int a1, .int a2, .int a3]) ∧
  (∀ a1 : Int32, lwI Inv T_X7_solve T_X8_solve [.int a1]) ∧
  ( lwI Inv T_X7_solved T_X8_solved []) ∧
  (∀ a1 : Int32, lwI Inv T_X7_holds T_X8_holds [.int a1]) ∧
  (∀ a1 : Int32, (a1 = 0 ∨ a1 = 1) → lwI Inv T_X7_edges T_X8_edges [.int a1]) ∧
  (∀ a1 a2 : Int32, lwI Inv T_X7_from T_X8_from [.int a1, .int a2]) ∧
  (∀ a1 a2 : Int32, lwI Inv T_X7_summary T_X8_summary [.int a1, .int a2]) ∧
  (∀ a1 : Int32, lwI Inv T_X7_share T_X8_share [.int a1]) ∧
  (∀ a1 a2 : Int32, lwJ Inv T_X7_length T_X8_length [.int a1, .int a2]) ∧
  (∀ a1 a2 : Int32, lwI Inv T_X7_track T_X8_track [.int a1, .int a2]) ∧
  (∀ a1 a2 : Int32, lwI Inv T_X7_at T_X8_at_ [.int a1, .int a2]) ∧
  ( lwI Inv T_X7_reports T_X8_reports []) ∧
  (∀ a1 a2 : Int32, lwI Inv T_X7_report T_X8_report [.int a1, .int a2]) ∧
  (∀ a1 : Int32, lwI Inv T_X7_count T_X8_count [.int a1]) ∧
  ( lwI Inv T_X7_finding T_X8_finding []) ∧
  (∀ a1 : Int32, lwI Inv T_X7_findings T_X8_findings [.int a1]) ∧
  ( lwJ Inv T_X7_digest T_X8_digest [])
theorem lw_loop {L : Nat} {xs : Nat → Int32} (hL : L ≤ 3072) {P : Option Value → qq_w → Prop} {K : Nat → qq_L → List Value → qq_w → Prop} (S : qq_Sat ww_sh (lw_ro L xs) cs_L_law (qq_at 1281 kd_L_law) (some .boolean) P K) {Inv : qq_w → Prop} (hO : lwOwed Inv) (hP : ∀ w, P (some (.int 1)) w) : ∀ (n i : Nat) (w : qq_w), L < i + 6 * n + 6 → i ≤ L + 6 → Inv w → K 18 [(3, .int (nI i)), (2, .ref 8), (1, .ref 0), (0, .ref 1001)] [] w := by
  obtain ⟨h0, h1, h2, h3, h4, h5, h6, h7, h8, h9, h10, h11, h12, h13, h14, h15, h16, h17, h18, h19, h20, h21, h22, h23, h24, h25, h26, h27, h28, h29, h30, h31, h32⟩ := hO
  intro n
  induction n with
  | zero =>
    intro i w hi hi2 hw
    refine qq_go_ok S (fun pc => Nat.beq pc 1273) 40 ?_
    conv => whnf
    refine ⟨fun _ => ?_, fun c => absurd (lw_gt (L := L) (i := i) (by omega) (by omega) (by omega)) c⟩
    exact hP w
  | succ n ih =>
    intro i w hi hi2 hw
    by_cases hc : L < i + 6
    · refine qq_go_ok S (fun pc => Nat.beq pc 1273) 40 ?_
      conv => whnf
      refine ⟨fun _ => ?_, fun c => absurd (lw_gt (L := L) (i := i) (by omega) (by omega) (by omega)) c⟩
      exact hP w
    have kk : ∀ w, Inv w → K 1273 [(3, .int (nI i)), (2, .ref 8), (1, .ref 0), (0, .ref 1001)] [] w := by
      intro w2 h9
      refine qq_go_ok S (fun pc => Nat.beq pc 18) 40 ?_
      conv => whnf
      have e : nI i + 6 = nI (i + 6) := nI_add i 6
      refine qq_wk S (ih (i + 6) w2 (by omega) (by omega) h9) ⟨?_, rfl, rfl, rfl, trivial⟩
      rw [← e]
      rfl
    have hx : ∀ j : Nat, j < 6 → vp_in (nI i + nI j) L := fun j hj => by
      rw [nI_add]
      exact vp_in_nI (by omega) (by omega)
    refine qq_go_ok S (fun pc => Nat.beq pc 1273 || Nat.beq pc 180 || Nat.beq pc 213 || Nat.beq pc 262 || Nat.beq pc 295 || Nat.beq pc 358 || Nat.beq pc 411 || Nat.beq pc 454 || Nat.beq pc 517 || Nat.beq pc 550 || Nat.beq pc 583 || Nat.beq pc 616 || Nat.beq pc 649 || Nat.beq pc 672 || Nat.beq pc 725 || Nat.beq pc 768 || Nat.beq pc 801 || Nat.beq pc 824 || Nat.beq pc 867 || Nat.beq pc 890 || Nat.beq pc 903 || Nat.beq pc 926 || Nat.beq pc 965 || Nat.beq pc 998 || Nat.beq pc 1031 || Nat.beq pc 1054 || Nat.beq pc 1088 || Nat.beq pc 1121 || Nat.beq pc 1154 || Nat.beq pc 1167 || Nat.beq pc 1200 || Nat.beq pc 1223 || Nat.beq pc 1236 || Nat.beq pc 1259) 40 ?_
    conv => whnf
    refine ⟨fun c => absurd c (lw_ngt (L := L) (i := i) (by omega) (by omega)), fun _ => ?_⟩
    conv => whnf
    refine ⟨vp_in_nI (by omega) (by omega), ?_⟩
    conv => whnf
    refine ⟨fun _ => qq_wk S (lw_c0 S hx hw h0 kk) ⟨rfl, rfl, rfl, rfl, trivial⟩, fun _ => ?_⟩
    conv => whnf
    refine ⟨fun _ => qq_wk S (lw_c1 S hx hw h1 kk) ⟨rfl, rfl, rfl, rfl, trivial⟩, fun _ => ?_⟩
    conv => whnf
    refine ⟨fun _ => qq_wk S (lw_c2 S hx hw h2 kk) ⟨rfl, rfl, rfl, rfl, trivial⟩, fun _ => ?_⟩
    conv => whnf
    refine ⟨fun _ => qq_wk S (lw_c3 S hx hw h3 kk) ⟨rfl, rfl, rfl, rfl, trivial⟩, fun _ => ?_⟩
    conv => whnf
    refine ⟨fun _ => qq_wk S (lw_c4 S hx hw h4 kk) ⟨rfl, rfl, rfl, rfl, trivial⟩, fun _ => ?_⟩
    conv => whnf
    refine ⟨fun _ => qq_wk S (lw_c5 S hx hw h5 kk) ⟨rfl, rfl, rfl, rfl, trivial⟩, fun _ => ?_⟩
    conv => whnf
    refine ⟨fun _ => qq_wk S (lw_c6 S hx hw h6 kk) ⟨rfl, rfl, rfl, rfl, trivial⟩, fun _ => ?_⟩
    conv => whnf
    refine ⟨fun _ => qq_wk S (lw_c7 S hx hw h7 kk) ⟨rfl, rfl, rfl, rfl, trivial⟩, fun _ => ?_⟩
    conv => whnf
    refine ⟨fun _ => qq_wk S (lw_c8 S hx hw h8 kk) ⟨rfl, rfl, rfl, rfl, trivial⟩, fun _ => ?_⟩
    conv => whnf
    refine ⟨fun _ => qq_wk S (lw_c9 S hx hw h9 kk) ⟨rfl, rfl, rfl, rfl, trivial⟩, fun _ => ?_⟩
    conv => whnf
    refine ⟨fun _ => qq_wk S (lw_c10 S hx hw h10 kk) ⟨rfl, rfl, rfl, rfl, trivial⟩, fun _ => ?_⟩
    conv => whnf
    refine ⟨fun _ => qq_wk S (lw_c11 S hx hw h11 kk) ⟨rfl, rfl, rfl, rfl, trivial⟩, fun _ => ?_⟩
    conv => whnf
    refine ⟨fun _ => qq_wk S (lw_c12 S hx hw h12 kk) ⟨rfl, rfl, rfl, rfl, trivial⟩, fun _ => ?_⟩
    conv => whnf
    refine ⟨fun _ => qq_wk S (lw_c13 S hx hw h13 kk) ⟨rfl, rfl, rfl, rfl, trivial⟩, fun _ => ?_⟩
    conv => whnf
    refine ⟨fun _ => qq_wk S (lw_c14 S hx hw h14 kk) ⟨rfl, rfl, rfl, rfl, trivial⟩, fun _ => ?_⟩
    conv => whnf
    refine ⟨fun _ => qq_wk S (lw_c15 S hx hw h15 kk) ⟨rfl, rfl, rfl, rfl, trivial⟩, fun _ => ?_⟩
    conv => whnf
    refine ⟨fun _ => qq_wk S (lw_c16 S hx hw h16 kk) ⟨rfl, rfl, rfl, rfl, trivial⟩, fun _ => ?_⟩
    conv => whnf
    refine ⟨fun _ => qq_wk S (lw_c17 S hx hw h17 kk) ⟨rfl, rfl, rfl, rfl, trivial⟩, fun _ => ?_⟩
    conv => whnf
    refine ⟨fun _ => qq_wk S (lw_c18 S hx hw h18 kk) ⟨rfl, rfl, rfl, rfl, trivial⟩, fun _ => ?_⟩
    conv => whnf
    refine ⟨fun _ => qq_wk S (lw_c19 S hx hw h19 kk) ⟨rfl, rfl, rfl, rfl, trivial⟩, fun _ => ?_⟩
    conv => whnf
    refine ⟨fun _ => qq_wk S (lw_c20 S hx hw h20 kk) ⟨rfl, rfl, rfl, rfl, trivial⟩, fun _ => ?_⟩
    conv => whnf
    refine ⟨fun _ => qq_wk S (lw_c21 S hx hw h21 kk) ⟨rfl, rfl, rfl, rfl, trivial⟩, fun _ => ?_⟩
    conv => whnf
    refine ⟨fun _ => qq_wk S (lw_c22 S hx hw h22 kk) ⟨rfl, rfl, rfl, rfl, trivial⟩, fun _ => ?_⟩
    conv => whnf
    refine ⟨fun _ => qq_wk S (lw_c23 S hx hw h23 kk) ⟨rfl, rfl, rfl, rfl, trivial⟩, fun _ => ?_⟩
    conv => whnf
    refine ⟨fun _ => qq_wk S (lw_c24 S hx hw h24 kk) ⟨rfl, rfl, rfl, rfl, trivial⟩, fun _ => ?_⟩
    conv => whnf
    refine ⟨fun _ => qq_wk S (lw_c25 S hx hw h25 kk) ⟨rfl, rfl, rfl, rfl, trivial⟩, fun _ => ?_⟩
    conv => whnf
    refine ⟨fun _ => qq_wk S (lw_c26 S hx hw h26 kk) ⟨rfl, rfl, rfl, rfl, trivial⟩, fun _ => ?_⟩
    conv => whnf
    refine ⟨fun _ => qq_wk S (lw_c27 S hx hw h27 kk) ⟨rfl, rfl, rfl, rfl, trivial⟩, fun _ => ?_⟩
    conv => whnf
    refine ⟨fun _ => qq_wk S (lw_c28 S hx hw h28 kk) ⟨rfl, rfl, rfl, rfl, trivial⟩, fun _ => ?_⟩
    conv => whnf
    refine ⟨fun _ => qq_wk S (lw_c29 S hx hw h29 kk) ⟨rfl, rfl, rfl, rfl, trivial⟩, fun _ => ?_⟩
    conv => whnf
    refine ⟨fun _ => qq_wk S (lw_c30 S hx hw h30 kk) ⟨rfl, rfl, rfl, rfl, trivial⟩, fun _ => ?_⟩
    conv => whnf
    refine ⟨fun _ => qq_wk S (lw_c31 S hx hw h31 kk) ⟨rfl, rfl, rfl, rfl, trivial⟩, fun _ => ?_⟩
    conv => whnf
    refine ⟨fun _ => qq_wk S (lw_c32 S hx hw h32 kk) ⟨rfl, rfl, rfl, rfl, trivial⟩, fun _ => ?_⟩
    conv => whnf
    exact qq_wk S (kk w hw) ⟨rfl, rfl, rfl, rfl, trivial⟩
