/-- the words that every method may carry along -/
def ww_T : List Cond := lw_tbl.filter goodWord
/-- the links of nest mates -/
def ww_N : List Cond := lw_tbl.filter qq_isN
abbrev ww_B : List Cond := ww_T ++ ww_N
theorem ww_at {i : Nat} {w : Cond} (h : lw_tbl[i]? = some w) (hg : goodWord w = true) : w ∈ ww_T := List.mem_filter.mpr ⟨List.mem_of_getElem? h, hg⟩
theorem ww_nat {i : Nat} {w : Cond} (h : lw_tbl[i]? = some w) (hg : qq_isN w = true) : w ∈ ww_B := List.mem_append_right _ (List.mem_filter.mpr ⟨List.mem_of_getElem? h, hg⟩)
theorem qq_mem {ws : List Cond} (ps : List Nat) (h : ws = ps.filterMap (fun i => lw_tbl[i]?)) (hg : ws.all goodWord = true) : ∀ w ∈ ws, w ∈ ww_T := by
  intro w hw
  have h2 := List.all_eq_true.mp hg w hw
  rw [h] at hw
  obtain ⟨i, -, hi⟩ := List.mem_filterMap.mp hw
  exact ww_at hi h2
def qq_sokc (e : qq_s) : Bool := match e with
  | .inl (ty, _) => decide (ty = .int ∨ ty = .long ∨ ty = .boolean)
  | .inr _ => true
theorem qq_sokb {sh : List qq_s} (h : sh.all qq_sokc = true) : qq_sok sh := fun k ty n hk => of_decide_eq_true (List.all_eq_true.mp h _ (List.mem_of_getElem? hk))
def qq_so2c (cl : List vw_C) (e : qq_s) : Bool := match e with
  | .inl _ => true
  | .inr (ci, fs) => match cl[ci]? with
    | none => true
    | some (_, T, _) => (List.range fs.length).all fun j => match qq_fty (fs.getD j 3) with
      | none => true
      | some ty => decide (parseFieldDescriptor (T j).2.2.1 = some ty) && !(T j).2.2.2
theorem qq_so2b {cl : List vw_C} {sh : List qq_s} (h : sh.all (qq_so2c cl) = true) : qq_so2 cl sh := by
  intro k ci fs hk j f hj ty hty C T N hc
  have h1 := List.all_eq_true.mp h _ (List.mem_of_getElem? hk)
  unfold qq_so2c at h1
  dsimp only at h1
  rw [hc] at h1
  have hl := (List.getElem?_eq_some_iff.mp hj).1
  have h2 := List.all_eq_true.mp h1 j (List.mem_range.mpr hl)
  have e : fs.getD j 3 = f := by rw [List.getD_eq_getElem?_getD, hj]; rfl
  rw [e, hty] at h2
  dsimp only at h2
  have h3 := Bool.and_eq_true_iff.mp h2
  exact ⟨of_decide_eq_true h3.1, by simpa using h3.2⟩
def qq_flc (own host : String) (cl : List vw_C) (q : Nat × Nat × Nat × Nat) : Bool := match cl[q.2.1]?, lw_tbl[q.2.2.2]? with
  | some (_, T, N), some w => Nat.ble (q.2.2.1 + 1) N && (decide (w = Cond.fieldLink own q.1 (T q.2.2.1).1 (T q.2.2.1).2.1 (T q.2.2.1).2.2.1) || decide (w = Cond.fieldLinkNest own q.1 (T q.2.2.1).1 (T q.2.2.1).2.1 (T q.2.2.1).2.2.1 host))
  | _, _ => false
theorem qq_flb {own host : String} {cl : List vw_C} {l : List (Nat × Nat × Nat × Nat)} (h : l.all (qq_flc own host cl) = true) : qq_fl own host cl ww_B (l.map fun q => (q.1, q.2.1, q.2.2.1)) := by
  intro idx ci j hm
  obtain ⟨q, hq, e⟩ := List.mem_map.mp hm
  obtain ⟨q1, q2, q3, q4⟩ := q
  dsimp only at e
  cases e
  have h1 := List.all_eq_true.mp h _ hq
  unfold qq_flc at h1
  dsimp only at h1
  split at h1
  · rename_i C T N w hc hw
    have h2 := Bool.and_eq_true_iff.mp h1
    refine ⟨C, T, N, hc, Nat.le_of_ble_eq_true h2.1, ?_⟩
    rcases Bool.or_eq_true_iff.mp h2.2 with z | z
    · have z := of_decide_eq_true z
      subst z
      exact Or.inl (List.mem_append_left _ (ww_at hw rfl))
    · have z := of_decide_eq_true z
      subst z
      exact Or.inr (ww_nat hw rfl)
  · cases h1
/-! THE WORLD: places of the cells, their shapes; the tables that the code is held against.
  objects: 0 ValidPaths, 1 ValidPaths$Program, 2 ValidPaths$Flows, 3 ValidPaths$Solving, 4 ValidPaths$Lengths, 5 ValidPaths$Track, 6 ValidPaths$Findings, 7 ValidPaths$Shortest, 8 ValidPathsModel
  arrays: 9 Program.locals, 10 Program.parameters, 11 Program.outcomes, 12 Program.enters, 13 Program.cells, 14 Program.arguments, 15 Program.sources, 16 Program.targets, 17 Program.leads, 18 Flows.rows, 19 Solving.steps, 20 Solving.reach, 21 Solving.pathEdges, 22 Lengths.entries, 23 Lengths.isTaken, 24 Lengths.wholes, 25 Track.nodes, 26 Track.facts, 27 Track.ways, 28 Track.opn, 29 Track.calls, 30 Track.callFacts, 31 Track.callEntries, 32 Findings.counts, 33 Shortest.lengths, 34 Shortest.heap, 35 Shortest.places, 36 ValidPathsModel.findings, 37 ValidPathsModel.locals, 38 ValidPathsModel.parameters, 39 ValidPathsModel.enters, 40 ValidPathsModel.leaves, 41 ValidPathsModel.outcomes, 42 ValidPathsModel.of, 43 ValidPathsModel.kind, 44 ValidPathsModel.xs, 45 ValidPathsModel.ys, 46 ValidPathsModel.zs, 47 ValidPathsModel.callee, 48 ValidPathsModel.result, 49 ValidPathsModel.partner, 50 ValidPathsModel.room, 51 ValidPathsModel.given, 52 ValidPathsModel.frm, 53 ValidPathsModel.to, 54 ValidPathsModel.rows, 55 ValidPathsModel.taken, 56 ValidPathsModel.paths, 57 ValidPathsModel.sums, 58 ValidPathsModel.waits, 59 ValidPathsModel.level, 60 ValidPathsModel.whole, 61 ValidPathsModel.trackNodes, 62 ValidPathsModel.trackFacts, 63 ValidPathsModel.trackHows, 64 ValidPathsModel.trackOpens -/
def ww_sh : List qq_s := [.inr (7, [4, 5, 6, 7, 8, 9]), .inr (3, [12, 13, 14, 15, 16, 17, 18, 19, 20, 0, 0, 0, 0]), .inr (1, [4, 21, 0, 0]), .inr (5, [4, 5, 22, 23, 24, 0, 0, 2]), .inr (2, [4, 6, 10, 25, 26, 27, 2]), .inr (6, [4, 6, 7, 28, 29, 30, 31, 0, 32, 33, 34, 0, 0, 0, 0]), .inr (0, [35, 0]), .inr (4, [36, 37, 38, 0]), .inr (8, [0, 39, 0, 40, 41, 42, 43, 44, 0, 0, 45, 46, 47, 48, 49, 50, 51, 52, 53, 54, 0, 55, 56, 0, 57, 0, 58, 2, 0, 59, 60, 61, 0, 0, 0, 0, 2, 62, 63, 2, 64, 65, 66, 67, 0, 0, 0]), .inl (.int, 8), .inl (.int, 8), .inl (.int, 8), .inl (.int, 8), .inl (.int, 640), .inl (.int, 256), .inl (.int, 120), .inl (.int, 120), .inl (.long, 64), .inl (.int, 2496), .inl (.int, 2496), .inl (.int, 832), .inl (.int, 10816), .inl (.long, 104), .inl (.boolean, 104), .inl (.long, 832), .inl (.int, 300), .inl (.int, 300), .inl (.int, 300), .inl (.int, 300), .inl (.int, 300), .inl (.int, 300), .inl (.int, 300), .inl (.int, 6), .inl (.long, 10816), .inl (.int, 10816), .inl (.int, 10816), .inl (.int, 6), .inl (.int, 8), .inl (.int, 8), .inl (.int, 8), .inl (.int, 8), .inl (.int, 8), .inl (.int, 64), .inl (.int, 64), .inl (.int, 64), .inl (.int, 64), .inl (.int, 64), .inl (.int, 64), .inl (.int, 64), .inl (.int, 64), .inl (.int, 64), .inl (.int, 256), .inl (.int, 120), .inl (.int, 120), .inl (.int, 2496), .inl (.int, 4), .inl (.int, 832), .inl (.int, 832), .inl (.int, 10816), .inl (.long, 10816), .inl (.long, 832), .inl (.int, 300), .inl (.int, 300), .inl (.int, 300), .inl (.int, 300)]
def ww_above : List Int32 := [-5, -5, -5, -5, 3, 4, 3, 3, -5, -5, -5]
def ww_ro : qq_R := fun k => cond (Nat.beq k 1000) (some (11, fun j => ww_above.getD j 0)) none
def ww_zs : List (String × String × String × Nat) := [("ValidPaths", "ABOVE", "[I", 1000)]
theorem ww_gd : qq_gd ww_T := fun w hw => good_of_word (List.mem_filter.mp hw).2
theorem ww_u8 : ∀ (ci : Nat) (C : String) (T : u_T) (N : Nat), vwCl[ci]? = some (C, T, N) → ci < 9 := fun ci C T N h => (List.getElem?_eq_some_iff.mp h).1

theorem ww_in0 : ∀ w ∈ u_ws RX0 TX0 2, w ∈ ww_T := qq_mem [340, 342] (by decide +kernel) (by decide +kernel)
theorem ww_in1 : ∀ w ∈ u_ws RX1 TX1 4, w ∈ ww_T := qq_mem [182, 184, 186, 188] (by decide +kernel) (by decide +kernel)
theorem ww_in2 : ∀ w ∈ u_ws RX2 TX2 7, w ∈ ww_T := qq_mem [257, 259, 261, 263, 265, 267, 269] (by decide +kernel) (by decide +kernel)
theorem ww_in3 : ∀ w ∈ u_ws RX3 TX3 13, w ∈ ww_T := qq_mem [138, 140, 142, 144, 146, 148, 150, 152, 154, 156, 158, 160, 162] (by decide +kernel) (by decide +kernel)
theorem ww_in4 : ∀ w ∈ u_ws RX4 TX4 4, w ∈ ww_T := qq_mem [241, 243, 245, 247] (by decide +kernel) (by decide +kernel)
theorem ww_in5 : ∀ w ∈ u_ws RX5 TX5 8, w ∈ ww_T := qq_mem [207, 209, 211, 213, 215, 217, 219, 221] (by decide +kernel) (by decide +kernel)
theorem ww_in6 : ∀ w ∈ u_ws RX6 TX6 15, w ∈ ww_T := qq_mem [299, 301, 303, 305, 307, 309, 311, 313, 315, 317, 319, 321, 323, 325, 327] (by decide +kernel) (by decide +kernel)
theorem ww_in7 : ∀ w ∈ u_ws RX7 TX7 6, w ∈ ww_T := qq_mem [351, 353, 355, 357, 359, 361] (by decide +kernel) (by decide +kernel)
theorem ww_in8 : ∀ w ∈ u_ws RX8 TX8 47, w ∈ ww_T := qq_mem [1015, 1017, 1019, 1021, 1023, 1025, 1027, 1029, 1031, 1033, 1035, 1037, 1039, 1041, 1043, 1045, 1047, 1049, 1051, 1053, 1055, 1057, 1059, 1061, 1063, 1065, 1067, 1069, 1071, 1073, 1075, 1077, 1079, 1081, 1083, 1085, 1087, 1089, 1091, 1093, 1095, 1097, 1099, 1101, 1103, 1105, 1107] (by decide +kernel) (by decide +kernel)
theorem ww_k1 : qq_K1 vwCl ww_B := by
  intro ci C T N h
  match ci, h with
  | 0, h => cases h; exact ⟨fun w h => List.mem_append_left _ (ww_in0 w h), ⟨tyX0, tyX0_ok⟩, nmX0⟩
  | 1, h => cases h; exact ⟨fun w h => List.mem_append_left _ (ww_in1 w h), ⟨tyX1, tyX1_ok⟩, nmX1⟩
  | 2, h => cases h; exact ⟨fun w h => List.mem_append_left _ (ww_in2 w h), ⟨tyX2, tyX2_ok⟩, nmX2⟩
  | 3, h => cases h; exact ⟨fun w h => List.mem_append_left _ (ww_in3 w h), ⟨tyX3, tyX3_ok⟩, nmX3⟩
  | 4, h => cases h; exact ⟨fun w h => List.mem_append_left _ (ww_in4 w h), ⟨tyX4, tyX4_ok⟩, nmX4⟩
  | 5, h => cases h; exact ⟨fun w h => List.mem_append_left _ (ww_in5 w h), ⟨tyX5, tyX5_ok⟩, nmX5⟩
  | 6, h => cases h; exact ⟨fun w h => List.mem_append_left _ (ww_in6 w h), ⟨tyX6, tyX6_ok⟩, nmX6⟩
  | 7, h => cases h; exact ⟨fun w h => List.mem_append_left _ (ww_in7 w h), ⟨tyX7, tyX7_ok⟩, nmX7⟩
  | 8, h => cases h; exact ⟨fun w h => List.mem_append_left _ (ww_in8 w h), ⟨tyX8, tyX8_ok⟩, nmX8⟩
  | n + 9, h => simp [vwCl] at h
theorem ww_so : qq_sok ww_sh := qq_sokb (by decide +kernel)
theorem ww_so2 : qq_so2 vwCl ww_sh := qq_so2b (by decide +kernel)
def wf_X7 : List (Nat × Nat × Nat × Nat) := [(12, 7, 0, 345), (21, 7, 1, 346), (30, 7, 2, 347), (39, 7, 3, 348), (48, 7, 4, 349), (55, 7, 5, 350), (69, 3, 9, 126), (90, 3, 3, 114), (97, 3, 2, 111), (126, 3, 5, 119), (145, 3, 11, 134), (151, 1, 2, 179), (167, 1, 3, 181), (194, 5, 5, 203), (227, 6, 7, 291), (230, 6, 3, 283), (233, 6, 4, 285), (236, 6, 5, 287), (239, 6, 6, 289), (242, 3, 10, 133), (252, 3, 12, 137), (255, 5, 6, 205), (258, 0, 1, 339), (261, 0, 0, 337)]
abbrev wt_X7 : List (Nat × Nat × Nat) := wf_X7.map fun q => (q.1, q.2.1, q.2.2.1)
theorem wl_X7 : qq_fl RX7 RX7 vwCl ww_B wt_X7 := qq_flb (by decide +kernel)
def wf_X0 : List (Nat × Nat × Nat × Nat) := [(9, 0, 0, 336), (15, 0, 1, 338)]
abbrev wt_X0 : List (Nat × Nat × Nat) := wf_X0.map fun q => (q.1, q.2.1, q.2.2.1)
theorem wl_X0 : qq_fl RX0 RX7 vwCl ww_B wt_X0 := qq_flb (by decide +kernel)
def wf_X1 : List (Nat × Nat × Nat × Nat) := [(9, 1, 1, 177), (15, 1, 2, 178), (19, 1, 0, 176), (41, 1, 3, 180), (67, 3, 1, 109), (75, 3, 5, 120), (78, 3, 2, 112)]
abbrev wt_X1 : List (Nat × Nat × Nat) := wf_X1.map fun q => (q.1, q.2.1, q.2.2.1)
theorem wl_X1 : qq_fl RX1 RX7 vwCl ww_B wt_X1 := qq_flb (by decide +kernel)
def wf_X2 : List (Nat × Nat × Nat × Nat) := [(12, 2, 2, 252), (18, 2, 3, 253), (22, 2, 4, 254), (26, 2, 5, 255), (29, 2, 0, 250), (33, 2, 1, 251), (37, 2, 6, 256), (41, 4, 0, 237), (69, 3, 10, 131), (79, 3, 9, 128), (82, 3, 3, 116), (124, 3, 8, 125)]
abbrev wt_X2 : List (Nat × Nat × Nat) := wf_X2.map fun q => (q.1, q.2.1, q.2.2.1)
theorem wl_X2 : qq_fl RX2 RX7 vwCl ww_B wt_X2 := qq_flb (by decide +kernel)
def wf_X3 : List (Nat × Nat × Nat × Nat) := [(9, 3, 0, 107), (15, 3, 1, 108), (18, 3, 2, 110), (21, 3, 3, 113), (24, 3, 4, 117), (27, 3, 5, 118), (30, 3, 6, 121), (33, 3, 7, 122), (36, 3, 8, 123), (47, 3, 9, 127), (51, 3, 10, 129), (69, 3, 12, 136), (72, 3, 11, 135)]
abbrev wt_X3 : List (Nat × Nat × Nat) := wf_X3.map fun q => (q.1, q.2.1, q.2.2.1)
theorem wl_X3 : qq_fl RX3 RX7 vwCl ww_B wt_X3 := qq_flb (by decide +kernel)
def wf_X4 : List (Nat × Nat × Nat × Nat) := [(9, 4, 0, 236), (15, 4, 1, 238), (19, 4, 2, 239), (33, 4, 3, 240)]
abbrev wt_X4 : List (Nat × Nat × Nat) := wf_X4.map fun q => (q.1, q.2.1, q.2.2.1)
theorem wl_X4 : qq_fl RX4 RX7 vwCl ww_B wt_X4 := qq_flb (by decide +kernel)
def wf_X5 : List (Nat × Nat × Nat × Nat) := [(9, 5, 2, 199), (15, 5, 3, 200), (18, 5, 4, 201), (21, 5, 0, 197), (25, 5, 1, 198), (29, 5, 7, 206), (33, 5, 5, 202), (37, 5, 6, 204), (59, 3, 10, 130), (86, 3, 3, 115), (107, 3, 8, 124)]
abbrev wt_X5 : List (Nat × Nat × Nat) := wf_X5.map fun q => (q.1, q.2.1, q.2.2.1)
theorem wl_X5 : qq_fl RX5 RX7 vwCl ww_B wt_X5 := qq_flb (by decide +kernel)
def wf_X6 : List (Nat × Nat × Nat × Nat) := [(9, 6, 3, 282), (15, 6, 4, 284), (18, 6, 5, 286), (21, 6, 6, 288), (24, 6, 8, 292), (27, 6, 9, 293), (30, 6, 10, 294), (33, 6, 0, 279), (37, 6, 1, 280), (41, 6, 2, 281), (51, 6, 7, 290), (55, 6, 11, 295), (62, 6, 12, 296), (65, 6, 13, 297), (84, 6, 14, 298), (117, 3, 10, 132)]
abbrev wt_X6 : List (Nat × Nat × Nat) := wf_X6.map fun q => (q.1, q.2.1, q.2.2.1)
theorem wl_X6 : qq_fl RX6 RX7 vwCl ww_B wt_X6 := qq_flb (by decide +kernel)
def wf_X8 : List (Nat × Nat × Nat × Nat) := [(7, 8, 1, 969), (13, 8, 3, 971), (16, 8, 4, 972), (19, 8, 5, 973), (22, 8, 6, 974), (25, 8, 7, 975), (28, 8, 10, 978), (31, 8, 11, 979), (34, 8, 12, 980), (37, 8, 13, 981), (40, 8, 14, 982), (43, 8, 15, 983), (46, 8, 16, 984), (49, 8, 17, 985), (52, 8, 18, 986), (55, 8, 19, 987), (58, 8, 21, 989), (61, 8, 22, 990), (64, 8, 24, 992), (67, 8, 26, 994), (70, 8, 29, 997), (73, 8, 30, 998), (76, 8, 31, 999), (79, 8, 37, 1005), (83, 8, 38, 1006), (86, 8, 40, 1008), (89, 8, 41, 1009), (92, 8, 42, 1010), (95, 8, 43, 1011), (98, 8, 0, 968), (102, 8, 2, 970), (109, 8, 8, 976), (112, 8, 27, 995), (141, 8, 9, 977), (150, 8, 20, 988), (159, 8, 23, 991), (166, 8, 25, 993), (188, 8, 32, 1000), (191, 8, 34, 1002), (198, 8, 35, 1003), (201, 8, 36, 1004), (204, 8, 28, 996), (207, 8, 33, 1001), (254, 8, 39, 1007), (287, 8, 45, 1013), (290, 8, 44, 1012), (316, 8, 46, 1014)]
abbrev wt_X8 : List (Nat × Nat × Nat) := wf_X8.map fun q => (q.1, q.2.1, q.2.2.1)
theorem wl_X8 : qq_fl RX8 RX7 vwCl ww_B wt_X8 := qq_flb (by decide +kernel)
