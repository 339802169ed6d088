theorem lw_c0 {L : Nat} {xs : Nat → Int32} {P : Option Value → qq_w → Prop} {K : Nat → qq_L → List Value → qq_w → Prop} (S : qq_Sat ww_sh (lw_ro L xs) cs_L_law (qq_at 1281 kd_L_law) (some .boolean) P K) {Inv : qq_w → Prop} {w : qq_w} {x : Int32} (hx : ∀ j : Nat, j < 6 → vp_in (x + nI j) L) (hw : Inv w) (h0 : ∀ a1 a2 : Int32, lwI Inv T_X7_procedure T_X8_procedure [.int a1, .int a2]) (kk : ∀ w, Inv w → K 1273 [(3, .int x), (2, .ref 8), (1, .ref 0), (0, .ref 1001)] [] w) : K 180 [(3, .int x), (2, .ref 8), (1, .ref 0), (0, .ref 1001)] [] w := by
  refine qq_go_ok S (fun pc => Nat.beq pc 1273) 60 ?_
  conv => whnf
  refine ⟨hx 1 (by decide), ?_⟩
  conv => whnf
  refine ⟨hx 2 (by decide), ?_⟩
  conv => whnf
  refine ⟨_, h0 _ _ w hw, ?_⟩
  rintro _ w1 ⟨y, rfl, h8⟩
  conv => whnf
  refine ⟨hx 1 (by decide), ?_⟩
  conv => whnf
  refine ⟨hx 2 (by decide), ?_⟩
  conv => whnf
  refine ⟨_, h8, ?_⟩
  rintro _ w2 ⟨rfl, h9⟩
  conv => whnf
  exact ⟨fun _ => qq_wk S (kk w2 h9) ⟨rfl, rfl, rfl, rfl, trivial⟩, fun c => absurd rfl c⟩
theorem lw_c1 {L : Nat} {xs : Nat → Int32} {P : Option Value → qq_w → Prop} {K : Nat → qq_L → List Value → qq_w → Prop} (S : qq_Sat ww_sh (lw_ro L xs) cs_L_law (qq_at 1281 kd_L_law) (some .boolean) P K) {Inv : qq_w → Prop} {w : qq_w} {x : Int32} (hx : ∀ j : Nat, j < 6 → vp_in (x + nI j) L) (hw : Inv w) (h1 : ∀ a1 a2 : Int32, (a2 = 0 ∨ a2 = 1) → lwI Inv T_X7_ends T_X8_ends [.int a1, .int a2]) (kk : ∀ w, Inv w → K 1273 [(3, .int x), (2, .ref 8), (1, .ref 0), (0, .ref 1001)] [] w) : K 213 [(3, .int x), (2, .ref 8), (1, .ref 0), (0, .ref 1001)] [] w := by
  refine qq_go_ok S (fun pc => Nat.beq pc 1273) 60 ?_
  conv => whnf
  refine ⟨hx 1 (by decide), ?_⟩
  conv => whnf
  refine ⟨hx 2 (by decide), ?_⟩
  conv => whnf
  refine ⟨fun b => ?_, fun b => ?_⟩
  · conv => whnf
    refine ⟨_, h1 _ _ (Or.inl rfl) w hw, ?_⟩
    rintro _ w1 ⟨y, rfl, h8⟩
    conv => whnf
    refine ⟨hx 1 (by decide), ?_⟩
    conv => whnf
    refine ⟨hx 2 (by decide), ?_⟩
    conv => whnf
    refine ⟨fun _ => ?_, fun c => absurd b c⟩
    conv => whnf
    refine ⟨_, h8, ?_⟩
    rintro _ w2 ⟨rfl, h9⟩
    conv => whnf
    exact ⟨fun _ => qq_wk S (kk w2 h9) ⟨rfl, rfl, rfl, rfl, trivial⟩, fun c => absurd rfl c⟩
  · conv => whnf
    refine ⟨_, h1 _ _ (Or.inr rfl) w hw, ?_⟩
    rintro _ w1 ⟨y, rfl, h8⟩
    conv => whnf
    refine ⟨hx 1 (by decide), ?_⟩
    conv => whnf
    refine ⟨hx 2 (by decide), ?_⟩
    conv => whnf
    refine ⟨fun c => absurd c b, fun _ => ?_⟩
    conv => whnf
    refine ⟨_, h8, ?_⟩
    rintro _ w2 ⟨rfl, h9⟩
    conv => whnf
    exact ⟨fun _ => qq_wk S (kk w2 h9) ⟨rfl, rfl, rfl, rfl, trivial⟩, fun c => absurd rfl c⟩
theorem lw_c2 {L : Nat} {xs : Nat → Int32} {P : Option Value → qq_w → Prop} {K : Nat → qq_L → List Value → qq_w → Prop} (S : qq_Sat ww_sh (lw_ro L xs) cs_L_law (qq_at 1281 kd_L_law) (some .boolean) P K) {Inv : qq_w → Prop} {w : qq_w} {x : Int32} (hx : ∀ j : Nat, j < 6 → vp_in (x + nI j) L) (hw : Inv w) (h2 : ∀ a1 a2 : Int32, lwI Inv T_X7_outcome T_X8_outcome [.int a1, .int a2]) (kk : ∀ w, Inv w → K 1273 [(3, .int x), (2, .ref 8), (1, .ref 0), (0, .ref 1001)] [] w) : K 262 [(3, .int x), (2, .ref 8), (1, .ref 0), (0, .ref 1001)] [] w := by
  refine qq_go_ok S (fun pc => Nat.beq pc 1273) 60 ?_
  conv => whnf
  refine ⟨hx 1 (by decide), ?_⟩
  conv => whnf
  refine ⟨hx 2 (by decide), ?_⟩
  conv => whnf
  refine ⟨_, h2 _ _ w hw, ?_⟩
  rintro _ w1 ⟨y, rfl, h8⟩
  conv => whnf
  refine ⟨hx 1 (by decide), ?_⟩
  conv => whnf
  refine ⟨hx 2 (by decide), ?_⟩
  conv => whnf
  refine ⟨_, h8, ?_⟩
  rintro _ w2 ⟨rfl, h9⟩
  conv => whnf
  exact ⟨fun _ => qq_wk S (kk w2 h9) ⟨rfl, rfl, rfl, rfl, trivial⟩, fun c => absurd rfl c⟩
theorem lw_c3 {L : Nat} {xs : Nat → Int32} {P : Option Value → qq_w → Prop} {K : Nat → qq_L → List Value → qq_w → Prop} (S : qq_Sat ww_sh (lw_ro L xs) cs_L_law (qq_at 1281 kd_L_law) (some .boolean) P K) {Inv : qq_w → Prop} {w : qq_w} {x : Int32} (hx : ∀ j : Nat, j < 6 → vp_in (x + nI j) L) (hw : Inv w) (h3 : ∀ a1 a2 a3 a4 a5 : Int32, lwI Inv T_X7_node T_X8_node [.int a1, .int a2, .int a3, .int a4, .int a5]) (kk : ∀ w, Inv w → K 1273 [(3, .int x), (2, .ref 8), (1, .ref 0), (0, .ref 1001)] [] w) : K 295 [(3, .int x), (2, .ref 8), (1, .ref 0), (0, .ref 1001)] [] w := by
  refine qq_go_ok S (fun pc => Nat.beq pc 1273) 60 ?_
  conv => whnf
  refine ⟨hx 1 (by decide), ?_⟩
  conv => whnf
  refine ⟨hx 2 (by decide), ?_⟩
  conv => whnf
  refine ⟨hx 3 (by decide), ?_⟩
  conv => whnf
  refine ⟨hx 4 (by decide), ?_⟩
  conv => whnf
  refine ⟨hx 5 (by decide), ?_⟩
  conv => whnf
  refine ⟨_, h3 _ _ _ _ _ w hw, ?_⟩
  rintro _ w1 ⟨y, rfl, h8⟩
  conv => whnf
  refine ⟨hx 1 (by decide), ?_⟩
  conv => whnf
  refine ⟨hx 2 (by decide), ?_⟩
  conv => whnf
  refine ⟨hx 3 (by decide), ?_⟩
  conv => whnf
  refine ⟨hx 4 (by decide), ?_⟩
  conv => whnf
  refine ⟨hx 5 (by decide), ?_⟩
  conv => whnf
  refine ⟨_, h8, ?_⟩
  rintro _ w2 ⟨rfl, h9⟩
  conv => whnf
  exact ⟨fun _ => qq_wk S (kk w2 h9) ⟨rfl, rfl, rfl, rfl, trivial⟩, fun c => absurd rfl c⟩
theorem lw_c4 {L : Nat} {xs : Nat → Int32} {P : Option Value → qq_w → Prop} {K : Nat → qq_L → List Value → qq_w → Prop} (S : qq_Sat ww_sh (lw_ro L xs) cs_L_law (qq_at 1281 kd_L_law) (some .boolean) P K) {Inv : qq_w → Prop} {w : qq_w} {x : Int32} (hx : ∀ j : Nat, j < 6 → vp_in (x + nI j) L) (hw : Inv w) (h4 : ∀ a1 a2 a3 a4 : Int32, lwI Inv T_X7_call T_X8_call [.int a1, .int a2, .int a3, .int a4]) (kk : ∀ w, Inv w → K 1273 [(3, .int x), (2, .ref 8), (1, .ref 0), (0, .ref 1001)] [] w) : K 358 [(3, .int x), (2, .ref 8), (1, .ref 0), (0, .ref 1001)] [] w := by
  refine qq_go_ok S (fun pc => Nat.beq pc 1273) 60 ?_
  conv => whnf
  refine ⟨hx 1 (by decide), ?_⟩
  conv => whnf
  refine ⟨hx 2 (by decide), ?_⟩
  conv => whnf
  refine ⟨hx 3 (by decide), ?_⟩
  conv => whnf
  refine ⟨hx 4 (by decide), ?_⟩
  conv => whnf
  refine ⟨_, h4 _ _ _ _ w hw, ?_⟩
  rintro _ w1 ⟨y, rfl, h8⟩
  conv => whnf
  refine ⟨hx 1 (by decide), ?_⟩
  conv => whnf
  refine ⟨hx 2 (by decide), ?_⟩
  conv => whnf
  refine ⟨hx 3 (by decide), ?_⟩
  conv => whnf
  refine ⟨hx 4 (by decide), ?_⟩
  conv => whnf
  refine ⟨_, h8, ?_⟩
  rintro _ w2 ⟨rfl, h9⟩
  conv => whnf
  exact ⟨fun _ => qq_wk S (kk w2 h9) ⟨rfl, rfl, rfl, rfl, trivial⟩, fun c => absurd rfl c⟩
theorem lw_c5 {L : Nat} {xs : Nat → Int32} {P : Option Value → qq_w → Prop} {K : Nat → qq_L → List Value → qq_w → Prop} (S : qq_Sat ww_sh (lw_ro L xs) cs_L_law (qq_at 1281 kd_L_law) (some .boolean) P K) {Inv : qq_w → Prop} {w : qq_w} {x : Int32} (hx : ∀ j : Nat, j < 6 → vp_in (x + nI j) L) (hw : Inv w) (h5 : ∀ a1 a2 a3 : Int32, lwI Inv T_X7_argument T_X8_argument [.int a1, .int a2, .int a3]) (kk : ∀ w, Inv w → K 1273 [(3, .int x), (2, .ref 8), (1, .ref 0), (0, .ref 1001)] [] w) : K 411 [(3, .int x), (2, .ref 8), (1, .ref 0), (0, .ref 1001)] [] w := by
  refine qq_go_ok S (fun pc => Nat.beq pc 1273) 60 ?_
  conv => whnf
  refine ⟨hx 1 (by decide), ?_⟩
  conv => whnf
  refine ⟨hx 2 (by decide), ?_⟩
  conv => whnf
  refine ⟨hx 3 (by decide), ?_⟩
  conv => whnf
  refine ⟨_, h5 _ _ _ w hw, ?_⟩
  rintro _ w1 ⟨y, rfl, h8⟩
  conv => whnf
  refine ⟨hx 1 (by decide), ?_⟩
  conv => whnf
  refine ⟨hx 2 (by decide), ?_⟩
  conv => whnf
  refine ⟨hx 3 (by decide), ?_⟩
  conv => whnf
  refine ⟨_, h8, ?_⟩
  rintro _ w2 ⟨rfl, h9⟩
  conv => whnf
  exact ⟨fun _ => qq_wk S (kk w2 h9) ⟨rfl, rfl, rfl, rfl, trivial⟩, fun c => absurd rfl c⟩
theorem lw_c6 {L : Nat} {xs : Nat → Int32} {P : Option Value → qq_w → Prop} {K : Nat → qq_L → List Value → qq_w → Prop} (S : qq_Sat ww_sh (lw_ro L xs) cs_L_law (qq_at 1281 kd_L_law) (some .boolean) P K) {Inv : qq_w → Prop} {w : qq_w} {x : Int32} (hx : ∀ j : Nat, j < 6 → vp_in (x + nI j) L) (hw : Inv w) (h6 : ∀ a1 a2 a3 a4 a5 : Int32, lwI Inv T_X7_copy T_X8_copy [.int a1, .int a2, .int a3, .int a4, .int a5]) (kk : ∀ w, Inv w → K 1273 [(3, .int x), (2, .ref 8), (1, .ref 0), (0, .ref 1001)] [] w) : K 454 [(3, .int x), (2, .ref 8), (1, .ref 0), (0, .ref 1001)] [] w := by
  refine qq_go_ok S (fun pc => Nat.beq pc 1273) 60 ?_
  conv => whnf
  refine ⟨hx 1 (by decide), ?_⟩
  conv => whnf
  refine ⟨hx 2 (by decide), ?_⟩
  conv => whnf
  refine ⟨hx 3 (by decide), ?_⟩
  conv => whnf
  refine ⟨hx 4 (by decide), ?_⟩
  conv => whnf
  refine ⟨hx 5 (by decide), ?_⟩
  conv => whnf
  refine ⟨_, h6 _ _ _ _ _ w hw, ?_⟩
  rintro _ w1 ⟨y, rfl, h8⟩
  conv => whnf
  refine ⟨hx 1 (by decide), ?_⟩
  conv => whnf
  refine ⟨hx 2 (by decide), ?_⟩
  conv => whnf
  refine ⟨hx 3 (by decide), ?_⟩
  conv => whnf
  refine ⟨hx 4 (by decide), ?_⟩
  conv => whnf
  refine ⟨hx 5 (by decide), ?_⟩
  conv => whnf
  refine ⟨_, h8, ?_⟩
  rintro _ w2 ⟨rfl, h9⟩
  conv => whnf
  exact ⟨fun _ => qq_wk S (kk w2 h9) ⟨rfl, rfl, rfl, rfl, trivial⟩, fun c => absurd rfl c⟩
theorem lw_c7 {L : Nat} {xs : Nat → Int32} {P : Option Value → qq_w → Prop} {K : Nat → qq_L → List Value → qq_w → Prop} (S : qq_Sat ww_sh (lw_ro L xs) cs_L_law (qq_at 1281 kd_L_law) (some .boolean) P K) {Inv : qq_w → Prop} {w : qq_w} {x : Int32} (hx : ∀ j : Nat, j < 6 → vp_in (x + nI j) L) (hw : Inv w) (h7 : ∀ a1 a2 : Int32, lwI Inv T_X7_edge T_X8_edge [.int a1, .int a2]) (kk : ∀ w, Inv w → K 1273 [(3, .int x), (2, .ref 8), (1, .ref 0), (0, .ref 1001)] [] w) : K 517 [(3, .int x), (2, .ref 8), (1, .ref 0), (0, .ref 1001)] [] w := by
  refine qq_go_ok S (fun pc => Nat.beq pc 1273) 60 ?_
  conv => whnf
  refine ⟨hx 1 (by decide), ?_⟩
  conv => whnf
  refine ⟨hx 2 (by decide), ?_⟩
  conv => whnf
  refine ⟨_, h7 _ _ w hw, ?_⟩
  rintro _ w1 ⟨y, rfl, h8⟩
  conv => whnf
  refine ⟨hx 1 (by decide), ?_⟩
  conv => whnf
  refine ⟨hx 2 (by decide), ?_⟩
  conv => whnf
  refine ⟨_, h8, ?_⟩
  rintro _ w2 ⟨rfl, h9⟩
  conv => whnf
  exact ⟨fun _ => qq_wk S (kk w2 h9) ⟨rfl, rfl, rfl, rfl, trivial⟩, fun c => absurd rfl c⟩
theorem lw_c8 {L : Nat} {xs : Nat → Int32} {P : Option Value → qq_w → Prop} {K : Nat → qq_L → List Value → qq_w → Prop} (S : qq_Sat ww_sh (lw_ro L xs) cs_L_law (qq_at 1281 kd_L_law) (some .boolean) P K) {Inv : qq_w → Prop} {w : qq_w} {x : Int32} (hx : ∀ j : Nat, j < 6 → vp_in (x + nI j) L) (hw : Inv w) (h8 : ∀ a1 a2 : Int32, lwI Inv T_X7_told T_X8_told [.int a1, .int a2]) (kk : ∀ w, Inv w → K 1273 [(3, .int x), (2, .ref 8), (1, .ref 0), (0, .ref 1001)] [] w) : K 550 [(3, .int x), (2, .ref 8), (1, .ref 0), (0, .ref 1001)] [] w := by
  refine qq_go_ok S (fun pc => Nat.beq pc 1273) 60 ?_
  conv => whnf
  refine ⟨hx 1 (by decide), ?_⟩
  conv => whnf
  refine ⟨hx 2 (by decide), ?_⟩
  conv => whnf
  refine ⟨_, h8 _ _ w hw, ?_⟩
  rintro _ w1 ⟨y, rfl, h8⟩
  conv => whnf
  refine ⟨hx 1 (by decide), ?_⟩
  conv => whnf
  refine ⟨hx 2 (by decide), ?_⟩
  conv => whnf
  refine ⟨_, h8, ?_⟩
  rintro _ w2 ⟨rfl, h9⟩
  conv => whnf
  exact ⟨fun _ => qq_wk S (kk w2 h9) ⟨rfl, rfl, rfl, rfl, trivial⟩, fun c => absurd rfl c⟩
theorem lw_c9 {L : Nat} {xs : Nat → Int32} {P : Option Value → qq_w → Prop} {K : Nat → qq_L → List Value → qq_w → Prop} (S : qq_Sat ww_sh (lw_ro L xs) cs_L_law (qq_at 1281 kd_L_law) (some .boolean) P K) {Inv : qq_w → Prop} {w : qq_w} {x : Int32} (hx : ∀ j : Nat, j < 6 → vp_in (x + nI j) L) (hw : Inv w) (h9 : ∀ a1 a2 : Int32, lwI Inv T_X7_given T_X8_given [.int a1, .int a2]) (kk : ∀ w, Inv w → K 1273 [(3, .int x), (2, .ref 8), (1, .ref 0), (0, .ref 1001)] [] w) : K 583 [(3, .int x), (2, .ref 8), (1, .ref 0), (0, .ref 1001)] [] w := by
  refine qq_go_ok S (fun pc => Nat.beq pc 1273) 60 ?_
  conv => whnf
  refine ⟨hx 1 (by decide), ?_⟩
  conv => whnf
  refine ⟨hx 2 (by decide), ?_⟩
  conv => whnf
  refine ⟨_, h9 _ _ w hw, ?_⟩
  rintro _ w1 ⟨y, rfl, h8⟩
  conv => whnf
  refine ⟨hx 1 (by decide), ?_⟩
  conv => whnf
  refine ⟨hx 2 (by decide), ?_⟩
  conv => whnf
  refine ⟨_, h8, ?_⟩
  rintro _ w2 ⟨rfl, h9⟩
  conv => whnf
  exact ⟨fun _ => qq_wk S (kk w2 h9) ⟨rfl, rfl, rfl, rfl, trivial⟩, fun c => absurd rfl c⟩
theorem lw_c10 {L : Nat} {xs : Nat → Int32} {P : Option Value → qq_w → Prop} {K : Nat → qq_L → List Value → qq_w → Prop} (S : qq_Sat ww_sh (lw_ro L xs) cs_L_law (qq_at 1281 kd_L_law) (some .boolean) P K) {Inv : qq_w → Prop} {w : qq_w} {x : Int32} (hx : ∀ j : Nat, j < 6 → vp_in (x + nI j) L) (hw : Inv w) (h10 : ∀ a1 a2 : Int32, lwI Inv T_X7_is T_X8_is [.int a1, .int a2]) (kk : ∀ w, Inv w → K 1273 [(3, .int x), (2, .ref 8), (1, .ref 0), (0, .ref 1001)] [] w) : K 616 [(3, .int x), (2, .ref 8), (1, .ref 0), (0, .ref 1001)] [] w := by
  refine qq_go_ok S (fun pc => Nat.beq pc 1273) 60 ?_
  conv => whnf
  refine ⟨hx 1 (by decide), ?_⟩
  conv => whnf
  refine ⟨hx 2 (by decide), ?_⟩
  conv => whnf
  refine ⟨_, h10 _ _ w hw, ?_⟩
  rintro _ w1 ⟨y, rfl, h8⟩
  conv => whnf
  refine ⟨hx 1 (by decide), ?_⟩
  conv => whnf
  refine ⟨hx 2 (by decide), ?_⟩
  conv => whnf
  refine ⟨_, h8, ?_⟩
  rintro _ w2 ⟨rfl, h9⟩
  conv => whnf
  exact ⟨fun _ => qq_wk S (kk w2 h9) ⟨rfl, rfl, rfl, rfl, trivial⟩, fun c => absurd rfl c⟩
theorem lw_c11 {L : Nat} {xs : Nat → Int32} {P : Option Value → qq_w → Prop} {K : Nat → qq_L → List Value → qq_w → Prop} (S : qq_Sat ww_sh (lw_ro L xs) cs_L_law (qq_at 1281 kd_L_law) (some .boolean) P K) {Inv : qq_w → Prop} {w : qq_w} {x : Int32} (hx : ∀ j : Nat, j < 6 → vp_in (x + nI j) L) (hw : Inv w) (h11 : ∀ a1 : Int32, lwI Inv T_X7_client T_X8_client [.int a1]) (kk : ∀ w, Inv w → K 1273 [(3, .int x), (2, .ref 8), (1, .ref 0), (0, .ref 1001)] [] w) : K 649 [(3, .int x), (2, .ref 8), (1, .ref 0), (0, .ref 1001)] [] w := by
  refine qq_go_ok S (fun pc => Nat.beq pc 1273) 60 ?_
  conv => whnf
  refine ⟨hx 1 (by decide), ?_⟩
  conv => whnf
  refine ⟨_, h11 _ w hw, ?_⟩
  rintro _ w1 ⟨y, rfl, h8⟩
  conv => whnf
  refine ⟨hx 1 (by decide), ?_⟩
  conv => whnf
  refine ⟨_, h8, ?_⟩
  rintro _ w2 ⟨rfl, h9⟩
  conv => whnf
  exact ⟨fun _ => qq_wk S (kk w2 h9) ⟨rfl, rfl, rfl, rfl, trivial⟩, fun c => absurd rfl c⟩
theorem lw_c12 {L : Nat} {xs : Nat → Int32} {P : Option Value → qq_w → Prop} {K : Nat → qq_L → List Value → qq_w → Prop} (S : qq_Sat ww_sh (lw_ro L xs) cs_L_law (qq_at 1281 kd_L_law) (some .boolean) P K) {Inv : qq_w → Prop} {w : qq_w} {x : Int32} (hx : ∀ j : Nat, j < 6 → vp_in (x + nI j) L) (hw : Inv w) (h12 : ∀ a1 a2 a3 a4 : Int32, lwI Inv T_X7_flow T_X8_flow [.int a1, .int a2, .int a3, .int a4]) (kk : ∀ w, Inv w → K 1273 [(3, .int x), (2, .ref 8), (1, .ref 0), (0, .ref 1001)] [] w) : K 672 [(3, .int x), (2, .ref 8), (1, .ref 0), (0, .ref 1001)] [] w := by
  refine qq_go_ok S (fun pc => Nat.beq pc 1273) 60 ?_
  conv => whnf
  refine ⟨hx 1 (by decide), ?_⟩
  conv => whnf
  refine ⟨hx 2 (by decide), ?_⟩
  conv => whnf
  refine ⟨hx 3 (by decide), ?_⟩
  conv => whnf
  refine ⟨hx 4 (by decide), ?_⟩
  conv => whnf
  refine ⟨_, h12 _ _ _ _ w hw, ?_⟩
  rintro _ w1 ⟨y, rfl, h8⟩
  conv => whnf
  refine ⟨hx 1 (by decide), ?_⟩
  conv => whnf
  refine ⟨hx 2 (by decide), ?_⟩
  conv => whnf
  refine ⟨hx 3 (by decide), ?_⟩
  conv => whnf
  refine ⟨hx 4 (by decide), ?_⟩
  conv => whnf
  refine ⟨_, h8, ?_⟩
  rintro _ w2 ⟨rfl, h9⟩
  conv => whnf
  exact ⟨fun _ => qq_wk S (kk w2 h9) ⟨rfl, rfl, rfl, rfl, trivial⟩, fun c => absurd rfl c⟩
theorem lw_c13 {L : Nat} {xs : Nat → Int32} {P : Option Value → qq_w → Prop} {K : Nat → qq_L → List Value → qq_w → Prop} (S : qq_Sat ww_sh (lw_ro L xs) cs_L_law (qq_at 1281 kd_L_law) (some .boolean) P K) {Inv : qq_w → Prop} {w : qq_w} {x : Int32} (hx : ∀ j : Nat, j < 6 → vp_in (x + nI j) L) (hw : Inv w) (h13 : ∀ a1 a2 a3 : Int32, lwI Inv T_X7_zero T_X8_zero [.int a1, .int a2, .int a3]) (kk : ∀ w, Inv w → K 1273 [(3, .int x), (2, .ref 8), (1, .ref 0), (0, .ref 1001)] [] w) : K 725 [(3, .int x), (2, .ref 8), (1, .ref 0), (0, .ref 1001)] [] w := by
  refine qq_go_ok S (fun pc => Nat.beq pc 1273) 60 ?_
  conv => whnf
  refine ⟨hx 1 (by decide), ?_⟩
  conv => whnf
  refine ⟨hx 2 (by decide), ?_⟩
  conv => whnf
  refine ⟨hx 3 (by decide), ?_⟩
  conv => whnf
  refine ⟨_, h13 _ _ _ w hw, ?_⟩
  rintro _ w1 ⟨y, rfl, h8⟩
  conv => whnf
  refine ⟨hx 1 (by decide), ?_⟩
  conv => whnf
  refine ⟨hx 2 (by decide), ?_⟩
  conv => whnf
  refine ⟨hx 3 (by decide), ?_⟩
  conv => whnf
  refine ⟨_, h8, ?_⟩
  rintro _ w2 ⟨rfl, h9⟩
  conv => whnf
  exact ⟨fun _ => qq_wk S (kk w2 h9) ⟨rfl, rfl, rfl, rfl, trivial⟩, fun c => absurd rfl c⟩
theorem lw_c14 {L : Nat} {xs : Nat → Int32} {P : Option Value → qq_w → Prop} {K : Nat → qq_L → List Value → qq_w → Prop} (S : qq_Sat ww_sh (lw_ro L xs) cs_L_law (qq_at 1281 kd_L_law) (some .boolean) P K) {Inv : qq_w → Prop} {w : qq_w} {x : Int32} (hx : ∀ j : Nat, j < 6 → vp_in (x + nI j) L) (hw : Inv w) (h14 : ∀ a1 a2 : Int32, lwI Inv T_X7_forget T_X8_forget [.int a1, .int a2]) (kk : ∀ w, Inv w → K 1273 [(3, .int x), (2, .ref 8), (1, .ref 0), (0, .ref 1001)] [] w) : K 768 [(3, .int x), (2, .ref 8), (1, .ref 0), (0, .ref 1001)] [] w := by
  refine qq_go_ok S (fun pc => Nat.beq pc 1273) 60 ?_
  conv => whnf
  refine ⟨hx 1 (by decide), ?_⟩
  conv => whnf
  refine ⟨hx 2 (by decide), ?_⟩
  conv => whnf
  refine ⟨_, h14 _ _ w hw, ?_⟩
  rintro _ w1 ⟨y, rfl, h8⟩
  conv => whnf
  refine ⟨hx 1 (by decide), ?_⟩
  conv => whnf
  refine ⟨hx 2 (by decide), ?_⟩
  conv => whnf
  refine ⟨_, h8, ?_⟩
  rintro _ w2 ⟨rfl, h9⟩
  conv => whnf
  exact ⟨fun _ => qq_wk S (kk w2 h9) ⟨rfl, rfl, rfl, rfl, trivial⟩, fun c => absurd rfl c⟩
theorem lw_c15 {L : Nat} {xs : Nat → Int32} {P : Option Value → qq_w → Prop} {K : Nat → qq_L → List Value → qq_w → Prop} (S : qq_Sat ww_sh (lw_ro L xs) cs_L_law (qq_at 1281 kd_L_law) (some .boolean) P K) {Inv : qq_w → Prop} {w : qq_w} {x : Int32} (hx : ∀ j : Nat, j < 6 → vp_in (x + nI j) L) (hw : Inv w) (h15 : ∀ a1 : Int32, lwI Inv T_X7_begin T_X8_begin [.int a1]) (kk : ∀ w, Inv w → K 1273 [(3, .int x), (2, .ref 8), (1, .ref 0), (0, .ref 1001)] [] w) : K 801 [(3, .int x), (2, .ref 8), (1, .ref 0), (0, .ref 1001)] [] w := by
  refine qq_go_ok S (fun pc => Nat.beq pc 1273) 60 ?_
  conv => whnf
  refine ⟨hx 1 (by decide), ?_⟩
  conv => whnf
  refine ⟨_, h15 _ w hw, ?_⟩
  rintro _ w1 ⟨y, rfl, h8⟩
  conv => whnf
  refine ⟨hx 1 (by decide), ?_⟩
  conv => whnf
  refine ⟨_, h8, ?_⟩
  rintro _ w2 ⟨rfl, h9⟩
  conv => whnf
  exact ⟨fun _ => qq_wk S (kk w2 h9) ⟨rfl, rfl, rfl, rfl, trivial⟩, fun c => absurd rfl c⟩
theorem lw_c16 {L : Nat} {xs : Nat → Int32} {P : Option Value → qq_w → Prop} {K : Nat → qq_L → List Value → qq_w → Prop} (S : qq_Sat ww_sh (lw_ro L xs) cs_L_law (qq_at 1281 kd_L_law) (some .boolean) P K) {Inv : qq_w → Prop} {w : qq_w} {x : Int32} (hx : ∀ j : Nat, j < 6 → vp_in (x + nI j) L) (hw : Inv w) (h16 : ∀ a1 a2 a3 : Int32, lwI Inv T_X7_goes T_X8_goes [.int a1, .int a2, .int a3]) (kk : ∀ w, Inv w → K 1273 [(3, .int x), (2, .ref 8), (1, .ref 0), (0, .ref 1001)] [] w) : K 824 [(3, .int x), (2, .ref 8), (1, .ref 0), (0, .ref 1001)] [] w := by
  refine qq_go_ok S (fun pc => Nat.beq pc 1273) 60 ?_
  conv => whnf
  refine ⟨hx 1 (by decide), ?_⟩
  conv => whnf
  refine ⟨hx 2 (by decide), ?_⟩
  conv => whnf
  refine ⟨hx 3 (by decide), ?_⟩
  conv => whnf
  refine ⟨_, h16 _ _ _ w hw, ?_⟩
  rintro _ w1 ⟨y, rfl, h8⟩
  conv => whnf
  refine ⟨hx 1 (by decide), ?_⟩
  conv => whnf
  refine ⟨hx 2 (by decide), ?_⟩
  conv => whnf
  refine ⟨hx 3 (by decide), ?_⟩
  conv => whnf
  refine ⟨_, h8, ?_⟩
  rintro _ w2 ⟨rfl, h9⟩
  conv => whnf
  exact ⟨fun _ => qq_wk S (kk w2 h9) ⟨rfl, rfl, rfl, rfl, trivial⟩, fun c => absurd rfl c⟩
theorem lw_c17 {L : Nat} {xs : Nat → Int32} {P : Option Value → qq_w → Prop} {K : Nat → qq_L → List Value → qq_w → Prop} (S : qq_Sat ww_sh (lw_ro L xs) cs_L_law (qq_at 1281 kd_L_law) (some .boolean) P K) {Inv : qq_w → Prop} {w : qq_w} {x : Int32} (hx : ∀ j : Nat, j < 6 → vp_in (x + nI j) L) (hw : Inv w) (h17 : ∀ a1 : Int32, lwI Inv T_X7_solve T_X8_solve [.int a1]) (kk : ∀ w, Inv w → K 1273 [(3, .int x), (2, .ref 8), (1, .ref 0), (0, .ref 1001)] [] w) : K 867 [(3, .int x), (2, .ref 8), (1, .ref 0), (0, .ref 1001)] [] w := by
  refine qq_go_ok S (fun pc => Nat.beq pc 1273) 60 ?_
  conv => whnf
  refine ⟨hx 1 (by decide), ?_⟩
  conv => whnf
  refine ⟨_, h17 _ w hw, ?_⟩
  rintro _ w1 ⟨y, rfl, h8⟩
  conv => whnf
  refine ⟨hx 1 (by decide), ?_⟩
  conv => whnf
  refine ⟨_, h8, ?_⟩
  rintro _ w2 ⟨rfl, h9⟩
  conv => whnf
  exact ⟨fun _ => qq_wk S (kk w2 h9) ⟨rfl, rfl, rfl, rfl, trivial⟩, fun c => absurd rfl c⟩
theorem lw_c18 {L : Nat} {xs : Nat → Int32} {P : Option Value → qq_w → Prop} {K : Nat → qq_L → List Value → qq_w → Prop} (S : qq_Sat ww_sh (lw_ro L xs) cs_L_law (qq_at 1281 kd_L_law) (some .boolean) P K) {Inv : qq_w → Prop} {w : qq_w} {x : Int32} (hx : ∀ j : Nat, j < 6 → vp_in (x + nI j) L) (hw : Inv w) (h18 :  lwI Inv T_X7_solved T_X8_solved []) (kk : ∀ w, Inv w → K 1273 [(3, .int x), (2, .ref 8), (1, .ref 0), (0, .ref 1001)] [] w) : K 890 [(3, .int x), (2, .ref 8), (1, .ref 0), (0, .ref 1001)] [] w := by
  refine qq_go_ok S (fun pc => Nat.beq pc 1273) 60 ?_
  conv => whnf
  refine ⟨_, h18 w hw, ?_⟩
  rintro _ w1 ⟨y, rfl, h8⟩
  conv => whnf
  refine ⟨_, h8, ?_⟩
  rintro _ w2 ⟨rfl, h9⟩
  conv => whnf
  exact ⟨fun _ => qq_wk S (kk w2 h9) ⟨rfl, rfl, rfl, rfl, trivial⟩, fun c => absurd rfl c⟩
theorem lw_c19 {L : Nat} {xs : Nat → Int32} {P : Option Value → qq_w → Prop} {K : Nat → qq_L → List Value → qq_w → Prop} (S : qq_Sat ww_sh (lw_ro L xs) cs_L_law (qq_at 1281 kd_L_law) (some .boolean) P K) {Inv : qq_w → Prop} {w : qq_w} {x : Int32} (hx : ∀ j : Nat, j < 6 → vp_in (x + nI j) L) (hw : Inv w) (h19 : ∀ a1 : Int32, lwI Inv T_X7_holds T_X8_holds [.int a1]) (kk : ∀ w, Inv w → K 1273 [(3, .int x), (2, .ref 8), (1, .ref 0), (0, .ref 1001)] [] w) : K 903 [(3, .int x), (2, .ref 8), (1, .ref 0), (0, .ref 1001)] [] w := by
  refine qq_go_ok S (fun pc => Nat.beq pc 1273) 60 ?_
  conv => whnf
  refine ⟨hx 1 (by decide), ?_⟩
  conv => whnf
  refine ⟨_, h19 _ w hw, ?_⟩
  rintro _ w1 ⟨y, rfl, h8⟩
  conv => whnf
  refine ⟨hx 1 (by decide), ?_⟩
  conv => whnf
  refine ⟨_, h8, ?_⟩
  rintro _ w2 ⟨rfl, h9⟩
  conv => whnf
  exact ⟨fun _ => qq_wk S (kk w2 h9) ⟨rfl, rfl, rfl, rfl, trivial⟩, fun c => absurd rfl c⟩
theorem lw_c20 {L : Nat} {xs : Nat → Int32} {P : Option Value → qq_w → Prop} {K : Nat → qq_L → List Value → qq_w → Prop} (S : qq_Sat ww_sh (lw_ro L xs) cs_L_law (qq_at 1281 kd_L_law) (some .boolean) P K) {Inv : qq_w → Prop} {w : qq_w} {x : Int32} (hx : ∀ j : Nat, j < 6 → vp_in (x + nI j) L) (hw : Inv w) (h20 : ∀ a1 : Int32, (a1 = 0 ∨ a1 = 1) → lwI Inv T_X7_edges T_X8_edges [.int a1]) (kk : ∀ w, Inv w → K 1273 [(3, .int x), (2, .ref 8), (1, .ref 0), (0, .ref 1001)] [] w) : K 926 [(3, .int x), (2, .ref 8), (1, .ref 0), (0, .ref 1001)] [] w := by
  refine qq_go_ok S (fun pc => Nat.beq pc 1273) 60 ?_
  conv => whnf
  refine ⟨hx 1 (by decide), ?_⟩
  conv => whnf
  refine ⟨fun b => ?_, fun b => ?_⟩
  · conv => whnf
    refine ⟨_, h20 _ (Or.inl rfl) w hw, ?_⟩
    rintro _ w1 ⟨y, rfl, h8⟩
    conv => whnf
    refine ⟨hx 1 (by decide), ?_⟩
    conv => whnf
    refine ⟨fun _ => ?_, fun c => absurd b c⟩
    conv => whnf
    refine ⟨_, h8, ?_⟩
    rintro _ w2 ⟨rfl, h9⟩
    conv => whnf
    exact ⟨fun _ => qq_wk S (kk w2 h9) ⟨rfl, rfl, rfl, rfl, trivial⟩, fun c => absurd rfl c⟩
  · conv => whnf
    refine ⟨_, h20 _ (Or.inr rfl) w hw, ?_⟩
    rintro _ w1 ⟨y, rfl, h8⟩
    conv => whnf
    refine ⟨hx 1 (by decide), ?_⟩
    conv => whnf
    refine ⟨fun c => absurd c b, fun _ => ?_⟩
    conv => whnf
    refine ⟨_, h8, ?_⟩
    rintro _ w2 ⟨rfl, h9⟩
    conv => whnf
    exact ⟨fun _ => qq_wk S (kk w2 h9) ⟨rfl, rfl, rfl, rfl, trivial⟩, fun c => absurd rfl c⟩
theorem lw_c21 {L : Nat} {xs : Nat → Int32} {P : Option Value → qq_w → Prop} {K : Nat → qq_L → List Value → qq_w → Prop} (S : qq_Sat ww_sh (lw_ro L xs) cs_L_law (qq_at 1281 kd_L_law) (some .boolean) P K) {Inv : qq_w → Prop} {w : qq_w} {x : Int32} (hx : ∀ j : Nat, j < 6 → vp_in (x + nI j) L) (hw : Inv w) (h21 : ∀ a1 a2 : Int32, lwI Inv T_X7_from T_X8_from [.int a1, .int a2]) (kk : ∀ w, Inv w → K 1273 [(3, .int x), (2, .ref 8), (1, .ref 0), (0, .ref 1001)] [] w) : K 965 [(3, .int x), (2, .ref 8), (1, .ref 0), (0, .ref 1001)] [] w := by
  refine qq_go_ok S (fun pc => Nat.beq pc 1273) 60 ?_
  conv => whnf
  refine ⟨hx 1 (by decide), ?_⟩
  conv => whnf
  refine ⟨hx 2 (by decide), ?_⟩
  conv => whnf
  refine ⟨_, h21 _ _ w hw, ?_⟩
  rintro _ w1 ⟨y, rfl, h8⟩
  conv => whnf
  refine ⟨hx 1 (by decide), ?_⟩
  conv => whnf
  refine ⟨hx 2 (by decide), ?_⟩
  conv => whnf
  refine ⟨_, h8, ?_⟩
  rintro _ w2 ⟨rfl, h9⟩
  conv => whnf
  exact ⟨fun _ => qq_wk S (kk w2 h9) ⟨rfl, rfl, rfl, rfl, trivial⟩, fun c => absurd rfl c⟩
theorem lw_c22 {L : Nat} {xs : Nat → Int32} {P : Option Value → qq_w → Prop} {K : Nat → qq_L → List Value → qq_w → Prop} (S : qq_Sat ww_sh (lw_ro L xs) cs_L_law (qq_at 1281 kd_L_law) (some .boolean) P K) {Inv : qq_w → Prop} {w : qq_w} {x : Int32} (hx : ∀ j : Nat, j < 6 → vp_in (x + nI j) L) (hw : Inv w) (h22 : ∀ a1 a2 : Int32, lwI Inv T_X7_summary T_X8_summary [.int a1, .int a2]) (kk : ∀ w, Inv w → K 1273 [(3, .int x), (2, .ref 8), (1, .ref 0), (0, .ref 1001)] [] w) : K 998 [(3, .int x), (2, .ref 8), (1, .ref 0), (0, .ref 1001)] [] w := by
  refine qq_go_ok S (fun pc => Nat.beq pc 1273) 60 ?_
  conv => whnf
  refine ⟨hx 1 (by decide), ?_⟩
  conv => whnf
  refine ⟨hx 2 (by decide), ?_⟩
  conv => whnf
  refine ⟨_, h22 _ _ w hw, ?_⟩
  rintro _ w1 ⟨y, rfl, h8⟩
  conv => whnf
  refine ⟨hx 1 (by decide), ?_⟩
  conv => whnf
  refine ⟨hx 2 (by decide), ?_⟩
  conv => whnf
  refine ⟨_, h8, ?_⟩
  rintro _ w2 ⟨rfl, h9⟩
  conv => whnf
  exact ⟨fun _ => qq_wk S (kk w2 h9) ⟨rfl, rfl, rfl, rfl, trivial⟩, fun c => absurd rfl c⟩
theorem lw_c23 {L : Nat} {xs : Nat → Int32} {P : Option Value → qq_w → Prop} {K : Nat → qq_L → List Value → qq_w → Prop} (S : qq_Sat ww_sh (lw_ro L xs) cs_L_law (qq_at 1281 kd_L_law) (some .boolean) P K) {Inv : qq_w → Prop} {w : qq_w} {x : Int32} (hx : ∀ j : Nat, j < 6 → vp_in (x + nI j) L) (hw : Inv w) (h23 : ∀ a1 : Int32, lwI Inv T_X7_share T_X8_share [.int a1]) (kk : ∀ w, Inv w → K 1273 [(3, .int x), (2, .ref 8), (1, .ref 0), (0, .ref 1001)] [] w) : K 1031 [(3, .int x), (2, .ref 8), (1, .ref 0), (0, .ref 1001)] [] w := by
  refine qq_go_ok S (fun pc => Nat.beq pc 1273) 60 ?_
  conv => whnf
  refine ⟨hx 1 (by decide), ?_⟩
  conv => whnf
  refine ⟨_, h23 _ w hw, ?_⟩
  rintro _ w1 ⟨y, rfl, h8⟩
  conv => whnf
  refine ⟨hx 1 (by decide), ?_⟩
  conv => whnf
  refine ⟨_, h8, ?_⟩
  rintro _ w2 ⟨rfl, h9⟩
  conv => whnf
  exact ⟨fun _ => qq_wk S (kk w2 h9) ⟨rfl, rfl, rfl, rfl, trivial⟩, fun c => absurd rfl c⟩
theorem lw_c24 {L : Nat} {xs : Nat → Int32} {P : Option Value → qq_w → Prop} {K : Nat → qq_L → List Value → qq_w → Prop} (S : qq_Sat ww_sh (lw_ro L xs) cs_L_law (qq_at 1281 kd_L_law) (some .boolean) P K) {Inv : qq_w → Prop} {w : qq_w} {x : Int32} (hx : ∀ j : Nat, j < 6 → vp_in (x + nI j) L) (hw : Inv w) (h24 : ∀ a1 a2 : Int32, lwJ Inv T_X7_length T_X8_length [.int a1, .int a2]) (kk : ∀ w, Inv w → K 1273 [(3, .int x), (2, .ref 8), (1, .ref 0), (0, .ref 1001)] [] w) : K 1054 [(3, .int x), (2, .ref 8), (1, .ref 0), (0, .ref 1001)] [] w := by
  refine qq_go_ok S (fun pc => Nat.beq pc 1273) 60 ?_
  conv => whnf
  refine ⟨hx 1 (by decide), ?_⟩
  conv => whnf
  refine ⟨hx 2 (by decide), ?_⟩
  conv => whnf
  refine ⟨_, h24 _ _ w hw, ?_⟩
  rintro _ w1 ⟨y, rfl, h8⟩
  conv => whnf
  refine ⟨hx 1 (by decide), ?_⟩
  conv => whnf
  refine ⟨hx 2 (by decide), ?_⟩
  conv => whnf
  refine ⟨_, h8, ?_⟩
  rintro _ w2 ⟨rfl, h9⟩
  conv => whnf
  exact ⟨fun _ => qq_wk S (kk w2 h9) ⟨rfl, rfl, rfl, rfl, trivial⟩, fun c => absurd (lw_lc y) c⟩
theorem lw_c25 {L : Nat} {xs : Nat → Int32} {P : Option Value → qq_w → Prop} {K : Nat → qq_L → List Value → qq_w → Prop} (S : qq_Sat ww_sh (lw_ro L xs) cs_L_law (qq_at 1281 kd_L_law) (some .boolean) P K) {Inv : qq_w → Prop} {w : qq_w} {x : Int32} (hx : ∀ j : Nat, j < 6 → vp_in (x + nI j) L) (hw : Inv w) (h25 : ∀ a1 a2 : Int32, lwI Inv T_X7_track T_X8_track [.int a1, .int a2]) (kk : ∀ w, Inv w → K 1273 [(3, .int x), (2, .ref 8), (1, .ref 0), (0, .ref 1001)] [] w) : K 1088 [(3, .int x), (2, .ref 8), (1, .ref 0), (0, .ref 1001)] [] w := by
  refine qq_go_ok S (fun pc => Nat.beq pc 1273) 60 ?_
  conv => whnf
  refine ⟨hx 1 (by decide), ?_⟩
  conv => whnf
  refine ⟨hx 2 (by decide), ?_⟩
  conv => whnf
  refine ⟨_, h25 _ _ w hw, ?_⟩
  rintro _ w1 ⟨y, rfl, h8⟩
  conv => whnf
  refine ⟨hx 1 (by decide), ?_⟩
  conv => whnf
  refine ⟨hx 2 (by decide), ?_⟩
  conv => whnf
  refine ⟨_, h8, ?_⟩
  rintro _ w2 ⟨rfl, h9⟩
  conv => whnf
  exact ⟨fun _ => qq_wk S (kk w2 h9) ⟨rfl, rfl, rfl, rfl, trivial⟩, fun c => absurd rfl c⟩
theorem lw_c26 {L : Nat} {xs : Nat → Int32} {P : Option Value → qq_w → Prop} {K : Nat → qq_L → List Value → qq_w → Prop} (S : qq_Sat ww_sh (lw_ro L xs) cs_L_law (qq_at 1281 kd_L_law) (some .boolean) P K) {Inv : qq_w → Prop} {w : qq_w} {x : Int32} (hx : ∀ j : Nat, j < 6 → vp_in (x + nI j) L) (hw : Inv w) (h26 : ∀ a1 a2 : Int32, lwI Inv T_X7_at T_X8_at_ [.int a1, .int a2]) (kk : ∀ w, Inv w → K 1273 [(3, .int x), (2, .ref 8), (1, .ref 0), (0, .ref 1001)] [] w) : K 1121 [(3, .int x), (2, .ref 8), (1, .ref 0), (0, .ref 1001)] [] w := by
  refine qq_go_ok S (fun pc => Nat.beq pc 1273) 60 ?_
  conv => whnf
  refine ⟨hx 1 (by decide), ?_⟩
  conv => whnf
  refine ⟨hx 2 (by decide), ?_⟩
  conv => whnf
  refine ⟨_, h26 _ _ w hw, ?_⟩
  rintro _ w1 ⟨y, rfl, h8⟩
  conv => whnf
  refine ⟨hx 1 (by decide), ?_⟩
  conv => whnf
  refine ⟨hx 2 (by decide), ?_⟩
  conv => whnf
  refine ⟨_, h8, ?_⟩
  rintro _ w2 ⟨rfl, h9⟩
  conv => whnf
  exact ⟨fun _ => qq_wk S (kk w2 h9) ⟨rfl, rfl, rfl, rfl, trivial⟩, fun c => absurd rfl c⟩
theorem lw_c27 {L : Nat} {xs : Nat → Int32} {P : Option Value → qq_w → Prop} {K : Nat → qq_L → List Value → qq_w → Prop} (S : qq_Sat ww_sh (lw_ro L xs) cs_L_law (qq_at 1281 kd_L_law) (some .boolean) P K) {Inv : qq_w → Prop} {w : qq_w} {x : Int32} (hx : ∀ j : Nat, j < 6 → vp_in (x + nI j) L) (hw : Inv w) (h27 :  lwI Inv T_X7_reports T_X8_reports []) (kk : ∀ w, Inv w → K 1273 [(3, .int x), (2, .ref 8), (1, .ref 0), (0, .ref 1001)] [] w) : K 1154 [(3, .int x), (2, .ref 8), (1, .ref 0), (0, .ref 1001)] [] w := by
  refine qq_go_ok S (fun pc => Nat.beq pc 1273) 60 ?_
  conv => whnf
  refine ⟨_, h27 w hw, ?_⟩
  rintro _ w1 ⟨y, rfl, h8⟩
  conv => whnf
  refine ⟨_, h8, ?_⟩
  rintro _ w2 ⟨rfl, h9⟩
  conv => whnf
  exact ⟨fun _ => qq_wk S (kk w2 h9) ⟨rfl, rfl, rfl, rfl, trivial⟩, fun c => absurd rfl c⟩
theorem lw_c28 {L : Nat} {xs : Nat → Int32} {P : Option Value → qq_w → Prop} {K : Nat → qq_L → List Value → qq_w → Prop} (S : qq_Sat ww_sh (lw_ro L xs) cs_L_law (qq_at 1281 kd_L_law) (some .boolean) P K) {Inv : qq_w → Prop} {w : qq_w} {x : Int32} (hx : ∀ j : Nat, j < 6 → vp_in (x + nI j) L) (hw : Inv w) (h28 : ∀ a1 a2 : Int32, lwI Inv T_X7_report T_X8_report [.int a1, .int a2]) (kk : ∀ w, Inv w → K 1273 [(3, .int x), (2, .ref 8), (1, .ref 0), (0, .ref 1001)] [] w) : K 1167 [(3, .int x), (2, .ref 8), (1, .ref 0), (0, .ref 1001)] [] w := by
  refine qq_go_ok S (fun pc => Nat.beq pc 1273) 60 ?_
  conv => whnf
  refine ⟨hx 1 (by decide), ?_⟩
  conv => whnf
  refine ⟨hx 2 (by decide), ?_⟩
  conv => whnf
  refine ⟨_, h28 _ _ w hw, ?_⟩
  rintro _ w1 ⟨y, rfl, h8⟩
  conv => whnf
  refine ⟨hx 1 (by decide), ?_⟩
  conv => whnf
  refine ⟨hx 2 (by decide), ?_⟩
  conv => whnf
  refine ⟨_, h8, ?_⟩
  rintro _ w2 ⟨rfl, h9⟩
  conv => whnf
  exact ⟨fun _ => qq_wk S (kk w2 h9) ⟨rfl, rfl, rfl, rfl, trivial⟩, fun c => absurd rfl c⟩
theorem lw_c29 {L : Nat} {xs : Nat → Int32} {P : Option Value → qq_w → Prop} {K : Nat → qq_L → List Value → qq_w → Prop} (S : qq_Sat ww_sh (lw_ro L xs) cs_L_law (qq_at 1281 kd_L_law) (some .boolean) P K) {Inv : qq_w → Prop} {w : qq_w} {x : Int32} (hx : ∀ j : Nat, j < 6 → vp_in (x + nI j) L) (hw : Inv w) (h29 : ∀ a1 : Int32, lwI Inv T_X7_count T_X8_count [.int a1]) (kk : ∀ w, Inv w → K 1273 [(3, .int x), (2, .ref 8), (1, .ref 0), (0, .ref 1001)] [] w) : K 1200 [(3, .int x), (2, .ref 8), (1, .ref 0), (0, .ref 1001)] [] w := by
  refine qq_go_ok S (fun pc => Nat.beq pc 1273) 60 ?_
  conv => whnf
  refine ⟨hx 1 (by decide), ?_⟩
  conv => whnf
  refine ⟨_, h29 _ w hw, ?_⟩
  rintro _ w1 ⟨y, rfl, h8⟩
  conv => whnf
  refine ⟨hx 1 (by decide), ?_⟩
  conv => whnf
  refine ⟨_, h8, ?_⟩
  rintro _ w2 ⟨rfl, h9⟩
  conv => whnf
  exact ⟨fun _ => qq_wk S (kk w2 h9) ⟨rfl, rfl, rfl, rfl, trivial⟩, fun c => absurd rfl c⟩
theorem lw_c30 {L : Nat} {xs : Nat → Int32} {P : Option Value → qq_w → Prop} {K : Nat → qq_L → List Value → qq_w → Prop} (S : qq_Sat ww_sh (lw_ro L xs) cs_L_law (qq_at 1281 kd_L_law) (some .boolean) P K) {Inv : qq_w → Prop} {w : qq_w} {x : Int32} (hx : ∀ j : Nat, j < 6 → vp_in (x + nI j) L) (hw : Inv w) (h30 :  lwI Inv T_X7_finding T_X8_finding []) (kk : ∀ w, Inv w → K 1273 [(3, .int x), (2, .ref 8), (1, .ref 0), (0, .ref 1001)] [] w) : K 1223 [(3, .int x), (2, .ref 8), (1, .ref 0), (0, .ref 1001)] [] w := by
  refine qq_go_ok S (fun pc => Nat.beq pc 1273) 60 ?_
  conv => whnf
  refine ⟨_, h30 w hw, ?_⟩
  rintro _ w1 ⟨y, rfl, h8⟩
  conv => whnf
  refine ⟨_, h8, ?_⟩
  rintro _ w2 ⟨rfl, h9⟩
  conv => whnf
  exact ⟨fun _ => qq_wk S (kk w2 h9) ⟨rfl, rfl, rfl, rfl, trivial⟩, fun c => absurd rfl c⟩
theorem lw_c31 {L : Nat} {xs : Nat → Int32} {P : Option Value → qq_w → Prop} {K : Nat → qq_L → List Value → qq_w → Prop} (S : qq_Sat ww_sh (lw_ro L xs) cs_L_law (qq_at 1281 kd_L_law) (some .boolean) P K) {Inv : qq_w → Prop} {w : qq_w} {x : Int32} (hx : ∀ j : Nat, j < 6 → vp_in (x + nI j) L) (hw : Inv w) (h31 : ∀ a1 : Int32, lwI Inv T_X7_findings T_X8_findings [.int a1]) (kk : ∀ w, Inv w → K 1273 [(3, .int x), (2, .ref 8), (1, .ref 0), (0, .ref 1001)] [] w) : K 1236 [(3, .int x), (2, .ref 8), (1, .ref 0), (0, .ref 1001)] [] w := by
  refine qq_go_ok S (fun pc => Nat.beq pc 1273) 60 ?_
  conv => whnf
  refine ⟨hx 1 (by decide), ?_⟩
  conv => whnf
  refine ⟨_, h31 _ w hw, ?_⟩
  rintro _ w1 ⟨y, rfl, h8⟩
  conv => whnf
  refine ⟨hx 1 (by decide), ?_⟩
  conv => whnf
  refine ⟨_, h8, ?_⟩
  rintro _ w2 ⟨rfl, h9⟩
  conv => whnf
  exact ⟨fun _ => qq_wk S (kk w2 h9) ⟨rfl, rfl, rfl, rfl, trivial⟩, fun c => absurd rfl c⟩
theorem lw_c32 {L : Nat} {xs : Nat → Int32} {P : Option Value → qq_w → Prop} {K : Nat → qq_L → List Value → qq_w → Prop} (S : qq_Sat ww_sh (lw_ro L xs) cs_L_law (qq_at 1281 kd_L_law) (some .boolean) P K) {Inv : qq_w → Prop} {w : qq_w} {x : Int32} (hx : ∀ j : Nat, j < 6 → vp_in (x + nI j) L) (hw : Inv w) (h32 :  lwJ Inv T_X7_digest T_X8_digest []) (kk : ∀ w, Inv w → K 1273 [(3, .int x), (2, .ref 8), (1, .ref 0), (0, .ref 1001)] [] w) : K 1259 [(3, .int x), (2, .ref 8), (1, .ref 0), (0, .ref 1001)] [] w := by
  refine qq_go_ok S (fun pc => Nat.beq pc 1273) 60 ?_
  conv => whnf
  refine ⟨_, h32 w hw, ?_⟩
  rintro _ w1 ⟨y, rfl, h8⟩
  conv => whnf
  refine ⟨_, h8, ?_⟩
  rintro _ w2 ⟨rfl, h9⟩
  conv => whnf
  exact ⟨fun _ => qq_wk S (kk w2 h9) ⟨rfl, rfl, rfl, rfl, trivial⟩, fun c => absurd (lw_lc y) c⟩
