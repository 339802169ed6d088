/-! pictures that differ in flows that nobody asks for -/
section
variable {K : Nat → Int32} {L : Nat → Nat → Nat → Nat} {W : Nat → Nat → Nat} {F F' : Nat → Nat → Nat → Nat → Prop} {E : Nat → Nat → Prop} {Pa Ca Ow En Le : Nat → Nat} {Bg : Nat → Prop}
theorem tr_PE (h0 : ∀ n f g, F n 0 f g ↔ F' n 0 f g) (n d f : Nat) : bPE (K, L, W, F, E, Pa, Ca, Ow, En, Le, Bg) n d f = bPE (K, L, W, F', E, Pa, Ca, Ow, En, Le, Bg) n d f := by
  funext x
  show (E (x / 13) n ∧ L (x / 13) d (x % 13) + 1 = L n d f ∧ F (x / 13) 0 (x % 13) f) = (E (x / 13) n ∧ L (x / 13) d (x % 13) + 1 = L n d f ∧ F' (x / 13) 0 (x % 13) f)
  rw [h0]
theorem tr_PA (h0 : ∀ n f g, F n 0 f g ↔ F' n 0 f g) (n d f : Nat) : bPA (K, L, W, F, E, Pa, Ca, Ow, En, Le, Bg) n d f = bPA (K, L, W, F', E, Pa, Ca, Ow, En, Le, Bg) n d f := by
  funext g
  show (L (Pa n) d g + 1 = L n d f ∧ F (Pa n) 0 g f) = (L (Pa n) d g + 1 = L n d f ∧ F' (Pa n) 0 g f)
  rw [h0]
theorem tr_PT (h9 : ∀ n p f g, K n = 9 → p = 1 ∨ p = 2 → (F n p f g ↔ F' n p f g)) {n : Nat} (hk : K (Pa n) = 9) (d f : Nat) : bPT (K, L, W, F, E, Pa, Ca, Ow, En, Le, Bg) n d f = bPT (K, L, W, F', E, Pa, Ca, Ow, En, Le, Bg) n d f := by
  funext x
  show (F (Pa n) 1 (x / 169) (x / 13 % 13) ∧ F (Pa n) 2 (x % 13) f ∧ L (Pa n) d (x / 169) + L (Le (Ca (Pa n))) (x / 13 % 13) (x % 13) + 2 = L n d f) = (F' (Pa n) 1 (x / 169) (x / 13 % 13) ∧ F' (Pa n) 2 (x % 13) f ∧ L (Pa n) d (x / 169) + L (Le (Ca (Pa n))) (x / 13 % 13) (x % 13) + 2 = L n d f)
  rw [h9 _ 1 _ _ hk (Or.inl rfl), h9 _ 2 _ _ hk (Or.inr rfl)]
theorem tr_PC (h9 : ∀ n p f g, K n = 9 → p = 1 ∨ p = 2 → (F n p f g ↔ F' n p f g)) (n f : Nat) : bPC (K, L, W, F, E, Pa, Ca, Ow, En, Le, Bg) n f = bPC (K, L, W, F', E, Pa, Ca, Ow, En, Le, Bg) n f := by
  funext x
  show (K (x / 13) = 9 ∧ Ca (x / 13) = Ow n ∧ W (x / 13) (x % 13) + 1 = W n f ∧ F (x / 13) 1 (x % 13) f) = (K (x / 13) = 9 ∧ Ca (x / 13) = Ow n ∧ W (x / 13) (x % 13) + 1 = W n f ∧ F' (x / 13) 1 (x % 13) f)
  refine propext (and_congr_right fun hk => ?_)
  rw [h9 _ 1 _ _ hk (Or.inl rfl)]
theorem tr_Stp (h0 : ∀ n f g, F n 0 f g ↔ F' n 0 f g) (h9 : ∀ n p f g, K n = 9 → p = 1 ∨ p = 2 → (F n p f g ↔ F' n p f g)) (hPa : ∀ n, K n = 10 → K (Pa n) = 9) {n f d : Nat} {st : List (Nat × Nat × Nat)} {h n' f' d' : Nat} {st' : List (Nat × Nat × Nat)} (hs : bStp (K, L, W, F, E, Pa, Ca, Ow, En, Le, Bg) n f d st h n' f' d' st') : bStp (K, L, W, F', E, Pa, Ca, Ow, En, Le, Bg) n f d st h n' f' d' st' := by
  rcases hs with hs | hs | ⟨a1, a2, a3, a4, a5, a6, a7, a8⟩ | ⟨a1, a2, a3, a4, a5, a6⟩ | ⟨a1, a2, a3, a4, a5, ⟨g, a6, a7⟩, a8⟩ | ⟨a1, a2, a3, a4, a5, a6, a7⟩
  · exact Or.inl hs
  · exact Or.inr (Or.inl hs)
  · rw [tr_PC h9] at a6
    exact Or.inr (Or.inr (Or.inl ⟨a1, a2, a3, a4, a5, a6, a7, a8⟩))
  · rw [tr_PA h0] at a3
    exact Or.inr (Or.inr (Or.inr (Or.inl ⟨a1, a2, a3, a4, a5, a6⟩)))
  · rw [tr_PT h9 (hPa n a1)] at a6
    rw [tr_PA h0] at a2
    exact Or.inr (Or.inr (Or.inr (Or.inr (Or.inl ⟨a1, a2, a3, a4, a5, ⟨g, a6, a7⟩, a8⟩))))
  · rw [tr_PE h0] at a5
    exact Or.inr (Or.inr (Or.inr (Or.inr (Or.inr ⟨a1, a2, a3, a4, a5, a6, a7⟩))))
theorem tr_Run (h0 : ∀ n f g, F n 0 f g ↔ F' n 0 f g) (h9 : ∀ n p f g, K n = 9 → p = 1 ∨ p = 2 → (F n p f g ↔ F' n p f g)) (hPa : ∀ n, K n = 10 → K (Pa n) = 9) : ∀ (l : List (Nat × Nat × Nat)) (s s' : BSt), bRun (K, L, W, F, E, Pa, Ca, Ow, En, Le, Bg) l s s' → bRun (K, L, W, F', E, Pa, Ca, Ow, En, Le, Bg) l s s'
  | [], _, _, h => h
  | o :: l, s, s', ⟨s1, ⟨h1, h2, h3⟩, h4⟩ => ⟨s1, ⟨h1, h2, tr_Stp h0 h9 hPa h3⟩, tr_Run h0 h9 hPa l s1 s' h4⟩
theorem tr_Ok (h0 : ∀ n f g, F n 0 f g ↔ F' n 0 f g) (h9 : ∀ n p f g, K n = 9 → p = 1 ∨ p = 2 → (F n p f g ↔ F' n p f g)) (hPa : ∀ n, K n = 10 → K (Pa n) = 9) {N : Nat} (hb : bOk (K, L, W, F, E, Pa, Ca, Ow, En, Le, Bg) N) : bOk (K, L, W, F', E, Pa, Ca, Ow, En, Le, Bg) N := by
  obtain ⟨b1, b2, b3, b4, b5, b6, b7, b8, b9, b10, b11⟩ := hb
  refine ⟨b1, ?_, ?_, b4, b5, b6, b7, b8, b9, ?_, b11⟩
  · intro n d f hn hd hf h10 hp hq
    obtain ⟨z1, z2⟩ := b2 n d f hn hd hf h10 hp hq
    rw [tr_PE h0] at z2
    exact ⟨z1, z2⟩
  · intro n d f hn hd hf h10 hp hq
    have z := b3 n d f hn hd hf h10 hp hq
    rw [tr_PA h0, tr_PT h9 (hPa n h10)] at z
    exact z
  · intro n f hn hf hk hw hno
    have z := b10 n f hn hf hk hw hno
    rw [tr_PC h9] at z
    exact z
end
def nF (w : qq_w) (N : Nat) : Nat → Nat → Nat → Nat → Prop := fun n p f g => n < N ∧ f < 13 ∧ g < 13 ∧ bt (w.1 19 (39 * n + 13 * p + f)) g = true
theorem bd_eq {w : qq_w} {v : Nat → Nat → Int64} {N Pn E : Nat} (H : iPrg w N Pn E) (h0 : 0 < Pn) (hL : ∀ n d f, n < N → d < 13 → f < 13 → lu (v 59 (169 * n + 13 * d + f)) = lu (w.2 33 (169 * n + 13 * d + f))) (hW : ∀ n f, n < N → f < 13 → lu (v 60 (13 * n + f)) = lu (w.2 24 (13 * n + f))) : cBD w N Pn = (bK (mBD (w.1, v) N), bL (mBD (w.1, v) N), bW (mBD (w.1, v) N), nF w N, bE (mBD (w.1, v) N), bPa (mBD (w.1, v) N), bCa (mBD (w.1, v) N), bOw (mBD (w.1, v) N), bEn (mBD (w.1, v) N), bLe (mBD (w.1, v) N), bBg (mBD (w.1, v) N)) := by
  have hN : N ≤ 64 := H.1.1
  have hP8 : Pn ≤ 8 := H.1.2.1
  have cK : (fun n => if n < N then cX w n 1 else 0) = bK (mBD (w.1, v) N) := by
    funext n
    show _ = if n < N then w.1 43 n else 0
    split
    · rename_i hn
      rw [(iP_tell H hn).2.1]
    · rfl
  have cL : (fun n d f => if n < N ∧ d < 13 ∧ f < 13 then lu (w.2 33 (169 * n + 13 * d + f)) else 10000000000000) = bL (mBD (w.1, v) N) := by
    funext n d f
    show _ = if n < N ∧ d < 13 ∧ f < 13 then lu (v 59 (169 * n + 13 * d + f)) else 10000000000000
    split
    · rename_i hn
      rw [hL n d f hn.1 hn.2.1 hn.2.2]
    · rfl
  have cW : (fun n f => if n < N ∧ f < 13 then lu (w.2 24 (13 * n + f)) else 10000000000000) = bW (mBD (w.1, v) N) := by
    funext n f
    show _ = if n < N ∧ f < 13 then lu (v 60 (13 * n + f)) else 10000000000000
    split
    · rename_i hn
      rw [hW n f hn.1 hn.2]
    · rfl
  have cE : (fun m n => m < N ∧ n < N ∧ lb (w.2 17 m) n = true) = bE (mBD (w.1, v) N) := by
    funext m n
    show _ = (m < N ∧ n < N ∧ ∃ k, k < qn (w.1 8 20) ∧ w.1 52 k = nI m ∧ w.1 53 k = nI n)
    rw [(iP_P H).2.2.2.2.2]
    refine propext ⟨fun ⟨h1, h2, h3⟩ => ⟨h1, h2, ((iP_edge H h1).mp h3).2⟩, fun ⟨h1, h2, h3⟩ => ⟨h1, h2, (iP_edge H h1).mpr ⟨h2, h3⟩⟩⟩
  have cPa : (fun n => if n < N ∧ cX w n 1 = 10 then qn (cX w n 9) else 0) = bPa (mBD (w.1, v) N) := by
    funext n
    show _ = if n < N ∧ w.1 43 n = 10 then qn (w.1 49 n) else 0
    by_cases hn : n < N
    · rw [(iP_tell H hn).2.1]
      by_cases h10 : cX w n 1 = 10
      · rw [if_pos ⟨hn, h10⟩, if_pos ⟨hn, h10⟩, (iP_tell H hn).2.2.2.2.2.2.2.2.2 h10]
      · rw [if_neg (fun z => h10 z.2), if_neg (fun z => h10 z.2)]
    · rw [if_neg (fun z => hn z.1), if_neg (fun z => hn z.1)]
  have cCa : (fun n => if n < N ∧ cX w n 1 = 9 then qn (cX w n 5) else 0) = bCa (mBD (w.1, v) N) := by
    funext n
    show _ = if n < N ∧ w.1 43 n = 9 then qn (w.1 47 n) else 0
    by_cases hn : n < N
    · rw [(iP_tell H hn).2.1, (iP_tell H hn).2.2.2.2.2.1]
    · rw [if_neg (fun z => hn z.1), if_neg (fun z => hn z.1)]
  have cOw : (fun n => if n < N then qn (cX w n 0) else 0) = bOw (mBD (w.1, v) N) := by
    funext n
    show _ = if n < N then qn (w.1 42 n) else 0
    split
    · rename_i hn
      rw [(iP_tell H hn).1]
    · rfl
  have cEn : (fun p => if p < Pn then qn (w.1 12 p) else 0) = bEn (mBD (w.1, v) N) := by
    funext p
    show _ = if p < qn (w.1 8 2) then qn (w.1 39 p) else 0
    rw [(iP_P H).2.1]
    split
    · rename_i hp
      obtain ⟨a, b, l, -, -, -, hl, g9, g37, g10, g38, g12, g39, -⟩ := H.2.2.1 p hp
      rw [g12, g39]
    · rfl
  have cLe : (fun p => if p < Pn then qn (w.1 12 p) + 1 else 0) = bLe (mBD (w.1, v) N) := by
    funext p
    show _ = if p < qn (w.1 8 2) then qn (w.1 40 p) else 0
    rw [(iP_P H).2.1]
    split
    · rename_i hp
      obtain ⟨a, b, l, -, -, -, hl, g9, g37, g10, g38, g12, g39, g40, -⟩ := H.2.2.1 p hp
      rw [g12, g40, qn_nI (by omega), qn_nI (by omega)]
    · rfl
  have cB : (fun f => f < 13 ∧ bt (cBegin w) f = true) = bBg (mBD (w.1, v) N) := by
    funext f
    show _ = (f < 13 ∧ bt (mBegin w) f = true)
    rw [(bg_eq H h0).1]
  show (_, _, _, _, _, _, _, _, _, _, _) = _
  rw [cK, cL, cW, cE, cPa, cCa, cOw, cEn, cLe, cB]
  rfl
theorem nF_0 {w : qq_w} {v : Nat → Nat → Int64} {N : Nat} (hS : iSt w N) (n f g : Nat) : nF w N n 0 f g ↔ bF (mBD (w.1, v) N) n 0 f g := by
  constructor
  · rintro ⟨h1, h2, h3, h4⟩
    exact ⟨h1, h2, h3, (hS n 0 f g h1 (by decide) (Or.inl rfl) h2).mp h4⟩
  · rintro ⟨h1, h2, h3, h4⟩
    exact ⟨h1, h2, h3, (hS n 0 f g h1 (by decide) (Or.inl rfl) h2).mpr h4⟩
theorem nF_9 {w : qq_w} {v : Nat → Nat → Int64} {N Pn E : Nat} (H : iPrg w N Pn E) (hS : iSt w N) (n p f g : Nat) (hk : bK (mBD (w.1, v) N) n = 9) (hp : p = 1 ∨ p = 2) : nF w N n p f g ↔ bF (mBD (w.1, v) N) n p f g := by
  have hk : (if n < N then w.1 43 n else 0) = 9 := hk
  have h9 : n < N → cX w n 1 = 9 := fun hn => by
    rw [if_pos hn, (iP_tell H hn).2.1] at hk
    exact hk
  constructor
  · rintro ⟨h1, h2, h3, h4⟩
    exact ⟨h1, h2, h3, (hS n p f g h1 (by omega) (Or.inr (h9 h1)) h2).mp h4⟩
  · rintro ⟨h1, h2, h3, h4⟩
    exact ⟨h1, h2, h3, (hS n p f g h1 (by omega) (Or.inr (h9 h1)) h2).mpr h4⟩
theorem bK_10 {w : qq_w} {N n : Nat} (h : bK (mBD w N) n = 10) : n < N := by
  have h : (if n < N then w.1 43 n else 0) = 10 := h
  by_cases z : n < N
  · exact z
  · rw [if_neg z] at h
    exact absurd h (by decide)
/-- the class's picture and the reference's: the same tracks -/
theorem bd_tr {w : qq_w} {v : Nat → Nat → Int64} {N Pn E : Nat} (H : iPrg w N Pn E) (h0 : 0 < Pn) (hS : iSt w N) (hL : ∀ n d f, n < N → d < 13 → f < 13 → lu (v 59 (169 * n + 13 * d + f)) = lu (w.2 33 (169 * n + 13 * d + f))) (hW : ∀ n f, n < N → f < 13 → lu (v 60 (13 * n + f)) = lu (w.2 24 (13 * n + f))) (hb : bOk (mBD (w.1, v) N) N) : bOk (cBD w N Pn) N ∧ (∀ l s s', bRun (cBD w N Pn) l s s' ↔ bRun (mBD (w.1, v) N) l s s') ∧ bW (cBD w N Pn) = bW (mBD (w.1, v) N) ∧ (∀ n f d, bOut (cBD w N Pn) n f d ↔ bOut (mBD (w.1, v) N) n f d) := by
  have hPa : ∀ n, bK (mBD (w.1, v) N) n = 10 → bK (mBD (w.1, v) N) (bPa (mBD (w.1, v) N) n) = 9 := fun n h => (hb.2.2.2.2.1 n (bK_10 h) h).2.2
  have e := bd_eq H h0 hL hW
  rw [e]
  refine ⟨tr_Ok (F := bF (mBD (w.1, v) N)) (fun n f g => (nF_0 hS n f g).symm) (fun n p f g hk hp => (nF_9 H hS n p f g hk hp).symm) hPa hb, fun l s s' => ⟨?_, ?_⟩, rfl, fun n f d => Iff.rfl⟩
  · exact tr_Run (F' := bF (mBD (w.1, v) N)) (nF_0 hS) (nF_9 H hS) hPa l s s'
  · exact tr_Run (F := bF (mBD (w.1, v) N)) (fun n f g => (nF_0 hS n f g).symm) (fun n p f g hk hp => (nF_9 H hS n p f g hk hp).symm) hPa l s s'
