/-! THE CALLS: procedure -/
def rowE (o k : Int32) (j : Nat) : Int32 := if j = 0 then o else if j = 1 then k else -5
theorem prg_proc {w w2 : qq_w} {N Pn E a b : Nat} (H : iPrg w N Pn E) (hN : N + 2 ≤ 64) (hP : Pn < 8) (ha : a ≤ 8) (hb : b ≤ 4) (hba : b ≤ a)
    (e13 : ∀ i j, j < 10 → w2.1 13 (10 * i + j) = if i = N + 1 then rowE (nI Pn) 1 j else if i = N then rowE (nI Pn) 0 j else w.1 13 (10 * i + j)) (e42 : ∀ i, w2.1 42 i = if i = N + 1 then nI Pn else if i = N then nI Pn else w.1 42 i) (e43 : ∀ i, w2.1 43 i = if i = N + 1 then 1 else if i = N then 0 else w.1 43 i) (e44 : ∀ i, w2.1 44 i = if i = N + 1 then -5 else if i = N then -5 else w.1 44 i) (e45 : ∀ i, w2.1 45 i = if i = N + 1 then -5 else if i = N then -5 else w.1 45 i) (e46 : ∀ i, w2.1 46 i = if i = N + 1 then -5 else if i = N then -5 else w.1 46 i) (e47 : ∀ i, w2.1 47 i = if i = N + 1 then -5 else if i = N then -5 else w.1 47 i) (e48 : ∀ i, w2.1 48 i = if i = N + 1 then -5 else if i = N then -5 else w.1 48 i) (e49 : ∀ i, w2.1 49 i = if i = N + 1 then -5 else if i = N then -5 else w.1 49 i) (e50 : ∀ i, w2.1 50 i = if i = N + 1 then -5 else if i = N then -5 else w.1 50 i)
    (p9 : ∀ p, w2.1 9 p = if p = Pn then nI a else w.1 9 p) (p10 : ∀ p, w2.1 10 p = if p = Pn then nI b else w.1 10 p) (p11 : ∀ p, w2.1 11 p = if p = Pn then -5 else w.1 11 p) (p12 : ∀ p, w2.1 12 p = if p = Pn then nI N else w.1 12 p) (p37 : ∀ p, w2.1 37 p = if p = Pn then nI a else w.1 37 p) (p38 : ∀ p, w2.1 38 p = if p = Pn then nI b else w.1 38 p) (p39 : ∀ p, w2.1 39 p = if p = Pn then nI N else w.1 39 p) (p40 : ∀ p, w2.1 40 p = if p = Pn then nI (N + 1) else w.1 40 p) (p41 : ∀ p, w2.1 41 p = if p = Pn then -5 else w.1 41 p)
    (hq : ∀ q, q ∈ [2, 14, 15, 16, 18, 51, 52, 53, 54] → w2.1 q = w.1 q) (h17 : w2.2 17 = w.2 17) (f1 : ∀ j, j ∈ [11, 12] → w2.1 1 j = w.1 1 j) (f9 : w2.1 1 9 = nI (Pn + 1)) (f10 : w2.1 1 10 = nI (N + 2)) (f88 : w2.1 8 8 = nI (N + 2)) (f82 : w2.1 8 2 = nI (Pn + 1)) (h8 : ∀ j, j ∈ [9, 20, 23, 25] → w2.1 8 j = w.1 8 j) : iPrg w2 (N + 2) (Pn + 1) E := by
  obtain ⟨hN', hP', hE, e10, e88, e9, e82, e11, e820, e12⟩ := id H.1
  have hx : extP w w2 N Pn := by
    refine ⟨fun i j hi hj => ?_, fun q hq' i hi => ?_, fun q hq' p' hp' => ?_, fun q hq' i hi => ?_⟩
    · rw [e13 i j hj, if_neg (by omega), if_neg (by omega)]
    · simp only [List.mem_cons, List.not_mem_nil, or_false] at hq'
      rcases hq' with rfl | rfl | rfl | rfl | rfl | rfl | rfl | rfl | rfl
      · rw [e42, if_neg (by omega), if_neg (by omega)]
      · rw [e43, if_neg (by omega), if_neg (by omega)]
      · rw [e44, if_neg (by omega), if_neg (by omega)]
      · rw [e45, if_neg (by omega), if_neg (by omega)]
      · rw [e46, if_neg (by omega), if_neg (by omega)]
      · rw [e47, if_neg (by omega), if_neg (by omega)]
      · rw [e48, if_neg (by omega), if_neg (by omega)]
      · rw [e49, if_neg (by omega), if_neg (by omega)]
      · rw [e50, if_neg (by omega), if_neg (by omega)]
    · simp only [List.mem_cons, List.not_mem_nil, or_false] at hq'
      rcases hq' with rfl | rfl | rfl | rfl | rfl | rfl | rfl | rfl | rfl
      · rw [p9, if_neg (by omega)]
      · rw [p10, if_neg (by omega)]
      · rw [p11, if_neg (by omega)]
      · rw [p12, if_neg (by omega)]
      · rw [p37, if_neg (by omega)]
      · rw [p38, if_neg (by omega)]
      · rw [p39, if_neg (by omega)]
      · rw [p40, if_neg (by omega)]
      · rw [p41, if_neg (by omega)]
    · rw [hq q (by revert hq'; revert q; decide)]
  have cE : ∀ j, j < 10 → cX w2 N j = rowE (nI Pn) 0 j := fun j hj => by
    have := e13 N j hj
    rw [if_neg (by omega), if_pos rfl] at this
    exact this
  have cL : ∀ j, j < 10 → cX w2 (N + 1) j = rowE (nI Pn) 1 j := fun j hj => by
    have := e13 (N + 1) j hj
    rw [if_pos rfl] at this
    exact this
  have g12 : w2.1 12 Pn = nI N := by rw [p12, if_pos rfl]
  refine ext_prg H hx (by omega) (by omega) (by omega) (by omega) (fun q hq' => hq q (by revert hq'; revert q; decide)) h17 f10 f88 f9 f82 (f1 11 (by decide)) (h8 20 (by decide)) (by rw [h8 9 (by decide), f1 12 (by decide)]; exact e12) (h8 23 (by decide)) (h8 25 (by decide)) (fun i hi1 hi2 => ?_) (fun p' h1 h2 => ?_)
  · by_cases hi : i = N
    · subst hi
      refine ⟨fun j hj => ?_, Pn, 0, by omega, by omega, cE 0 (by decide), cE 1 (by decide), ⟨fun _ => g12, fun z => by omega⟩, ⟨fun z => by omega, fun _ => cE 2 (by decide)⟩, ⟨fun z => by omega, fun _ => cE 3 (by decide)⟩, ⟨fun z => by omega, fun _ => cE 4 (by decide)⟩, ⟨fun z => by omega, fun _ => ⟨cE 5 (by decide), cE 6 (by decide), cE 7 (by decide), cE 8 (by decide)⟩⟩, ⟨fun z => by omega, fun _ => cE 9 (by decide)⟩⟩
      rw [cE j hj]
      rcases (show j = 0 ∨ j = 1 ∨ j = 2 ∨ j = 3 ∨ j = 4 ∨ j = 5 ∨ j = 6 ∨ j = 7 ∨ j = 8 ∨ j = 9 by omega) with rfl | rfl | rfl | rfl | rfl | rfl | rfl | rfl | rfl | rfl
      · show w2.1 42 i = nI Pn
        rw [e42, if_neg (by omega), if_pos rfl]
      · show w2.1 43 i = 0
        rw [e43, if_neg (by omega), if_pos rfl]
      · show w2.1 44 i = -5
        rw [e44, if_neg (by omega), if_pos rfl]
      · show w2.1 45 i = -5
        rw [e45, if_neg (by omega), if_pos rfl]
      · show w2.1 46 i = -5
        rw [e46, if_neg (by omega), if_pos rfl]
      · show w2.1 47 i = -5
        rw [e47, if_neg (by omega), if_pos rfl]
      · show w2.1 48 i = -5
        rw [e48, if_neg (by omega), if_pos rfl]
      · show (if w2.1 43 i = 9 then w2.1 49 i else -5) = -5
        rw [show w2.1 43 i = 0 by rw [e43, if_neg (by omega), if_pos rfl], if_neg (by decide)]
      · show w2.1 50 i = -5
        rw [e50, if_neg (by omega), if_pos rfl]
      · show (if w2.1 43 i = 10 then w2.1 49 i else -5) = -5
        rw [show w2.1 43 i = 0 by rw [e43, if_neg (by omega), if_pos rfl], if_neg (by decide)]
    · obtain rfl : i = N + 1 := by omega
      refine ⟨fun j hj => ?_, Pn, 1, by omega, by omega, cL 0 (by decide), cL 1 (by decide), ⟨fun z => by omega, fun _ => ⟨N, rfl, g12⟩⟩, ⟨fun z => by omega, fun _ => cL 2 (by decide)⟩, ⟨fun z => by omega, fun _ => cL 3 (by decide)⟩, ⟨fun z => by omega, fun _ => cL 4 (by decide)⟩, ⟨fun z => by omega, fun _ => ⟨cL 5 (by decide), cL 6 (by decide), cL 7 (by decide), cL 8 (by decide)⟩⟩, ⟨fun z => by omega, fun _ => cL 9 (by decide)⟩⟩
      rw [cL j hj]
      rcases (show j = 0 ∨ j = 1 ∨ j = 2 ∨ j = 3 ∨ j = 4 ∨ j = 5 ∨ j = 6 ∨ j = 7 ∨ j = 8 ∨ j = 9 by omega) with rfl | rfl | rfl | rfl | rfl | rfl | rfl | rfl | rfl | rfl
      · show w2.1 42 (N + 1) = nI Pn
        rw [e42, if_pos rfl]
      · show w2.1 43 (N + 1) = 1
        rw [e43, if_pos rfl]
      · show w2.1 44 (N + 1) = -5
        rw [e44, if_pos rfl]
      · show w2.1 45 (N + 1) = -5
        rw [e45, if_pos rfl]
      · show w2.1 46 (N + 1) = -5
        rw [e46, if_pos rfl]
      · show w2.1 47 (N + 1) = -5
        rw [e47, if_pos rfl]
      · show w2.1 48 (N + 1) = -5
        rw [e48, if_pos rfl]
      · show (if w2.1 43 (N + 1) = 9 then w2.1 49 (N + 1) else -5) = -5
        rw [show w2.1 43 (N + 1) = 1 by rw [e43, if_pos rfl], if_neg (by decide)]
      · show w2.1 50 (N + 1) = -5
        rw [e50, if_pos rfl]
      · show (if w2.1 43 (N + 1) = 10 then w2.1 49 (N + 1) else -5) = -5
        rw [show w2.1 43 (N + 1) = 1 by rw [e43, if_pos rfl], if_neg (by decide)]
  · obtain rfl : p' = Pn := by omega
    refine ⟨a, b, N, ha, hb, hba, by omega, ?_⟩
    rw [p9, p37, p10, p38, p12, p39, p40, p41, p11]
    simp only [if_true]
    exact ⟨trivial, trivial, trivial, trivial, trivial, trivial, trivial, cE 0 (by decide), cE 1 (by decide), cL 0 (by decide), cL 1 (by decide), trivial, Or.inl trivial⟩
