/-! THE CALLS: call -/
def rowC (o cal res rom : Int32) (N j : Nat) : Int32 := if j = 0 then o else if j = 1 then 9 else if j = 5 then cal else if j = 6 then res else if j = 7 then nI (N + 1) else if j = 8 then rom else -5
def rowR (o : Int32) (N j : Nat) : Int32 := if j = 0 then o else if j = 1 then 10 else if j = 9 then nI N else -5
theorem prg_call {w w2 : qq_w} {N Pn E p p' m : Nat} {res : Int32} (H : iPrg w N Pn E) (hN : N + 2 ≤ 64) (hp : p < Pn) (hp' : p' < Pn) (hm : m ≤ 4) (hres : iVarO w p res)
    (e13 : ∀ i j, j < 10 → w2.1 13 (10 * i + j) = if i = N then rowC (nI p) (nI p') res (nI m) N j else if i = N + 1 then rowR (nI p) N j else w.1 13 (10 * i + j)) (e42 : ∀ i, w2.1 42 i = if i = N + 1 then nI p else if i = N then nI p else w.1 42 i) (e43 : ∀ i, w2.1 43 i = if i = N + 1 then 10 else if i = N then 9 else w.1 43 i) (e44 : ∀ i, w2.1 44 i = if i = N + 1 then -5 else if i = N then -5 else w.1 44 i) (e45 : ∀ i, w2.1 45 i = if i = N + 1 then -5 else if i = N then -5 else w.1 45 i) (e46 : ∀ i, w2.1 46 i = if i = N + 1 then -5 else if i = N then -5 else w.1 46 i) (e47 : ∀ i, w2.1 47 i = if i = N then nI p' else if i = N + 1 then -5 else w.1 47 i) (e48 : ∀ i, w2.1 48 i = if i = N then res else if i = N + 1 then -5 else w.1 48 i) (e49 : ∀ i, w2.1 49 i = if i = N + 1 then nI N else if i = N then nI (N + 1) else w.1 49 i) (e50 : ∀ i, w2.1 50 i = if i = N then nI m else if i = N + 1 then -5 else w.1 50 i)
    (e14 : ∀ j, w2.1 14 j = if 4 * N ≤ j ∧ j < 4 * N + 4 then -5 else w.1 14 j) (e51 : ∀ j, w2.1 51 j = if 4 * N ≤ j ∧ j < 4 * N + 4 then -5 else w.1 51 j)
    (hq : ∀ q, q ∈ pgI → q ∉ [1, 13, 14, 42, 43, 44, 45, 46, 47, 48, 49, 50, 51] → w2.1 q = w.1 q) (h17 : w2.2 17 = w.2 17) (f1 : ∀ j, j ∈ [9, 11] → w2.1 1 j = w.1 1 j) (f12 : w2.1 1 12 = w.1 1 12 + 1) (f10 : w2.1 1 10 = nI (N + 2)) (f88 : w2.1 8 8 = nI (N + 2)) (f89 : w2.1 8 9 = w.1 8 9 + 1) (h8 : ∀ j, j ∈ pg8 → j ≠ 8 → j ≠ 9 → w2.1 8 j = w.1 8 j) : iPrg w2 (N + 2) Pn E := by
  obtain ⟨hN', hP', hE, e10, e88, e9, e82, e11, e820, e12⟩ := id H.1
  have hx : extP w w2 N Pn := by
    refine ⟨fun i j hi hj => ?_, fun q hq' i hi => ?_, fun q hq' p' hp' => ?_, fun q hq' i hi => ?_⟩
    · rw [e13 i j hj, if_neg (by omega), if_neg (by omega)]
    · simp only [List.mem_cons, List.not_mem_nil, or_false] at hq'
      rcases hq' with rfl | rfl | rfl | rfl | rfl | rfl | rfl | rfl | rfl
      · rw [e42, if_neg (by omega), if_neg (by omega)]
      · rw [e43, if_neg (by omega), if_neg (by omega)]
      · rw [e44, if_neg (by omega), if_neg (by omega)]
      · rw [e45, if_neg (by omega), if_neg (by omega)]
      · rw [e46, if_neg (by omega), if_neg (by omega)]
      · rw [e47, if_neg (by omega), if_neg (by omega)]
      · rw [e48, if_neg (by omega), if_neg (by omega)]
      · rw [e49, if_neg (by omega), if_neg (by omega)]
      · rw [e50, if_neg (by omega), if_neg (by omega)]
    · rw [hq q (by revert hq'; revert q; decide) (by revert hq'; revert q; decide)]
    · simp only [List.mem_cons, List.not_mem_nil, or_false] at hq'
      rcases hq' with rfl | rfl
      · rw [e14, if_neg (by omega)]
      · rw [e51, if_neg (by omega)]
  have hq2 : ∀ q, q ∈ [2, 15, 16, 18, 52, 53, 54] → w2.1 q = w.1 q := fun q hq' => hq q (by revert hq'; revert q; decide) (by revert hq'; revert q; decide)
  have cC : ∀ j, j < 10 → cX w2 N j = rowC (nI p) (nI p') res (nI m) N j := fun j hj => by
    have := e13 N j hj
    rw [if_pos rfl] at this
    exact this
  have cR : ∀ j, j < 10 → cX w2 (N + 1) j = rowR (nI p) N j := fun j hj => by
    have := e13 (N + 1) j hj
    rw [if_neg (by omega), if_pos rfl] at this
    exact this
  have vO := fun v => ext_varO (v := v) hx hp
  have t43 : w2.1 43 N = 9 := by rw [e43, if_neg (by omega), if_pos rfl]
  have t43' : w2.1 43 (N + 1) = 10 := by rw [e43, if_pos rfl]
  refine ext_prg H hx (by omega) (Nat.le_refl _) (by omega) hP' hq2 h17 f10 f88 (by rw [f1 9 (by decide)]; exact e9) (by rw [h8 2 (by decide) (by decide) (by decide)]; exact e82) (f1 11 (by decide)) (h8 20 (by decide) (by decide) (by decide)) (by rw [f89, f12, e12]) (h8 23 (by decide) (by decide) (by decide)) (h8 25 (by decide) (by decide) (by decide)) (fun i hi1 hi2 => ?_) (fun p' h1 h2 => by omega)
  by_cases hi : i = N
  · subst hi
    refine ⟨fun j hj => ?_, p, 9, hp, by omega, cC 0 (by decide), cC 1 (by decide), ⟨fun z => by omega, fun z => by omega⟩, ⟨fun z => by omega, fun _ => cC 2 (by decide)⟩, ⟨fun z => by omega, fun _ => cC 3 (by decide)⟩, ⟨fun z => by omega, fun _ => cC 4 (by decide)⟩, ⟨fun _ => ?_, fun z => absurd rfl z⟩, ⟨fun z => by omega, fun _ => cC 9 (by decide)⟩⟩
    · rw [cC j hj]
      rcases (show j = 0 ∨ j = 1 ∨ j = 2 ∨ j = 3 ∨ j = 4 ∨ j = 5 ∨ j = 6 ∨ j = 7 ∨ j = 8 ∨ j = 9 by omega) with rfl | rfl | rfl | rfl | rfl | rfl | rfl | rfl | rfl | rfl
      · show w2.1 42 i = nI p
        rw [e42, if_neg (by omega), if_pos rfl]
      · show w2.1 43 i = 9
        exact t43
      · show w2.1 44 i = -5
        rw [e44, if_neg (by omega), if_pos rfl]
      · show w2.1 45 i = -5
        rw [e45, if_neg (by omega), if_pos rfl]
      · show w2.1 46 i = -5
        rw [e46, if_neg (by omega), if_pos rfl]
      · show w2.1 47 i = nI p'
        rw [e47, if_pos rfl]
      · show w2.1 48 i = res
        rw [e48, if_pos rfl]
      · show (if w2.1 43 i = 9 then w2.1 49 i else -5) = nI (i + 1)
        rw [t43, if_pos rfl, e49, if_neg (by omega), if_pos rfl]
      · show w2.1 50 i = nI m
        rw [e50, if_pos rfl]
      · show (if w2.1 43 i = 10 then w2.1 49 i else -5) = -5
        rw [t43, if_neg (by decide)]
    · refine ⟨p', i + 1, m, hp', by omega, hm, cC 5 (by decide), ?_, cC 7 (by decide), cR 1 (by decide), cR 0 (by decide), cR 9 (by decide), cC 8 (by decide), fun j hj => ?_⟩
      · rw [cC 6 (by decide), vO]
        exact hres
      · rw [e14, e51, if_pos (by omega), if_pos (by omega)]
        exact ⟨Or.inl rfl, rfl⟩
  · obtain rfl : i = N + 1 := by omega
    refine ⟨fun j hj => ?_, p, 10, hp, by omega, cR 0 (by decide), cR 1 (by decide), ⟨fun z => by omega, fun z => by omega⟩, ⟨fun z => by omega, fun _ => cR 2 (by decide)⟩, ⟨fun z => by omega, fun _ => cR 3 (by decide)⟩, ⟨fun z => by omega, fun _ => cR 4 (by decide)⟩, ⟨fun z => by omega, fun _ => ⟨cR 5 (by decide), cR 6 (by decide), cR 7 (by decide), cR 8 (by decide)⟩⟩, ⟨fun _ => ⟨N, by omega, cR 9 (by decide), cC 1 (by decide), cC 7 (by decide), cC 0 (by decide)⟩, fun z => absurd rfl z⟩⟩
    rw [cR j hj]
    rcases (show j = 0 ∨ j = 1 ∨ j = 2 ∨ j = 3 ∨ j = 4 ∨ j = 5 ∨ j = 6 ∨ j = 7 ∨ j = 8 ∨ j = 9 by omega) with rfl | rfl | rfl | rfl | rfl | rfl | rfl | rfl | rfl | rfl
    · show w2.1 42 (N + 1) = nI p
      rw [e42, if_pos rfl]
    · show w2.1 43 (N + 1) = 10
      exact t43'
    · show w2.1 44 (N + 1) = -5
      rw [e44, if_pos rfl]
    · show w2.1 45 (N + 1) = -5
      rw [e45, if_pos rfl]
    · show w2.1 46 (N + 1) = -5
      rw [e46, if_pos rfl]
    · show w2.1 47 (N + 1) = -5
      rw [e47, if_neg (by omega), if_pos rfl]
    · show w2.1 48 (N + 1) = -5
      rw [e48, if_neg (by omega), if_pos rfl]
    · show (if w2.1 43 (N + 1) = 9 then w2.1 49 (N + 1) else -5) = -5
      rw [t43', if_neg (by decide)]
    · show w2.1 50 (N + 1) = -5
      rw [e50, if_neg (by omega), if_pos rfl]
    · show (if w2.1 43 (N + 1) = 10 then w2.1 49 (N + 1) else -5) = nI N
      rw [t43', if_pos rfl, e49, if_pos rfl]
