/-! a program that grows -/
def extP (w w2 : qq_w) (N Pn : Nat) : Prop := (∀ i j, i < N → j < 10 → w2.1 13 (10 * i + j) = w.1 13 (10 * i + j)) ∧ (∀ q, q ∈ [42, 43, 44, 45, 46, 47, 48, 49, 50] → ∀ i, i < N → w2.1 q i = w.1 q i) ∧ (∀ q, q ∈ [9, 10, 11, 12, 37, 38, 39, 40, 41] → ∀ p, p < Pn → w2.1 q p = w.1 q p) ∧ ∀ q, q ∈ [14, 51] → ∀ i, i < 4 * N → w2.1 q i = w.1 q i
theorem ext_tell {w w2 : qq_w} {N Pn i j : Nat} (h : extP w w2 N Pn) (hi : i < N) : mTell w2 i j = mTell w i j := by
  unfold mTell
  rw [h.2.1 42 (by decide) i hi, h.2.1 43 (by decide) i hi, h.2.1 44 (by decide) i hi, h.2.1 45 (by decide) i hi, h.2.1 46 (by decide) i hi, h.2.1 47 (by decide) i hi, h.2.1 48 (by decide) i hi, h.2.1 49 (by decide) i hi, h.2.1 50 (by decide) i hi]
theorem ext_var {w w2 : qq_w} {N Pn p : Nat} {v : Int32} (h : extP w w2 N Pn) (hp : p < Pn) : iVar w2 p v ↔ iVar w p v := by
  unfold iVar
  rw [h.2.2.1 9 (by decide) p hp]
theorem ext_varO {w w2 : qq_w} {N Pn p : Nat} {v : Int32} (h : extP w w2 N Pn) (hp : p < Pn) : iVarO w2 p v ↔ iVarO w p v := by
  unfold iVarO
  rw [ext_var h hp]
theorem ext_node {w w2 : qq_w} {N N' Pn Pn' i : Nat} (h : extP w w2 N Pn) (hN : N ≤ N') (hP : Pn ≤ Pn') (hi : i < N) (H : iNode w N Pn i) : iNode w2 N' Pn' i := by
  obtain ⟨h1, p, k, hp, hk, e0, e1, ⟨K1, K1'⟩, ⟨K2, K2'⟩, ⟨K3, K3'⟩, ⟨K4, K4'⟩, ⟨K5, K5'⟩, ⟨K6, K6'⟩⟩ := H
  have x : ∀ m j, m < N → j < 10 → cX w2 m j = cX w m j := h.1
  have v := fun v => ext_var (v := v) h hp
  have vO := fun v => ext_varO (v := v) h hp
  have e12 := h.2.2.1 12 (by decide) p hp
  refine ⟨fun j hj => by rw [ext_tell h hi, x i j hi hj]; exact h1 j hj, p, k, by omega, hk, by rw [x i 0 hi (by decide)]; exact e0, by rw [x i 1 hi (by decide)]; exact e1, ⟨by rw [e12]; exact K1, by rw [e12]; exact K1'⟩, ⟨by rw [x i 2 hi (by decide), v]; exact K2, by rw [x i 2 hi (by decide)]; exact K2'⟩, ⟨by rw [x i 3 hi (by decide), v]; exact K3, by rw [x i 3 hi (by decide)]; exact K3'⟩, ⟨by rw [x i 4 hi (by decide), v]; exact K4, by rw [x i 4 hi (by decide)]; exact K4'⟩, ⟨fun z => ?_, fun z => ?_⟩, ⟨fun z => ?_, fun z => ?_⟩⟩
  · obtain ⟨p', r, m, hp', hr, hm, e5, v6, e7, r1, r0, r9, e8, ha⟩ := K5 z
    refine ⟨p', r, m, by omega, by omega, hm, by rw [x i 5 hi (by decide)]; exact e5, by rw [x i 6 hi (by decide), vO]; exact v6, by rw [x i 7 hi (by decide)]; exact e7, by rw [x r 1 hr (by decide)]; exact r1, by rw [x r 0 hr (by decide)]; exact r0, by rw [x r 9 hr (by decide)]; exact r9, by rw [x i 8 hi (by decide)]; exact e8, fun j hj => ?_⟩
    rw [h.2.2.2 14 (by decide) _ (by omega), h.2.2.2 51 (by decide) _ (by omega), vO]
    exact ha j hj
  · rw [x i 5 hi (by decide), x i 6 hi (by decide), x i 7 hi (by decide), x i 8 hi (by decide)]
    exact K5' z
  · obtain ⟨c, hc, c9, c1, c7, c0⟩ := K6 z
    exact ⟨c, by omega, by rw [x i 9 hi (by decide)]; exact c9, by rw [x c 1 hc (by decide)]; exact c1, by rw [x c 7 hc (by decide)]; exact c7, by rw [x c 0 hc (by decide)]; exact c0⟩
  · rw [x i 9 hi (by decide)]
    exact K6' z
theorem ext_proc {w w2 : qq_w} {N N' Pn p : Nat} (h : extP w w2 N Pn) (hN : N ≤ N') (hp : p < Pn) (H : iProc w N p) : iProc w2 N' p := by
  obtain ⟨a, b, l, ha, hb, hba, hl, g9, g37, g10, g38, g12, g39, g40, k0, k1, k2, k3, g41, ho⟩ := H
  have x : ∀ m j, m < N → j < 10 → cX w2 m j = cX w m j := h.1
  have c := fun q hq => h.2.2.1 q hq p hp
  refine ⟨a, b, l, ha, hb, hba, by omega, ?_⟩
  rw [c 9 (by decide), c 37 (by decide), c 10 (by decide), c 38 (by decide), c 12 (by decide), c 39 (by decide), c 40 (by decide), c 41 (by decide), c 11 (by decide), x l 0 (by omega) (by decide), x l 1 (by omega) (by decide), x (l + 1) 0 (by omega) (by decide), x (l + 1) 1 (by omega) (by decide)]
  exact ⟨g9, g37, g10, g38, g12, g39, g40, k0, k1, k2, k3, g41, ho⟩
theorem ext_prg {w w2 : qq_w} {N N' Pn Pn' E : Nat} (H : iPrg w N Pn E) (h : extP w w2 N Pn) (hN : N ≤ N') (hP : Pn ≤ Pn') (hN' : N' ≤ 64) (hP' : Pn' ≤ 8) (hq : ∀ q, q ∈ [2, 15, 16, 18, 52, 53, 54] → w2.1 q = w.1 q) (h17 : w2.2 17 = w.2 17) (e10 : w2.1 1 10 = nI N') (e88 : w2.1 8 8 = nI N') (e9 : w2.1 1 9 = nI Pn') (e82 : w2.1 8 2 = nI Pn') (e11 : w2.1 1 11 = w.1 1 11) (e820 : w2.1 8 20 = w.1 8 20) (e12 : w2.1 8 9 = w2.1 1 12) (e23 : w2.1 8 23 = w.1 8 23) (e25 : w2.1 8 25 = w.1 8 25) (hn : ∀ i, N ≤ i → i < N' → iNode w2 N' Pn' i) (hp : ∀ p, Pn ≤ p → p < Pn' → iProc w2 N' p) : iPrg w2 N' Pn' E := by
  obtain ⟨⟨-, -, hE, -, -, -, -, f11, f820, -⟩, a2, a3, a4, a5, a6, a7⟩ := H
  have x : ∀ m j, m < N → j < 10 → cX w2 m j = cX w m j := h.1
  refine ⟨⟨hN', hP', hE, e10, e88, e9, e82, by rw [e11]; exact f11, by rw [e820]; exact f820, e12⟩, fun n hn' => ?_, fun p hp' => ?_, fun k hk => ?_, ?_, ?_, ?_⟩
  · rcases Nat.lt_or_ge n N with z | z
    · exact ext_node h hN hP z (a2 n z)
    · exact hn n z hn'
  · rcases Nat.lt_or_ge p Pn with z | z
    · exact ext_proc h hN z (a3 p z)
    · exact hp p z hp'
  · obtain ⟨a, b, ha, hb, e1, e2, e3, e4, e0, y1, y2, y3, y4⟩ := a4 k hk
    refine ⟨a, b, by omega, by omega, ?_⟩
    rw [hq 15 (by decide), hq 16 (by decide), hq 52 (by decide), hq 53 (by decide), x a 0 ha (by decide), x b 0 hb (by decide), x a 1 ha (by decide), x b 1 hb (by decide)]
    exact ⟨e1, e2, e3, e4, e0, y1, y2, y3, y4⟩
  · unfold iLead
    rw [h17, hq 15 (by decide), hq 16 (by decide)]
    exact a5
  · unfold iRows
    rw [hq 18 (by decide), hq 54 (by decide)]
    exact a6
  · unfold iCli
    rw [hq 2 (by decide), e23, e25]
    exact a7
