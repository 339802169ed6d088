/-! THE RELATION between the class's part of the world and the reference's -/
def iVar (w : qq_w) (p : Nat) (v : Int32) : Prop := ∃ x, 1 ≤ x ∧ x < 5 + qn (w.1 9 p) ∧ v = nI x
def iVarO (w : qq_w) (p : Nat) (v : Int32) : Prop := v = -5 ∨ iVar w p v
def iCall (w : qq_w) (N Pn n p : Nat) : Prop := ∃ p' r m, p' < Pn ∧ r < N ∧ m ≤ 4 ∧ cX w n 5 = nI p' ∧ iVarO w p (cX w n 6) ∧ cX w n 7 = nI r ∧ cX w r 1 = 10 ∧ cX w r 0 = nI p ∧ cX w r 9 = nI n ∧ cX w n 8 = nI m ∧ ∀ i, i < 4 → iVarO w p (w.1 14 (4 * n + i)) ∧ w.1 51 (4 * n + i) = w.1 14 (4 * n + i)
def iKind (w : qq_w) (N Pn n p k : Nat) : Prop :=
  ((k = 0 → w.1 12 p = nI n) ∧ (k = 1 → ∃ l, n = l + 1 ∧ w.1 12 p = nI l)) ∧
  ((3 ≤ k ∧ k ≤ 8 → iVar w p (cX w n 2)) ∧ (¬ (3 ≤ k ∧ k ≤ 8) → cX w n 2 = -5)) ∧
  ((k = 4 ∨ k = 5 → iVar w p (cX w n 3)) ∧ (¬ (k = 4 ∨ k = 5) → cX w n 3 = -5)) ∧
  ((k = 5 → iVar w p (cX w n 4)) ∧ (¬ k = 5 → cX w n 4 = -5)) ∧
  ((k = 9 → iCall w N Pn n p) ∧ (¬ k = 9 → cX w n 5 = -5 ∧ cX w n 6 = -5 ∧ cX w n 7 = -5 ∧ cX w n 8 = -5)) ∧
  ((k = 10 → ∃ c, c < N ∧ cX w n 9 = nI c ∧ cX w c 1 = 9 ∧ cX w c 7 = nI n ∧ cX w c 0 = nI p) ∧ (¬ k = 10 → cX w n 9 = -5))
def iNode (w : qq_w) (N Pn n : Nat) : Prop := (∀ j, j < 10 → mTell w n j = cX w n j) ∧ ∃ p k, p < Pn ∧ k < 11 ∧ cX w n 0 = nI p ∧ cX w n 1 = nI k ∧ iKind w N Pn n p k
def iProc (w : qq_w) (N p : Nat) : Prop := ∃ a b l, a ≤ 8 ∧ b ≤ 4 ∧ b ≤ a ∧ l + 1 < N ∧ w.1 9 p = nI a ∧ w.1 37 p = nI a ∧ w.1 10 p = nI b ∧ w.1 38 p = nI b ∧ w.1 12 p = nI l ∧ w.1 39 p = nI l ∧ w.1 40 p = nI (l + 1) ∧ cX w l 0 = nI p ∧ cX w l 1 = 0 ∧ cX w (l + 1) 0 = nI p ∧ cX w (l + 1) 1 = 1 ∧ w.1 41 p = w.1 11 p ∧ (w.1 11 p = -5 ∨ ∃ x, 5 ≤ x ∧ x < 5 + a ∧ w.1 11 p = nI x)
def iEdge (w : qq_w) (N k : Nat) : Prop := ∃ a b, a < N ∧ b < N ∧ w.1 15 k = nI a ∧ w.1 52 k = nI a ∧ w.1 16 k = nI b ∧ w.1 53 k = nI b ∧ cX w a 0 = cX w b 0 ∧ ¬ cX w a 1 = 1 ∧ ¬ cX w a 1 = 9 ∧ ¬ cX w b 1 = 0 ∧ ¬ cX w b 1 = 10
def iLead (w : qq_w) (E : Nat) : Prop := ∀ n t, n < 64 → (lb (w.2 17 n) t = true ↔ t < 64 ∧ ∃ k, k < E ∧ w.1 15 k = nI n ∧ w.1 16 k = nI t)
def iRow (c m : Int32) (z : Bool) : Prop := (c = -1 ∧ m = -5) ∨ ∃ b, b < 8192 ∧ m = nI b ∧ c = (if z = true then nI b ||| 1 else nI b)
def iRows (w : qq_w) : Prop := ∀ i, i < 2496 → iRow (w.1 18 i) (w.1 54 i) (decide (i % 13 = 0))
def iCnt (w : qq_w) (N Pn E : Nat) : Prop := N ≤ 64 ∧ Pn ≤ 8 ∧ E ≤ 120 ∧ w.1 1 10 = nI N ∧ w.1 8 8 = nI N ∧ w.1 1 9 = nI Pn ∧ w.1 8 2 = nI Pn ∧ w.1 1 11 = nI E ∧ w.1 8 20 = nI E ∧ w.1 8 9 = w.1 1 12
def iCli (w : qq_w) : Prop := (∃ c, c < 3 ∧ w.1 2 2 = nI c ∧ w.1 8 23 = nI c) ∧ ∃ b, b < 8192 ∧ w.1 2 3 = nI b ∧ w.1 8 25 = nI b
/-- the program, as both have it -/
def iPrg (w : qq_w) (N Pn E : Nat) : Prop := iCnt w N Pn E ∧ (∀ n, n < N → iNode w N Pn n) ∧ (∀ p, p < Pn → iProc w N p) ∧ (∀ k, k < E → iEdge w N k) ∧ iLead w E ∧ iRows w ∧ iCli w
def iFnd (w : qq_w) : Prop := w.1 8 0 = w.1 6 1 ∧ ∀ i, i < 6 → w.1 36 i = w.1 32 i
def iTrk (w : qq_w) : Prop := ∃ s, s ≤ 300 ∧ w.1 5 7 = nI s ∧ w.1 8 44 = nI s ∧ ∀ i, i < s → w.1 61 i = w.1 25 i ∧ w.1 62 i = w.1 26 i ∧ w.1 63 i = w.1 27 i ∧ w.1 64 i = w.1 28 i
