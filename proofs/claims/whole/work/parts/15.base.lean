/-! small things that many methods use -/
/-- an Int32's number -/
def qn (a : Int32) : Nat := a.toNatClampNeg
theorem qn_nI {i : Nat} (h : i < 2 ^ 31) : qn (nI i) = i := nI_clamp h
theorem qn_eq {a : Int32} {n : Nat} (h : vp_in a n) (hn : n < 2 ^ 31) : a = nI (qn a) ∧ qn a < n := by
  obtain ⟨j, hj, rfl⟩ := vp_in_of h hn
  rw [qn_nI (by omega)]
  exact ⟨rfl, hj⟩
theorem nI_lit (n : Nat) : (OfNat.ofNat n : Int32) = nI n := rfl
theorem i_lt {a b : Int32} : a < b ↔ a.toInt < b.toInt := Int32.lt_iff_toInt_lt
theorem i_le {a b : Int32} : a ≤ b ↔ a.toInt ≤ b.toInt := Int32.le_iff_toInt_le
