/-! what the program's cells alone say, stands in every world with the same program -/
def pgI : List Nat := [1, 2, 9, 10, 11, 12, 13, 14, 15, 16, 18, 37, 38, 39, 40, 41, 42, 43, 44, 45, 46, 47, 48, 49, 50, 51, 52, 53, 54]
def pg8 : List Nat := [2, 8, 9, 20, 23, 25]
def sPg (w w1 : qq_w) : Prop := (∀ q, q ∈ pgI → w1.1 q = w.1 q) ∧ (∀ j, j ∈ pg8 → w1.1 8 j = w.1 8 j) ∧ w1.2 17 = w.2 17
theorem sPg_rf {w : qq_w} : sPg w w := ⟨fun _ _ => rfl, fun _ _ => rfl, rfl⟩
theorem sPg_tr {w w1 w2 : qq_w} (h : sPg w w1) (h2 : sPg w1 w2) : sPg w w2 := ⟨fun q hq => (h2.1 q hq).trans (h.1 q hq), fun q hq => (h2.2.1 q hq).trans (h.2.1 q hq), h2.2.2.trans h.2.2⟩
theorem sPg_sy {w w1 : qq_w} (h : sPg w w1) : sPg w1 w := ⟨fun q hq => (h.1 q hq).symm, fun q hq => (h.2.1 q hq).symm, h.2.2.symm⟩
theorem sPg_only {w w1 : qq_w} {ps : List Nat} (h : qq_only ps w w1) (hd : ∀ q, q ∈ pgI → q ∉ ps) (h8 : ∀ j, j ∈ pg8 → w1.1 8 j = w.1 8 j) : sPg w w1 := ⟨fun q hq => h.2 q (hd q hq), h8, by rw [h.1]⟩
theorem sPg_X {w w1 : qq_w} (h : sPg w w1) : cX w1 = cX w := by
  funext n j
  show w1.1 13 _ = w.1 13 _
  rw [h.1 13 (by decide)]
theorem sPg_tell {w w1 : qq_w} (h : sPg w w1) : mTell w1 = mTell w := by
  funext n j
  unfold mTell
  rw [h.1 42 (by decide), h.1 43 (by decide), h.1 44 (by decide), h.1 45 (by decide), h.1 46 (by decide), h.1 47 (by decide), h.1 48 (by decide), h.1 49 (by decide), h.1 50 (by decide)]
theorem sPg_Var {w w1 : qq_w} (h : sPg w w1) : iVar w1 = iVar w := by
  funext p v
  unfold iVar
  rw [h.1 9 (by decide)]
theorem sPg_VarO {w w1 : qq_w} (h : sPg w w1) : iVarO w1 = iVarO w := by
  funext p v
  unfold iVarO
  rw [sPg_Var h]
theorem sPg_Call {w w1 : qq_w} (h : sPg w w1) : iCall w1 = iCall w := by
  funext N Pn n p
  unfold iCall
  rw [sPg_VarO h, sPg_X h, h.1 14 (by decide), h.1 51 (by decide)]
theorem sPg_Kind {w w1 : qq_w} (h : sPg w w1) : iKind w1 = iKind w := by
  funext N Pn n p k
  unfold iKind
  rw [sPg_Call h, sPg_Var h, sPg_X h, h.1 12 (by decide)]
theorem sPg_Node {w w1 : qq_w} (h : sPg w w1) : iNode w1 = iNode w := by
  funext N Pn n
  unfold iNode
  rw [sPg_Kind h, sPg_X h, sPg_tell h]
theorem sPg_Proc {w w1 : qq_w} (h : sPg w w1) : iProc w1 = iProc w := by
  funext N p
  unfold iProc
  rw [sPg_X h, h.1 9 (by decide), h.1 37 (by decide), h.1 10 (by decide), h.1 38 (by decide), h.1 12 (by decide), h.1 39 (by decide), h.1 40 (by decide), h.1 41 (by decide), h.1 11 (by decide)]
theorem sPg_Edge {w w1 : qq_w} (h : sPg w w1) : iEdge w1 = iEdge w := by
  funext N k
  unfold iEdge
  rw [sPg_X h, h.1 15 (by decide), h.1 16 (by decide), h.1 52 (by decide), h.1 53 (by decide)]
theorem iPrg_sp {w w1 : qq_w} {N Pn E : Nat} (h : sPg w w1) (H : iPrg w N Pn E) : iPrg w1 N Pn E := by
  obtain ⟨a1, a2, a3, a4, a5, a6, a7⟩ := H
  refine ⟨?_, by rw [sPg_Node h]; exact a2, by rw [sPg_Proc h]; exact a3, by rw [sPg_Edge h]; exact a4, ?_, ?_, ?_⟩
  · unfold iCnt
    rw [h.1 1 (by decide), h.2.1 8 (by decide), h.2.1 2 (by decide), h.2.1 20 (by decide), h.2.1 9 (by decide)]
    exact a1
  · unfold iLead
    rw [h.2.2, h.1 15 (by decide), h.1 16 (by decide)]
    exact a5
  · unfold iRows
    rw [h.1 18 (by decide), h.1 54 (by decide)]
    exact a6
  · unfold iCli
    rw [h.1 2 (by decide), h.2.1 23 (by decide), h.2.1 25 (by decide)]
    exact a7
theorem mF_sp {w w1 : qq_w} (h : sPg w w1) : mF w1 = mF w := by
  funext n p f g
  unfold mF
  have : ∀ x, mTgt w1 n p (nI f) x ↔ mTgt w n p (nI f) x := fun x => mTgt_congr (fun k hk => h.1 k (by simp at hk; simp [pgI]; omega)) (h.2.1 23 (by decide)) n p _ x
  simp only [this]
theorem mBegin_sp {w w1 : qq_w} (h : sPg w w1) : mBegin w1 = mBegin w := mBegin_congr (h.2.1 23 (by decide)) (h.2.1 25 (by decide)) (h.1 37 (by decide))
theorem cBegin_pg {w w1 : qq_w} (h : sPg w w1) : cBegin w1 = cBegin w := cBegin_congr (h.1 2 (by decide)) (h.1 9 (by decide))
theorem mBg_sp {w w1 : qq_w} (h : sPg w w1) : mBg w1 = mBg w := by
  funext n f
  unfold mBg
  rw [mBegin_sp h, h.1 39 (by decide)]
theorem mStp_sp {w w1 : qq_w} (h : sPg w w1) : mStp w1 = mStp w := by
  funext n e t g
  unfold mStp
  rw [h.2.1 20 (by decide), h.1 43 (by decide), h.1 52 (by decide), h.1 53 (by decide), h.1 49 (by decide), mF_sp h]
theorem mThr_sp {w w1 : qq_w} (h : sPg w w1) : mThr w1 = mThr w := by
  funext c e l g h' r g'
  unfold mThr
  rw [h.1 43 (by decide), h.1 40 (by decide), h.1 47 (by decide), h.1 49 (by decide), mF_sp h]
theorem mGoI_sp {w w1 : qq_w} (h : sPg w w1) : mGoI w1 = mGoI w := by
  funext c f m g
  unfold mGoI
  rw [h.1 43 (by decide), h.1 39 (by decide), h.1 47 (by decide), mF_sp h]
theorem PClo_sp {w w1 : qq_w} (h : sPg w w1) : PClo w1 = PClo w := by
  funext n d e
  unfold PClo
  rw [mBg_sp h, mStp_sp h, mThr_sp h, mGoI_sp h]
theorem srch_sp {w w1 : qq_w} (h : sPg w w1) : srch w1 = srch w := by
  funext R G
  unfold srch
  rw [mBg_sp h, mStp_sp h, mThr_sp h, mGoI_sp h, PClo_sp h]
theorem sumI_sp {w w1 : qq_w} (h : sPg w w1) : sumI w1 = sumI w := by
  funext S R G
  unfold sumI
  rw [mThr_sp h]
theorem iSt_sp {w w1 : qq_w} {N : Nat} (h : sPg w w1) (h19 : w1.1 19 = w.1 19) (H : iSt w N) : iSt w1 N := by
  unfold iSt
  rw [h19, mF_sp h, sPg_X h]
  exact H
theorem cPW_sp' {w w1 : qq_w} {N : Nat} (h : sPg w w1) (H : cPW w N) : cPW w1 N := cPW_congr (h.1 1 (by decide)) (h.1 12 (by decide)) (h.1 13 (by decide)) h.2.2 H
theorem mPW_sp' {w w1 : qq_w} {N : Nat} (h : sPg w w1) (hP : mPW w N) : mPW w1 N := by
  have s1 : ∀ k, k ∈ [37, 38, 41, 43, 44, 45, 46, 47, 48, 50, 51, 54] → w1.1 k = w.1 k := fun k hk => h.1 k (by simp at hk; simp [pgI]; omega)
  obtain ⟨a1, a2, a3, a4, a5, a6⟩ := hP
  refine ⟨by rw [h.2.1 8 (by decide)]; exact a1, a2, ?_, ?_, fun n hn => mFN_congr s1 (a5 n hn), fun n p f x hn hp hf hx => a6 n p f x hn hp hf ((mTgt_congr s1 (h.2.1 23 (by decide)) n p _ x).mp hx)⟩
  · rw [h.1 39 (by decide), h.1 40 (by decide), h.1 43 (by decide), h.1 47 (by decide), h.1 49 (by decide)]; exact a3
  · rw [h.2.1 20 (by decide), h.1 52 (by decide), h.1 53 (by decide)]; exact a4
