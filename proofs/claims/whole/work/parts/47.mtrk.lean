/-! tracks: how one goes back from a state -/
abbrev BSt := Nat × Nat × Nat × List (Nat × Nat × Nat)
abbrev BD := (Nat → Int32) × (Nat → Nat → Nat → Nat) × (Nat → Nat → Nat) × (Nat → Nat → Nat → Nat → Prop) × (Nat → Nat → Prop) × (Nat → Nat) × (Nat → Nat) × (Nat → Nat) × (Nat → Nat) × (Nat → Nat) × (Nat → Prop)
def bK (D : BD) : Nat → Int32 := D.1
def bL (D : BD) : Nat → Nat → Nat → Nat := D.2.1
def bW (D : BD) : Nat → Nat → Nat := D.2.2.1
def bF (D : BD) : Nat → Nat → Nat → Nat → Prop := D.2.2.2.1
def bE (D : BD) : Nat → Nat → Prop := D.2.2.2.2.1
def bPa (D : BD) : Nat → Nat := D.2.2.2.2.2.1
def bCa (D : BD) : Nat → Nat := D.2.2.2.2.2.2.1
def bOw (D : BD) : Nat → Nat := D.2.2.2.2.2.2.2.1
def bEn (D : BD) : Nat → Nat := D.2.2.2.2.2.2.2.2.1
def bLe (D : BD) : Nat → Nat := D.2.2.2.2.2.2.2.2.2.1
def bBg (D : BD) : Nat → Prop := D.2.2.2.2.2.2.2.2.2.2
/-- the least one -/
def lst (P : Nat → Prop) (x : Nat) : Prop := P x ∧ ∀ y, y < x → ¬ P y
theorem lst_uq {P : Nat → Prop} {x y : Nat} (h : lst P x) (h2 : lst P y) : x = y := by
  rcases Nat.lt_trichotomy x y with z | z | z
  · exact absurd h.1 (h2.2 x z)
  · exact z
  · exact absurd h2.1 (h.2 y z)
theorem lst_ex {P : Nat → Prop} {x : Nat} (h : P x) : ∃ y, lst P y ∧ y ≤ x := by
  have key : ∀ n x, x ≤ n → P x → ∃ y, lst P y ∧ y ≤ x := by
    intro n
    induction n with
    | zero => intro x hx h; exact ⟨x, ⟨h, fun y hy => absurd hy (by omega)⟩, Nat.le_refl _⟩
    | succ n ih =>
      intro x hx h
      by_cases q : ∃ y, y < x ∧ P y
      · obtain ⟨y, q1, q2⟩ := q
        obtain ⟨z, z1, z2⟩ := ih y (by omega) q2
        exact ⟨z, z1, by omega⟩
      · exact ⟨x, ⟨h, fun y hy hP => q ⟨y, hy, hP⟩⟩, Nat.le_refl _⟩
  exact key x x (Nat.le_refl _) h
def bPE (D : BD) (n d f x : Nat) : Prop := bE D (x / 13) n ∧ bL D (x / 13) d (x % 13) + 1 = bL D n d f ∧ bF D (x / 13) 0 (x % 13) f
def bPA (D : BD) (n d f g : Nat) : Prop := bL D (bPa D n) d g + 1 = bL D n d f ∧ bF D (bPa D n) 0 g f
def bPT (D : BD) (n d f x : Nat) : Prop := bF D (bPa D n) 1 (x / 169) (x / 13 % 13) ∧ bF D (bPa D n) 2 (x % 13) f ∧ bL D (bPa D n) d (x / 169) + bL D (bLe D (bCa D (bPa D n))) (x / 13 % 13) (x % 13) + 2 = bL D n d f
def bPC (D : BD) (n f x : Nat) : Prop := bK D (x / 13) = 9 ∧ bCa D (x / 13) = bOw D n ∧ bW D (x / 13) (x % 13) + 1 = bW D n f ∧ bF D (x / 13) 1 (x % 13) f
def bOut (D : BD) (n f d : Nat) : Prop := d < 13 ∧ lst (fun d => bW D (bEn D (bOw D n)) d + bL D n d f = bW D n f) d
def bStp (D : BD) (n f d : Nat) (st : List (Nat × Nat × Nat)) (h n' f' d' : Nat) (st' : List (Nat × Nat × Nat)) : Prop :=
  (bK D n = 0 ∧ h = 3 ∧ st = (n', f', d') :: st') ∨
  (bK D n = 0 ∧ st = [] ∧ (bOw D n = 0 ∧ bBg D f) ∧ h = 0 ∧ n' = n ∧ f' = f ∧ d' = d ∧ st' = []) ∨
  (bK D n = 0 ∧ st = [] ∧ ¬ (bOw D n = 0 ∧ bBg D f) ∧ h = 3 ∧ f' < 13 ∧ lst (bPC D n f) (13 * n' + f') ∧ bOut D n' f' d' ∧ st' = []) ∨
  (bK D n = 10 ∧ h = 2 ∧ lst (bPA D n d f) f' ∧ n' = bPa D n ∧ d' = d ∧ st' = st) ∨
  (bK D n = 10 ∧ (∀ g, ¬ bPA D n d f g) ∧ h = 4 ∧ d' < 13 ∧ f' < 13 ∧ (∃ g, lst (bPT D n d f) (169 * g + 13 * d' + f') ∧ st' = (bPa D n, g, d) :: st) ∧ n' = bLe D (bCa D (bPa D n))) ∨
  (¬ bK D n = 0 ∧ ¬ bK D n = 10 ∧ h = 1 ∧ f' < 13 ∧ lst (bPE D n d f) (13 * n' + f') ∧ d' = d ∧ st' = st)
def bStep (D : BD) (s : BSt) (o : Nat × Nat × Nat) (s' : BSt) : Prop := o.1 = s.1 ∧ o.2.1 = s.2.1 ∧ bStp D s.1 s.2.1 s.2.2.1 s.2.2.2 o.2.2 s'.1 s'.2.1 s'.2.2.1 s'.2.2.2
theorem bOut_uq {D : BD} {n f d d' : Nat} (h : bOut D n f d) (h2 : bOut D n f d') : d = d' := lst_uq h.2 h2.2
theorem bStp_uq {D : BD} {n f d : Nat} {st : List (Nat × Nat × Nat)} {h n' f' d' : Nat} {st' : List (Nat × Nat × Nat)} {h2 n2 f2 d2 : Nat} {st2 : List (Nat × Nat × Nat)} (a : bStp D n f d st h n' f' d' st') (b : bStp D n f d st h2 n2 f2 d2 st2) : h = h2 ∧ n' = n2 ∧ f' = f2 ∧ d' = d2 ∧ st' = st2 := by
  have e010 : ¬ (0 : Int32) = 10 := by decide
  rcases a with ⟨a1, a2, a3⟩ | ⟨a1, a2, a3, a4, a5, a6, a7, a8⟩ | ⟨a1, a2, a3, a4, a5, a6, a7, a8⟩ | ⟨a1, a2, a3, a4, a5, a6⟩ | ⟨a1, a2, a3, a4, a5, ⟨g, a6, a7⟩, a8⟩ | ⟨a1, a2, a3, a4, a5, a6, a7⟩ <;>
  rcases b with ⟨b1, b2, b3⟩ | ⟨b1, b2, b3, b4, b5, b6, b7, b8⟩ | ⟨b1, b2, b3, b4, b5, b6, b7, b8⟩ | ⟨b1, b2, b3, b4, b5, b6⟩ | ⟨b1, b2, b3, b4, b5, ⟨g', b6, b7⟩, b8⟩ | ⟨b1, b2, b3, b4, b5, b6, b7⟩ <;>
  first
    | exact absurd (a1.symm.trans b1) e010
    | exact absurd (b1.symm.trans a1) e010
    | exact absurd a1 b1
    | exact absurd b1 a1
    | exact absurd a1 b2
    | exact absurd b1 a2
    | exact absurd (a2.symm.trans b3) (by simp)
    | exact absurd (b2.symm.trans a3) (by simp)
    | exact absurd a3 b3
    | exact absurd b3 a3
    | exact absurd a3.1 (b2 _)
    | exact absurd b3.1 (a2 _)
    | skip
  · rw [a3] at b3
    simp only [List.cons.injEq, Prod.mk.injEq] at b3
    exact ⟨a2.trans b2.symm, b3.1.1, b3.1.2.1, b3.1.2.2, b3.2⟩
  · exact ⟨a4.trans b4.symm, a5.trans b5.symm, a6.trans b6.symm, a7.trans b7.symm, a8.trans b8.symm⟩
  · have := lst_uq a6 b6
    have e1 : n' = n2 := by omega
    have e2 : f' = f2 := by omega
    subst e1; subst e2
    exact ⟨a4.trans b4.symm, rfl, rfl, bOut_uq a7 b7, a8.trans b8.symm⟩
  · exact ⟨a2.trans b2.symm, a4.trans b4.symm, lst_uq a3 b3, a5.trans b5.symm, a6.trans b6.symm⟩
  · have := lst_uq a6 b6
    have e1 : g = g' := by omega
    have e2 : d' = d2 := by omega
    have e3 : f' = f2 := by omega
    subst e1; subst e2; subst e3
    exact ⟨a3.trans b3.symm, a8.trans b8.symm, rfl, rfl, a7.trans b7.symm⟩
  · have := lst_uq a5 b5
    have e1 : n' = n2 := by omega
    have e2 : f' = f2 := by omega
    exact ⟨a3.trans b3.symm, e1, e2, a6.trans b6.symm, a7.trans b7.symm⟩
theorem bStep_uq {D : BD} {s s1 s2 : BSt} {o1 o2 : Nat × Nat × Nat} (h1 : bStep D s o1 s1) (h2 : bStep D s o2 s2) : o1 = o2 ∧ s1 = s2 := by
  obtain ⟨n1, f1, w1⟩ := o1
  obtain ⟨n2, f2, w2⟩ := o2
  obtain ⟨a1, a2, a3, a4⟩ := s1
  obtain ⟨c1, c2, c3, c4⟩ := s2
  obtain ⟨x1, x2, x3⟩ := h1
  obtain ⟨y1, y2, y3⟩ := h2
  simp only at x1 x2 x3 y1 y2 y3
  obtain ⟨z1, z2, z3, z4, z5⟩ := bStp_uq x3 y3
  subst z1; subst z2; subst z3; subst z4; subst z5
  rw [x1, x2, y1, y2]
  exact ⟨rfl, rfl⟩
def bRun (D : BD) : List (Nat × Nat × Nat) → BSt → BSt → Prop
  | [], s, s' => s = s'
  | o :: l, s, s' => ∃ s1, bStep D s o s1 ∧ bRun D l s1 s'
theorem bRun_app {D : BD} : ∀ (l1 l2 : List (Nat × Nat × Nat)) (s s1 s2 : BSt), bRun D l1 s s1 → bRun D l2 s1 s2 → bRun D (l1 ++ l2) s s2
  | [], _, s, s1, s2, h1, h2 => by
    have h1 : s = s1 := h1
    rw [h1]; exact h2
  | o :: l1, l2, s, s1, s2, h1, h2 => by
    obtain ⟨s3, h3, h4⟩ := h1
    exact ⟨s3, h3, bRun_app l1 l2 s3 s1 s2 h4 h2⟩
theorem bRun_uq {D : BD} : ∀ (l1 l2 : List (Nat × Nat × Nat)) (s s1 s2 : BSt), l1.length = l2.length → bRun D l1 s s1 → bRun D l2 s s2 → l1 = l2
  | [], [], _, _, _, _, _, _ => rfl
  | [], _ :: _, _, _, _, e, _, _ => by simp at e
  | _ :: _, [], _, _, _, e, _, _ => by simp at e
  | o :: l1, o' :: l2, s, s1, s2, e, h1, h2 => by
    obtain ⟨s3, h3, h4⟩ := h1
    obtain ⟨s4, h5, h6⟩ := h2
    obtain ⟨z1, z2⟩ := bStep_uq h3 h5
    subst z1; subst z2
    rw [bRun_uq l1 l2 s3 s1 s2 (by simpa using e) h4 h6]
/-- what is told of a length -/
def lu (x : Int64) : Nat := if lq x ≤ 1000000000000 then lq x else 10000000000000
theorem lu_eq {x : Int64} {U A B : Nat} (hU : U < 2 ^ 63) (hU2 : 1000000000000 < U) (h : x = lN A) (hA : A ≤ 1000000000000 ∨ A = U) (hB : B ≤ 1000000000000) : A = B ↔ lu x = B := by
  unfold lu
  rw [h, lq_lN (by omega)]
  split <;> omega
/-- a step of a track is laid -/
def wCome (w : qq_w) (a b h : Int32) : qq_w := qq_ui (qq_ui (qq_ui (qq_ui (qq_ui (qq_ui w 8 45 (w.1 8 45 + (if h = 3 then 1 else if h = 4 then -1 else 0))) 61 (w.1 8 44).toNatClampNeg a) 62 (w.1 8 44).toNatClampNeg b) 63 (w.1 8 44).toNatClampNeg h) 64 (w.1 8 44).toNatClampNeg (w.1 8 45 + (if h = 3 then 1 else if h = 4 then -1 else 0))) 8 44 (w.1 8 44 + 1)
def T2_X8_comes : qq_t := fun As w P => match As with
  | [.ref 8, .int a, .int b, .int h] => vp_in (w.1 8 44) 300 ∧ P none (wCome w a b h)
  | _ => False
set_option maxHeartbeats 4000000 in
set_option maxRecDepth 100000 in
theorem comes_T : ∀ As w P, T2_X8_comes As w P → T_X8_comes As w P := by
  intro As w P h
  unfold T2_X8_comes at h
  split at h
  · rename_i a b h'
    obtain ⟨hp, hq⟩ := h
    unfold T_X8_comes
    conv => whnf
    by_cases h3 : h' = 3
    · refine br_nf h3 ?_
      conv => whnf
      refine ⟨hp, ?_⟩
      conv => whnf
      refine ⟨hp, ?_⟩
      conv => whnf
      refine ⟨hp, ?_⟩
      conv => whnf
      refine ⟨hp, ?_⟩
      conv => whnf
      unfold wCome at hq
      rw [if_pos h3] at hq
      exact hq
    · refine br_nt h3 ?_
      conv => whnf
      by_cases h4 : h' = 4
      · refine br_nf h4 ?_
        conv => whnf
        refine ⟨hp, ?_⟩
        conv => whnf
        refine ⟨hp, ?_⟩
        conv => whnf
        refine ⟨hp, ?_⟩
        conv => whnf
        refine ⟨hp, ?_⟩
        conv => whnf
        unfold wCome at hq
        rw [if_neg h3, if_pos h4] at hq
        exact hq
      · refine br_nt h4 ?_
        conv => whnf
        refine ⟨hp, ?_⟩
        conv => whnf
        refine ⟨hp, ?_⟩
        conv => whnf
        refine ⟨hp, ?_⟩
        conv => whnf
        refine ⟨hp, ?_⟩
        conv => whnf
        unfold wCome at hq
        rw [if_neg h3, if_neg h4] at hq
        exact hq
  · exact h.elim
theorem hv2_X8_comes : ∀ As w P, T2_X8_comes As w P → ∃ (k : Nat) (r : List Value) (fs : List Nat), As = .ref k :: r ∧ ww_sh[k]? = some (.inr (8, fs)) := fun As w P h => hv_X8_comes As w P (comes_T As w P h)
theorem M2_X8_comes (l : Launch) : qq_M l ww_T ww_N vwCl ww_sh ww_ro ww_zs yX8_comes cX8_comes 4 none (ww_rm 0) T2_X8_comes := fun D tys tC ad sz As w P hT => M_X8_comes l D tys tC ad sz As w P (comes_T As w P hT)
/-- steps of a track are laid -/
def wApp (w : qq_w) (l : List (Nat × Nat × Nat)) : qq_w := l.foldl (fun w x => wCome w (nI x.1) (nI x.2.1) (nI x.2.2)) w
theorem wApp_app (w : qq_w) (l1 l2 : List (Nat × Nat × Nat)) : wApp w (l1 ++ l2) = wApp (wApp w l1) l2 := List.foldl_append
def mTk (w w1 : qq_w) : Prop := w1.2 = w.2 ∧ (∀ q, q ∉ [8, 61, 62, 63, 64] → w1.1 q = w.1 q) ∧ ∀ j, j ≠ 44 → j ≠ 45 → w1.1 8 j = w.1 8 j
theorem mTk_rf {w : qq_w} : mTk w w := ⟨rfl, fun _ _ => rfl, fun _ _ _ => rfl⟩
theorem mTk_tr {w w1 w2 : qq_w} (h : mTk w w1) (h2 : mTk w1 w2) : mTk w w2 := ⟨h2.1.trans h.1, fun q hq => (h2.2.1 q hq).trans (h.2.1 q hq), fun j a b => (h2.2.2 j a b).trans (h.2.2 j a b)⟩
theorem wCome_8 (w : qq_w) (a b h : Int32) : (wCome w a b h).1 8 = upd (upd (w.1 8) 45 (w.1 8 45 + (if h = 3 then 1 else if h = 4 then -1 else 0))) 44 (w.1 8 44 + 1) := rfl
theorem wCome_tk (w : qq_w) (a b h : Int32) : mTk w (wCome w a b h) := by
  refine ⟨rfl, fun q hq => ?_, fun j h1 h2 => ?_⟩
  · simp only [List.mem_cons, List.not_mem_nil, or_false, not_or] at hq
    simp only [wCome, qq_ui, va_up, hq, if_false]
  · rw [wCome_8, upd_at, if_neg h1, upd_at, if_neg h2]
theorem wApp_tk : ∀ (l : List (Nat × Nat × Nat)) (w : qq_w), mTk w (wApp w l)
  | [], w => mTk_rf
  | x :: l, w => mTk_tr (wCome_tk w _ _ _) (wApp_tk l _)
theorem wCome_44 {w : qq_w} {a b h : Int32} {t : Nat} (e : w.1 8 44 = nI t) : (wCome w a b h).1 8 44 = nI (t + 1) := by
  rw [wCome_8, upd_at, if_pos rfl]
  exact i_s e
theorem wApp_44 : ∀ (l : List (Nat × Nat × Nat)) (w : qq_w) (t : Nat), w.1 8 44 = nI t → (wApp w l).1 8 44 = nI (t + l.length)
  | [], w, t, h => h
  | x :: l, w, t, h => by
    have := wApp_44 l (wCome w (nI x.1) (nI x.2.1) (nI x.2.2)) (t + 1) (wCome_44 h)
    rw [show t + (x :: l).length = t + 1 + l.length by simp only [List.length_cons]; omega]
    exact this
/-- what tracks are made of, by the reference -/
def mBD (w : qq_w) (N : Nat) : BD := (fun n => if n < N then w.1 43 n else 0, fun n d f => if n < N ∧ d < 13 ∧ f < 13 then lu (w.2 59 (169 * n + 13 * d + f)) else 10000000000000, fun n f => if n < N ∧ f < 13 then lu (w.2 60 (13 * n + f)) else 10000000000000, fun n p f g => n < N ∧ f < 13 ∧ g < 13 ∧ mF w n p f g, fun m n => m < N ∧ n < N ∧ mLeads w (nI m) (nI n), fun n => if n < N ∧ w.1 43 n = 10 then qn (w.1 49 n) else 0, fun n => if n < N ∧ w.1 43 n = 9 then qn (w.1 47 n) else 0, fun n => if n < N then qn (w.1 42 n) else 0, fun p => if p < qn (w.1 8 2) then qn (w.1 39 p) else 0, fun p => if p < qn (w.1 8 2) then qn (w.1 40 p) else 0, fun f => f < 13 ∧ bt (mBegin w) f = true)
theorem mF_tk {w w1 : qq_w} (h : mTk w w1) : mF w1 = mF w := by
  funext n p f g
  unfold mF
  have : ∀ x, mTgt w1 n p (nI f) x ↔ mTgt w n p (nI f) x := fun x => mTgt_congr (fun k hk => h.2.1 k (by simp at hk ⊢; omega)) (h.2.2 23 (by decide) (by decide)) n p _ x
  simp only [this]
theorem mTgt_tk {w w1 : qq_w} (h : mTk w w1) (n p : Nat) (f x : Int32) : mTgt w1 n p f x ↔ mTgt w n p f x := mTgt_congr (fun k hk => h.2.1 k (by simp at hk ⊢; omega)) (h.2.2 23 (by decide) (by decide)) n p f x
theorem mBD_tk {w w1 : qq_w} (h : mTk w w1) (N : Nat) : mBD w1 N = mBD w N := by
  have eb : mBegin w1 = mBegin w := mBegin_congr (h.2.2 23 (by decide) (by decide)) (h.2.2 25 (by decide) (by decide)) (h.2.1 37 (by decide))
  have el : mLeads w1 = mLeads w := by
    funext a b
    unfold mLeads
    rw [h.2.2 20 (by decide) (by decide), h.2.1 52 (by decide), h.2.1 53 (by decide)]
  unfold mBD
  rw [eb, el, mF_tk h, h.1, h.2.1 43 (by decide), h.2.1 49 (by decide), h.2.1 47 (by decide), h.2.1 42 (by decide), h.2.1 39 (by decide), h.2.1 40 (by decide), h.2.2 2 (by decide) (by decide)]
theorem mPW_tk {w w1 : qq_w} {N : Nat} (h : mTk w w1) (hP : mPW w N) : mPW w1 N := by
  have s1 : ∀ k, k ∈ [37, 38, 41, 43, 44, 45, 46, 47, 48, 50, 51, 54] → w1.1 k = w.1 k := fun k hk => h.2.1 k (by simp at hk ⊢; omega)
  obtain ⟨a1, a2, a3, a4, a5, a6⟩ := hP
  refine ⟨by rw [h.2.2 8 (by decide) (by decide)]; exact a1, a2, ?_, ?_, fun n hn => mFN_congr s1 (a5 n hn), fun n p f x hn hp hf hx => a6 n p f x hn hp hf ((mTgt_tk h n p _ x).mp hx)⟩
  · rw [h.2.1 39 (by decide), h.2.1 40 (by decide), h.2.1 43 (by decide), h.2.1 47 (by decide), h.2.1 49 (by decide)]; exact a3
  · rw [h.2.2 20 (by decide) (by decide), h.2.1 52 (by decide), h.2.1 53 (by decide)]; exact a4
/-- what makes every short track be found -/
def bOk (D : BD) (N : Nat) : Prop :=
  (∀ n d f, n < N → d < 13 → f < 13 → bL D n d f = 0 → n = bEn D (bOw D n) ∧ f = d) ∧
  (∀ n d f, n < N → d < 13 → f < 13 → ¬ bK D n = 10 → 0 < bL D n d f → bL D n d f < 300 → ¬ bK D n = 0 ∧ ∃ x, bPE D n d f x) ∧
  (∀ n d f, n < N → d < 13 → f < 13 → bK D n = 10 → 0 < bL D n d f → bL D n d f < 300 → (∃ g, bPA D n d f g) ∨ ∃ x, bPT D n d f x) ∧
  (∀ m n, bE D m n → bOw D m = bOw D n) ∧
  (∀ n, n < N → bK D n = 10 → bPa D n < N ∧ bOw D (bPa D n) = bOw D n ∧ bK D (bPa D n) = 9) ∧
  (∀ c, c < N → bK D c = 9 → bLe D (bCa D c) < N ∧ bOw D (bLe D (bCa D c)) = bCa D c) ∧
  (∀ n, n < N → bEn D (bOw D n) < N ∧ bK D (bEn D (bOw D n)) = 0 ∧ bOw D (bEn D (bOw D n)) = bOw D n) ∧
  (∀ n, n < N → bK D n = 0 → n = bEn D (bOw D n)) ∧
  (∀ n f, n < N → f < 13 → bW D n f < 300 → ∃ d, d < 13 ∧ bW D (bEn D (bOw D n)) d + bL D n d f = bW D n f) ∧
  (∀ n f, n < N → f < 13 → bK D n = 0 → bW D n f < 300 → ¬ (bOw D n = 0 ∧ bBg D f) → ∃ x, bPC D n f x) ∧
  (∀ n f, n < N → f < 13 → bK D n = 0 → bOw D n = 0 → bBg D f → bW D n f = 0)
def mTrk (w : qq_w) (N : Nat) : Prop := mPW w N ∧ mOwn w N ∧ lOk (w.2 59) 4000000000000000000 10816 ∧ lOk (w.2 60) 4000000000000000000 832 ∧ (∀ n, n < N → w.1 43 n = 10 → ∃ c, c < N ∧ w.1 49 n = nI c ∧ w.1 43 c = 9) ∧ bOk (mBD w N) N ∧ (∀ n f, n < N → f < 13 → bW (mBD w N) n f ≤ 1000000000000 → mHolds w n f) ∧ vp_in (w.1 8 2) 9 ∧ (∀ n, n < N → qn (w.1 42 n) < qn (w.1 8 2)) ∧ ∀ c, c < N → w.1 43 c = 9 → qn (w.1 47 c) < qn (w.1 8 2)
theorem mTrk_tk {w w1 : qq_w} {N : Nat} (h : mTk w w1) (hT : mTrk w N) : mTrk w1 N := by
  obtain ⟨a1, a2, a3, a4, a5, a6, a7, a8, a9, a10⟩ := hT
  refine ⟨mPW_tk h a1, ?_, by rw [h.1]; exact a3, by rw [h.1]; exact a4, ?_, by rw [mBD_tk h]; exact a6, ?_, by rw [h.2.2 2 (by decide) (by decide)]; exact a8, ?_, ?_⟩
  · unfold mOwn
    rw [h.2.1 42 (by decide), h.2.1 39 (by decide), h.2.1 43 (by decide)]
    exact a2
  · rw [h.2.1 43 (by decide), h.2.1 49 (by decide)]
    exact a5
  · unfold mHolds
    rw [mBD_tk h, h.2.1 56 (by decide)]
    exact a7
  · rw [h.2.1 42 (by decide), h.2.2 2 (by decide) (by decide)]
    exact a9
  · rw [h.2.1 47 (by decide), h.2.1 43 (by decide), h.2.2 2 (by decide) (by decide)]
    exact a10
theorem lN_p1 (V : Nat) : lN (V + 1) - 1 = lN V := by
  rw [← lN_1]
  exact Int64.add_sub_cancel _ _
abbrev mD (w : qq_w) : BD := mBD w (qn (w.1 8 8))
def TT_X8_toLevel (k : Nat) : qq_t := fun As w P => match As with
  | [.ref 8, .int d, .int n, .int f] => (mTrk w (qn (w.1 8 8)) ∧ vp_in d 13 ∧ vp_in f 13 ∧ vp_in n 64 ∧ qn n < qn (w.1 8 8) ∧ bL (mD w) (qn n) (qn d) (qn f) < k ∧ k ≤ 300 ∧ ∃ t, w.1 8 44 = nI t ∧ t + bL (mD w) (qn n) (qn d) (qn f) ≤ 300) ∧ ∀ l : List (Nat × Nat × Nat), l.length = bL (mD w) (qn n) (qn d) (qn f) → (∀ st, bRun (mD w) l.reverse (qn n, qn f, qn d, st) (bEn (mD w) (bOw (mD w) (qn n)), qn d, qn d, st)) → P none (wApp w l)
  | _ => False
def TT_X8_toReturn (k : Nat) : qq_t := fun As w P => match As with
  | [.ref 8, .int d, .int n, .int f, .long v] => (mTrk w (qn (w.1 8 8)) ∧ vp_in d 13 ∧ vp_in f 13 ∧ vp_in n 64 ∧ qn n < qn (w.1 8 8) ∧ w.1 43 (qn n) = 10 ∧ (∃ V, v = lN V ∧ bL (mD w) (qn n) (qn d) (qn f) = V + 1 ∧ V < k) ∧ k < 300 ∧ ∃ t, w.1 8 44 = nI t ∧ t + bL (mD w) (qn n) (qn d) (qn f) ≤ 300) ∧ ∀ l : List (Nat × Nat × Nat), l.length = bL (mD w) (qn n) (qn d) (qn f) → (∀ st, bRun (mD w) l.reverse (qn n, qn f, qn d, st) (bEn (mD w) (bOw (mD w) (qn n)), qn d, qn d, st)) → P none (wApp w l)
  | _ => False
def TT_X8_toEnter (k : Nat) : qq_t := fun As w P => match As with
  | [.ref 8, .int p, .int d] => (mTrk w (qn (w.1 8 8)) ∧ vp_in d 13 ∧ vp_in p 8 ∧ qn p < qn (w.1 8 2) ∧ bEn (mD w) (qn p) < qn (w.1 8 8) ∧ bOw (mD w) (bEn (mD w) (qn p)) = qn p ∧ bK (mD w) (bEn (mD w) (qn p)) = 0 ∧ bW (mD w) (bEn (mD w) (qn p)) (qn d) < k ∧ k ≤ 300 ∧ ∃ t, w.1 8 44 = nI t ∧ t + bW (mD w) (bEn (mD w) (qn p)) (qn d) + 1 ≤ 300) ∧ ∀ l : List (Nat × Nat × Nat), l.length = bW (mD w) (bEn (mD w) (qn p)) (qn d) + 1 → (∀ d0, ∃ s', bRun (mD w) l.reverse (bEn (mD w) (qn p), qn d, d0, []) s') → P none (wApp w l)
  | _ => False
def TT_X8_toState (k : Nat) : qq_t := fun As w P => match As with
  | [.ref 8, .int n, .int f] => (mTrk w (qn (w.1 8 8)) ∧ vp_in f 13 ∧ vp_in n 64 ∧ qn n < qn (w.1 8 8) ∧ bW (mD w) (qn n) (qn f) < k ∧ k ≤ 300 ∧ ∃ t, w.1 8 44 = nI t ∧ t + bW (mD w) (qn n) (qn f) + 1 ≤ 300) ∧ ∀ l : List (Nat × Nat × Nat), l.length = bW (mD w) (qn n) (qn f) + 1 → (∀ d0, bOut (mD w) (qn n) (qn f) d0 → ∃ s', bRun (mD w) l.reverse (qn n, qn f, d0, []) s') → P none (wApp w l)
  | _ => False
theorem mD_tk {w w1 : qq_w} (h : mTk w w1) : mD w1 = mD w := by
  unfold mD
  rw [h.2.2 8 (by decide) (by decide)]
  exact mBD_tk h _
/-- lengths as they stand -/
theorem mD_L {w : qq_w} {N n d f : Nat} (hO : lOk (w.2 59) 4000000000000000000 10816) (hN : N ≤ 64) (hn : n < N) (hd : d < 13) (hf : f < 13) : ∃ A, w.2 59 (169 * n + 13 * d + f) = lN A ∧ (A ≤ 1000000000000 ∨ A = 4000000000000000000) ∧ bL (mBD w N) n d f = if A ≤ 1000000000000 then A else 10000000000000 := by
  obtain ⟨A, e, hA⟩ := hO (169 * n + 13 * d + f) (by omega)
  refine ⟨A, e, hA, ?_⟩
  show (if n < N ∧ d < 13 ∧ f < 13 then lu (w.2 59 (169 * n + 13 * d + f)) else 10000000000000) = _
  rw [if_pos ⟨hn, hd, hf⟩, e]
  unfold lu
  rw [lq_lN (by omega)]
theorem mD_W {w : qq_w} {N n f : Nat} (hO : lOk (w.2 60) 4000000000000000000 832) (hN : N ≤ 64) (hn : n < N) (hf : f < 13) : ∃ A, w.2 60 (13 * n + f) = lN A ∧ (A ≤ 1000000000000 ∨ A = 4000000000000000000) ∧ bW (mBD w N) n f = if A ≤ 1000000000000 then A else 10000000000000 := by
  obtain ⟨A, e, hA⟩ := hO (13 * n + f) (by omega)
  refine ⟨A, e, hA, ?_⟩
  show (if n < N ∧ f < 13 then lu (w.2 60 (13 * n + f)) else 10000000000000) = _
  rw [if_pos ⟨hn, hf⟩, e]
  unfold lu
  rw [lq_lN (by omega)]
theorem mD_K {w : qq_w} {N n : Nat} (hn : n < N) : bK (mBD w N) n = w.1 43 n := if_pos hn
theorem mD_F {w : qq_w} {N n p f g : Nat} (hn : n < N) (hf : f < 13) (hg : g < 13) : bF (mBD w N) n p f g ↔ mF w n p f g := ⟨fun h => h.2.2.2, fun h => ⟨hn, hf, hg, h⟩⟩
theorem mD_E {w : qq_w} {N m n : Nat} (hm : m < N) (hn : n < N) : bE (mBD w N) m n ↔ mLeads w (nI m) (nI n) := ⟨fun h => h.2.2, fun h => ⟨hm, hn, h⟩⟩
