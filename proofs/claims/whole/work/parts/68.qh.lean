section
/-! pure layer H: the reference's board -/
theorem FO_ext {a b : FO} (h1 : ∀ k, fI a k = fI b k) (h2 : ∀ k, fL a k = fL b k) (h3 : ∀ k, fR a k = fR b k) (h4 : ∀ k, fA a k = fA b k) (h5 : ∀ k, fB a k = fB b k) : a = b :=
  Prod.ext (funext h1) (Prod.ext (funext h2) (Prod.ext (funext h3) (Prod.ext (funext h4) (funext h5))))
def brd (o : FO) (q : Int32) (f19 f20 f21 f22 f23 f24 : Nat → Int32) : FO := sI (sAr (sAr (sAr (sAr (sAr (sAr o 19 f19) 20 f20) 21 f21) 22 f22) 23 f23) 24 f24) 18 q
theorem brd_id (o : FO) : brd o (fI o 18) (fA o 19) (fA o 20) (fA o 21) (fA o 22) (fA o 23) (fA o 24) = o := by
  refine FO_ext (fun k => ?_) (fun k => rfl) (fun k => rfl) (fun k => ?_) (fun k => rfl)
  · unfold brd
    simp only [qs_fIsI, qs_fIsL, qs_fIsR, qs_fIsA, qs_fIsB, qs_fLsI, qs_fLsL, qs_fLsR, qs_fLsA, qs_fLsB, qs_fRsI, qs_fRsL, qs_fRsR, qs_fRsA, qs_fRsB, qs_fAsI, qs_fAsL, qs_fAsR, qs_fAsA, qs_fAsB, qs_fBsI, qs_fBsL, qs_fBsR, qs_fBsA, qs_fBsB, qs_up, qs_fIrA, qs_fLrA, qs_fRrA, qs_fArA, qs_fBrA, qs_fIrB, qs_fLrB, qs_fRrB, qs_fArB, qs_fBrB]
    split
    · rename_i e; rw [e]
    · rfl
  · unfold brd
    simp only [qs_fIsI, qs_fIsL, qs_fIsR, qs_fIsA, qs_fIsB, qs_fLsI, qs_fLsL, qs_fLsR, qs_fLsA, qs_fLsB, qs_fRsI, qs_fRsL, qs_fRsR, qs_fRsA, qs_fRsB, qs_fAsI, qs_fAsL, qs_fAsR, qs_fAsA, qs_fAsB, qs_fBsI, qs_fBsL, qs_fBsR, qs_fBsA, qs_fBsB, qs_up, qs_fIrA, qs_fLrA, qs_fRrA, qs_fArA, qs_fBrA, qs_fIrB, qs_fLrB, qs_fRrB, qs_fArB, qs_fBrB]
    repeat' split
    all_goals first | rfl | (rename_i e; rw [e])
theorem brd_fI {o : FO} {q : Int32} {f19 f20 f21 f22 f23 f24 : Nat → Int32} {k : Nat} (h : k ≠ 18) : fI (brd o q f19 f20 f21 f22 f23 f24) k = fI o k := by
  unfold brd
  simp only [qs_fIsI, qs_fIsL, qs_fIsR, qs_fIsA, qs_fIsB, qs_fLsI, qs_fLsL, qs_fLsR, qs_fLsA, qs_fLsB, qs_fRsI, qs_fRsL, qs_fRsR, qs_fRsA, qs_fRsB, qs_fAsI, qs_fAsL, qs_fAsR, qs_fAsA, qs_fAsB, qs_fBsI, qs_fBsL, qs_fBsR, qs_fBsA, qs_fBsB, qs_up, qs_fIrA, qs_fLrA, qs_fRrA, qs_fArA, qs_fBrA, qs_fIrB, qs_fLrB, qs_fRrB, qs_fArB, qs_fBrB, if_neg h]
theorem brd_fA {o : FO} {q : Int32} {f19 f20 f21 f22 f23 f24 : Nat → Int32} {k : Nat} (h : k < 19 ∨ 24 < k) : fA (brd o q f19 f20 f21 f22 f23 f24) k = fA o k := by
  unfold brd
  simp only [qs_fIsI, qs_fIsL, qs_fIsR, qs_fIsA, qs_fIsB, qs_fLsI, qs_fLsL, qs_fLsR, qs_fLsA, qs_fLsB, qs_fRsI, qs_fRsL, qs_fRsR, qs_fRsA, qs_fRsB, qs_fAsI, qs_fAsL, qs_fAsR, qs_fAsA, qs_fAsB, qs_fBsI, qs_fBsL, qs_fBsR, qs_fBsA, qs_fBsB, qs_up, qs_fIrA, qs_fLrA, qs_fRrA, qs_fArA, qs_fBrA, qs_fIrB, qs_fLrB, qs_fRrB, qs_fArB, qs_fBrB]
  rw [if_neg (by omega), if_neg (by omega), if_neg (by omega), if_neg (by omega), if_neg (by omega), if_neg (by omega)]
theorem brd_18 (o : FO) (q v : Int32) (f19 f20 f21 f22 f23 f24 : Nat → Int32) : sI (brd o q f19 f20 f21 f22 f23 f24) 18 v = brd o v f19 f20 f21 f22 f23 f24 := by
  refine FO_ext (fun k => ?_) (fun k => rfl) (fun k => rfl) (fun k => rfl) (fun k => rfl)
  unfold brd
  simp only [qs_fIsI, qs_fIsL, qs_fIsR, qs_fIsA, qs_fIsB, qs_fLsI, qs_fLsL, qs_fLsR, qs_fLsA, qs_fLsB, qs_fRsI, qs_fRsL, qs_fRsR, qs_fRsA, qs_fRsB, qs_fAsI, qs_fAsL, qs_fAsR, qs_fAsA, qs_fAsB, qs_fBsI, qs_fBsL, qs_fBsR, qs_fBsA, qs_fBsB, qs_up, qs_fIrA, qs_fLrA, qs_fRrA, qs_fArA, qs_fBrA, qs_fIrB, qs_fLrB, qs_fRrB, qs_fArB, qs_fBrB]
  split <;> rfl
theorem brd_brd (o : FO) (q v : Int32) (f19 f20 f21 f22 f23 f24 g19 g20 g21 g22 g23 g24 : Nat → Int32) : brd (brd o q f19 f20 f21 f22 f23 f24) v g19 g20 g21 g22 g23 g24 = brd o v g19 g20 g21 g22 g23 g24 := by
  refine FO_ext (fun k => ?_) (fun k => rfl) (fun k => rfl) (fun k => ?_) (fun k => rfl)
  · unfold brd
    simp only [qs_fIsI, qs_fIsL, qs_fIsR, qs_fIsA, qs_fIsB, qs_fLsI, qs_fLsL, qs_fLsR, qs_fLsA, qs_fLsB, qs_fRsI, qs_fRsL, qs_fRsR, qs_fRsA, qs_fRsB, qs_fAsI, qs_fAsL, qs_fAsR, qs_fAsA, qs_fAsB, qs_fBsI, qs_fBsL, qs_fBsR, qs_fBsA, qs_fBsB, qs_up, qs_fIrA, qs_fLrA, qs_fRrA, qs_fArA, qs_fBrA, qs_fIrB, qs_fLrB, qs_fRrB, qs_fArB, qs_fBrB]
    split <;> rfl
  · unfold brd
    simp only [qs_fIsI, qs_fIsL, qs_fIsR, qs_fIsA, qs_fIsB, qs_fLsI, qs_fLsL, qs_fLsR, qs_fLsA, qs_fLsB, qs_fRsI, qs_fRsL, qs_fRsR, qs_fRsA, qs_fRsB, qs_fAsI, qs_fAsL, qs_fAsR, qs_fAsA, qs_fAsB, qs_fBsI, qs_fBsL, qs_fBsR, qs_fBsA, qs_fBsB, qs_up, qs_fIrA, qs_fLrA, qs_fRrA, qs_fArA, qs_fBrA, qs_fIrB, qs_fLrB, qs_fRrB, qs_fArB, qs_fBrB]
    repeat' split
    all_goals rfl
theorem brd_19 (o : FO) (q v : Int32) (i : Nat) (f19 f20 f21 f22 f23 f24 : Nat → Int32) : sA (brd o q f19 f20 f21 f22 f23 f24) 19 i v = brd o q (va_up f19 i v) f20 f21 f22 f23 f24 := by
  refine FO_ext (fun k => rfl) (fun k => rfl) (fun k => rfl) (fun k => ?_) (fun k => rfl)
  unfold brd
  simp only [qs_fIsI, qs_fIsL, qs_fIsR, qs_fIsA, qs_fIsB, qs_fLsI, qs_fLsL, qs_fLsR, qs_fLsA, qs_fLsB, qs_fRsI, qs_fRsL, qs_fRsR, qs_fRsA, qs_fRsB, qs_fAsI, qs_fAsL, qs_fAsR, qs_fAsA, qs_fAsB, qs_fBsI, qs_fBsL, qs_fBsR, qs_fBsA, qs_fBsB, qs_up, qs_fIrA, qs_fLrA, qs_fRrA, qs_fArA, qs_fBrA, qs_fIrB, qs_fLrB, qs_fRrB, qs_fArB, qs_fBrB]
  by_cases e : k = 19
  · subst e; rfl
  · rw [if_neg e]
    repeat' split
    all_goals first | rfl | (exfalso; omega)
theorem brd_20 (o : FO) (q v : Int32) (i : Nat) (f19 f20 f21 f22 f23 f24 : Nat → Int32) : sA (brd o q f19 f20 f21 f22 f23 f24) 20 i v = brd o q f19 (va_up f20 i v) f21 f22 f23 f24 := by
  refine FO_ext (fun k => rfl) (fun k => rfl) (fun k => rfl) (fun k => ?_) (fun k => rfl)
  unfold brd
  simp only [qs_fIsI, qs_fIsL, qs_fIsR, qs_fIsA, qs_fIsB, qs_fLsI, qs_fLsL, qs_fLsR, qs_fLsA, qs_fLsB, qs_fRsI, qs_fRsL, qs_fRsR, qs_fRsA, qs_fRsB, qs_fAsI, qs_fAsL, qs_fAsR, qs_fAsA, qs_fAsB, qs_fBsI, qs_fBsL, qs_fBsR, qs_fBsA, qs_fBsB, qs_up, qs_fIrA, qs_fLrA, qs_fRrA, qs_fArA, qs_fBrA, qs_fIrB, qs_fLrB, qs_fRrB, qs_fArB, qs_fBrB]
  by_cases e : k = 20
  · subst e; rfl
  · rw [if_neg e]
    repeat' split
    all_goals first | rfl | (exfalso; omega)
theorem brd_21 (o : FO) (q v : Int32) (i : Nat) (f19 f20 f21 f22 f23 f24 : Nat → Int32) : sA (brd o q f19 f20 f21 f22 f23 f24) 21 i v = brd o q f19 f20 (va_up f21 i v) f22 f23 f24 := by
  refine FO_ext (fun k => rfl) (fun k => rfl) (fun k => rfl) (fun k => ?_) (fun k => rfl)
  unfold brd
  simp only [qs_fIsI, qs_fIsL, qs_fIsR, qs_fIsA, qs_fIsB, qs_fLsI, qs_fLsL, qs_fLsR, qs_fLsA, qs_fLsB, qs_fRsI, qs_fRsL, qs_fRsR, qs_fRsA, qs_fRsB, qs_fAsI, qs_fAsL, qs_fAsR, qs_fAsA, qs_fAsB, qs_fBsI, qs_fBsL, qs_fBsR, qs_fBsA, qs_fBsB, qs_up, qs_fIrA, qs_fLrA, qs_fRrA, qs_fArA, qs_fBrA, qs_fIrB, qs_fLrB, qs_fRrB, qs_fArB, qs_fBrB]
  by_cases e : k = 21
  · subst e; rfl
  · rw [if_neg e]
    repeat' split
    all_goals first | rfl | (exfalso; omega)
theorem brd_22 (o : FO) (q v : Int32) (i : Nat) (f19 f20 f21 f22 f23 f24 : Nat → Int32) : sA (brd o q f19 f20 f21 f22 f23 f24) 22 i v = brd o q f19 f20 f21 (va_up f22 i v) f23 f24 := by
  refine FO_ext (fun k => rfl) (fun k => rfl) (fun k => rfl) (fun k => ?_) (fun k => rfl)
  unfold brd
  simp only [qs_fIsI, qs_fIsL, qs_fIsR, qs_fIsA, qs_fIsB, qs_fLsI, qs_fLsL, qs_fLsR, qs_fLsA, qs_fLsB, qs_fRsI, qs_fRsL, qs_fRsR, qs_fRsA, qs_fRsB, qs_fAsI, qs_fAsL, qs_fAsR, qs_fAsA, qs_fAsB, qs_fBsI, qs_fBsL, qs_fBsR, qs_fBsA, qs_fBsB, qs_up, qs_fIrA, qs_fLrA, qs_fRrA, qs_fArA, qs_fBrA, qs_fIrB, qs_fLrB, qs_fRrB, qs_fArB, qs_fBrB]
  by_cases e : k = 22
  · subst e; rfl
  · rw [if_neg e]
    repeat' split
    all_goals first | rfl | (exfalso; omega)
theorem brd_23 (o : FO) (q v : Int32) (i : Nat) (f19 f20 f21 f22 f23 f24 : Nat → Int32) : sA (brd o q f19 f20 f21 f22 f23 f24) 23 i v = brd o q f19 f20 f21 f22 (va_up f23 i v) f24 := by
  refine FO_ext (fun k => rfl) (fun k => rfl) (fun k => rfl) (fun k => ?_) (fun k => rfl)
  unfold brd
  simp only [qs_fIsI, qs_fIsL, qs_fIsR, qs_fIsA, qs_fIsB, qs_fLsI, qs_fLsL, qs_fLsR, qs_fLsA, qs_fLsB, qs_fRsI, qs_fRsL, qs_fRsR, qs_fRsA, qs_fRsB, qs_fAsI, qs_fAsL, qs_fAsR, qs_fAsA, qs_fAsB, qs_fBsI, qs_fBsL, qs_fBsR, qs_fBsA, qs_fBsB, qs_up, qs_fIrA, qs_fLrA, qs_fRrA, qs_fArA, qs_fBrA, qs_fIrB, qs_fLrB, qs_fRrB, qs_fArB, qs_fBrB]
  by_cases e : k = 23
  · subst e; rfl
  · rw [if_neg e]
    repeat' split
    all_goals first | rfl | (exfalso; omega)
theorem brd_24 (o : FO) (q v : Int32) (i : Nat) (f19 f20 f21 f22 f23 f24 : Nat → Int32) : sA (brd o q f19 f20 f21 f22 f23 f24) 24 i v = brd o q f19 f20 f21 f22 f23 (va_up f24 i v) := by
  refine FO_ext (fun k => rfl) (fun k => rfl) (fun k => rfl) (fun k => ?_) (fun k => rfl)
  unfold brd
  simp only [qs_fIsI, qs_fIsL, qs_fIsR, qs_fIsA, qs_fIsB, qs_fLsI, qs_fLsL, qs_fLsR, qs_fLsA, qs_fLsB, qs_fRsI, qs_fRsL, qs_fRsR, qs_fRsA, qs_fRsB, qs_fAsI, qs_fAsL, qs_fAsR, qs_fAsA, qs_fAsB, qs_fBsI, qs_fBsL, qs_fBsR, qs_fBsA, qs_fBsB, qs_up, qs_fIrA, qs_fLrA, qs_fRrA, qs_fArA, qs_fBrA, qs_fIrB, qs_fLrB, qs_fRrB, qs_fArB, qs_fBrB]
  by_cases e : k = 24
  · subst e; rfl
  · rw [if_neg e]
    repeat' split
    all_goals first | rfl | (exfalso; omega)
end
