section
/-! pure layer S: add -/
def sl (o : FO) (n hd w t c r : Nat) (k : Int32) : FO := sI (sA (sA (sA (sA (sA (sA (sI o 0 0) 11 n (nI hd)) 12 n (nI w)) 13 n (nI t)) 14 n (nI c)) 15 n (nI r)) 16 n k) 10 (nI (n + 1))
section SLR
variable {o : FO} {n hd w t c r : Nat} {k : Int32}
theorem sl_11 (j : Nat) : fA (sl o n hd w t c r k) 11 j = if j = n then nI hd else fA o 11 j := rfl
theorem sl_12 (j : Nat) : fA (sl o n hd w t c r k) 12 j = if j = n then nI w else fA o 12 j := rfl
theorem sl_13 (j : Nat) : fA (sl o n hd w t c r k) 13 j = if j = n then nI t else fA o 13 j := rfl
theorem sl_14 (j : Nat) : fA (sl o n hd w t c r k) 14 j = if j = n then nI c else fA o 14 j := rfl
theorem sl_15 (j : Nat) : fA (sl o n hd w t c r k) 15 j = if j = n then nI r else fA o 15 j := rfl
theorem sl_16 (j : Nat) : fA (sl o n hd w t c r k) 16 j = if j = n then k else fA o 16 j := rfl
theorem sl_r {j : Nat} (h : j < 11 ∨ 16 < j) : fA (sl o n hd w t c r k) j = fA o j := by
  unfold sl
  simp only [qs_fIsI, qs_fIsL, qs_fIsR, qs_fIsA, qs_fIsB, qs_fLsI, qs_fLsL, qs_fLsR, qs_fLsA, qs_fLsB, qs_fRsI, qs_fRsL, qs_fRsR, qs_fRsA, qs_fRsB, qs_fAsI, qs_fAsL, qs_fAsR, qs_fAsA, qs_fAsB, qs_fBsI, qs_fBsL, qs_fBsR, qs_fBsA, qs_fBsB, qs_up]
  rw [if_neg (by omega), if_neg (by omega), if_neg (by omega), if_neg (by omega), if_neg (by omega), if_neg (by omega)]
theorem sl_fold {m : Nat} (hA : WFA o n m) (n40 : n ≤ 40) : abFold (sl o n hd w t c r k) m = abFold o m := abFold_cong fun j hj => by
  obtain ⟨⟨s, hs, es⟩, -⟩ := hA j hj
  have e : (fA o 4 j).toNatClampNeg = s := by rw [es]; exact qn_cl (by omega)
  have ne : ¬ s = n := by omega
  rw [e, sl_14, sl_15, sl_16, if_neg ne, if_neg ne, if_neg ne]
  exact ⟨rfl, rfl, rfl, rfl, rfl, rfl, rfl, rfl⟩
end SLR
theorem CT.addShape {R B o : FO} {sh ac ed wn kb py : Nat → FO} {cp : Nat → Nat → FO} {n m ne np : Nat} {cs : Nat → Nat} {E : Nat → AB} (h : CT R B o sh ac ed wn kb py cp n m ne np cs E) {sh' : Nat → FO} {hd w t c r : Nat} {k : Int32} (n40 : n < 40) (m200 : m ≤ 200) (hh : hd < 6) (hc : c < 24) (hr : r < 16) (hw : 1 ≤ w ∧ c + w ≤ 24) (ht : 1 ≤ t ∧ r + t ≤ 16)
    (hs : ∀ j, j < n → sh' j = sh j) (hn : shF (sh' n) (sl o n hd w t c r k) n) : CT R B (sl o n hd w t c r k) sh' ac ed wn kb py cp (n + 1) m ne np cs E := by
  obtain ⟨⟨c1, c2, c3⟩, ⟨s1, s2⟩, ⟨a1, a2⟩, hu', hd', ⟨b1, b2, b3⟩, he, hf, hm', hp⟩ := h
  have hrr : ∀ j, 25 < j → fA (sl o n hd w t c r k) j = fA o j := fun j hj => sl_r (Or.inr (by omega))
  have ef : abFold (sl o n hd w t c r k) m = abFold o m := sl_fold a1 (by omega)
  have hwh : ∀ s, s < n → fA (sl o n hd w t c r k) 12 s = fA o 12 s ∧ fA (sl o n hd w t c r k) 13 s = fA o 13 s := fun s hs => by
    have : ¬ s = n := by omega
    rw [sl_12, sl_13, if_neg this, if_neg this]
    exact ⟨rfl, rfl⟩
  have hwm := (abFold_ok m200 (by omega) a1 s1 m (Nat.le_refl _)).1
  refine ⟨⟨c1, rfl, c3⟩, ⟨fun j hj => ?_, fun j hj => ?_⟩, ⟨fun j hj => ?_, fun j hj => ?_⟩, ?_, ?_, ⟨?_, ?_, ?_⟩, fun e he' => (he e he').cong hrr hwh (Nat.le_succ _) (Nat.le_refl _), hf.cong hrr, hm'.cong hrr rfl, hp.cong hrr⟩
  · rw [sl_11, sl_12, sl_13, sl_14, sl_15]
    by_cases e : j = n
    · rw [if_pos e, if_pos e, if_pos e, if_pos e, if_pos e]
      exact ⟨⟨hd, hh, rfl⟩, ⟨w, hw.1, by omega, rfl⟩, ⟨t, ht.1, by omega, rfl⟩, ⟨c, hc, rfl⟩, ⟨r, hr, rfl⟩⟩
    · rw [if_neg e, if_neg e, if_neg e, if_neg e, if_neg e]
      exact s1 j (by omega)
  · by_cases e : j = n
    · rw [e]; exact hn
    · show shF (sh' j) (sl o n hd w t c r k) j
      unfold shF
      rw [hs j (by omega), sl_11, sl_12, sl_13, sl_14, sl_15, sl_16, if_neg e, if_neg e, if_neg e, if_neg e, if_neg e, if_neg e]
      exact s2 j (by omega)
  · have e2 := sl_r (o := o) (n := n) (hd := hd) (w := w) (t := t) (c := c) (r := r) (k := k) (j := 2) (Or.inl (by decide))
    have e3 := sl_r (o := o) (n := n) (hd := hd) (w := w) (t := t) (c := c) (r := r) (k := k) (j := 3) (Or.inl (by decide))
    have e4 := sl_r (o := o) (n := n) (hd := hd) (w := w) (t := t) (c := c) (r := r) (k := k) (j := 4) (Or.inl (by decide))
    have e5 := sl_r (o := o) (n := n) (hd := hd) (w := w) (t := t) (c := c) (r := r) (k := k) (j := 5) (Or.inl (by decide))
    have e6 := sl_r (o := o) (n := n) (hd := hd) (w := w) (t := t) (c := c) (r := r) (k := k) (j := 6) (Or.inl (by decide))
    have e7 := sl_r (o := o) (n := n) (hd := hd) (w := w) (t := t) (c := c) (r := r) (k := k) (j := 7) (Or.inl (by decide))
    rw [e2, e3, e4, e5, e6, e7]
    obtain ⟨⟨s, i1, i1'⟩, i2, i3, i4, i5, i6, i7⟩ := a1 j hj
    exact ⟨⟨s, by omega, i1'⟩, i2, i3, i4, i5, fun z => by
      obtain ⟨q, q1, q2⟩ := i6 z
      exact ⟨q, by omega, q2⟩, i7⟩
  · have := a2 j hj
    unfold acF at this ⊢
    rw [sl_r (Or.inl (by decide)), sl_r (Or.inl (by decide)), sl_r (Or.inl (by decide)), sl_r (Or.inl (by decide)), sl_r (Or.inl (by decide)), sl_r (Or.inl (by decide))]
    exact this
  · intro h1 hh1
    obtain ⟨u, st, hh2⟩ := hu' h1 hh1
    refine ⟨u, st, ?_⟩
    unfold cUh at hh2 ⊢
    rw [sl_r (Or.inl (by decide)), sl_r (Or.inl (by decide)), sl_r (Or.inl (by decide)), sl_r (Or.inl (by decide))]
    exact hh2
  · intro j hj
    rw [sl_r (Or.inr (by decide))]
    exact hd' j hj
  · rw [ef]
    exact b1.cong fun s hs => hwh s (hwm.2 s hs).1
  · rw [ef]; exact b2
  · rw [ef]; exact b3
theorem w_rectT {p q x y : Int32} {post : Prop} {px : String → Prop} (h1 : ¬ p < 0 ∧ ¬ 23 < p) (h2 : ¬ q < 0 ∧ ¬ 15 < q) (h3 : ¬ x < 1 ∧ ¬ 24 - p < x) (h4 : ¬ y < 1 ∧ ¬ 16 - q < y) (k : post) : wp_X7_checkRectangle p q x y post px :=
  w_rangeT h1 (w_rangeT h2 (w_rangeT h3 (w_rangeT h4 k)))
theorem w_rectF {p q x y : Int32} {post : Prop} {px : String → Prop} (h : ¬ ((¬ p < 0 ∧ ¬ 23 < p) ∧ (¬ q < 0 ∧ ¬ 15 < q) ∧ (¬ x < 1 ∧ ¬ 24 - p < x) ∧ (¬ y < 1 ∧ ¬ 16 - q < y))) (k : px "java/lang/IllegalArgumentException") : wp_X7_checkRectangle p q x y post px := by
  by_cases h1 : ¬ p < 0 ∧ ¬ 23 < p
  · by_cases h2 : ¬ q < 0 ∧ ¬ 15 < q
    · by_cases h3 : ¬ x < 1 ∧ ¬ 24 - p < x
      · exact w_rangeT h1 (w_rangeT h2 (w_rangeT h3 (w_rangeF (fun h4 => h ⟨h1, h2, h3, h4⟩) k)))
      · exact w_rangeT h1 (w_rangeT h2 (w_rangeF h3 k))
    · exact w_rangeT h1 (w_rangeF h2 k)
  · exact w_rangeF h1 k
/-- a rectangle within the board, by numbers -/
theorem q_rect {p q x y : Int32} (h1 : ¬ p < 0 ∧ ¬ 23 < p) (h2 : ¬ q < 0 ∧ ¬ 15 < q) (h3 : ¬ x < 1 ∧ ¬ 24 - p < x) (h4 : ¬ y < 1 ∧ ¬ 16 - q < y) : ∃ c r w t, p = nI c ∧ q = nI r ∧ x = nI w ∧ y = nI t ∧ c < 24 ∧ r < 16 ∧ 1 ≤ w ∧ c + w ≤ 24 ∧ 1 ≤ t ∧ r + t ≤ 16 := by
  obtain ⟨c, hc, rfl⟩ := (q_rng (n := 24) (by decide) (by decide)).mp h1
  obtain ⟨r, hr, rfl⟩ := (q_rng (n := 16) (by decide) (by decide)).mp h2
  have e1 : (1 : Int32).toInt = 1 := rfl
  have e24 : (24 : Int32) - nI c = nI (24 - c) := pk_sub (a := 24) (b := c) (by omega)
  have e16 : (16 : Int32) - nI r = nI (16 - r) := pk_sub (a := 16) (b := r) (by omega)
  rw [e24, q_lt, q_lt, q_nI (by omega), e1] at h3
  rw [e16, q_lt, q_lt, q_nI (by omega), e1] at h4
  refine ⟨c, r, x.toInt.toNat, y.toInt.toNat, rfl, rfl, q_nn (by omega), q_nn (by omega), hc, hr, ?_, ?_, ?_, ?_⟩ <;> omega
theorem m_fitT {a p q x y z : Int32} {o : FO} {post : Int32 → FO → Prop} (h1 : ¬ p < 0 ∧ ¬ 23 < p) (h2 : ¬ q < 0 ∧ ¬ 15 < q) (h3 : ¬ x < 1 ∧ ¬ 24 - p < x) (h4 : ¬ y < 1 ∧ ¬ 16 - q < y) (h5 : ¬ z < 1 ∧ ¬ 9 < z) (k : wp_X8_add_74 a p q x y z post 1 o) : wp_X8_add a p q x y z o post :=
  m_inT h1 (b1 (m_inT h2 (b1 (m_inT h5 (b1 (b1 (m_inT h3 (b1 (m_inT h4 (b1 k))))))))))
theorem m_fitF {a p q x y z : Int32} {o : FO} {post : Int32 → FO → Prop} (h : ¬ ((¬ p < 0 ∧ ¬ 23 < p) ∧ (¬ q < 0 ∧ ¬ 15 < q) ∧ (¬ x < 1 ∧ ¬ 24 - p < x) ∧ (¬ y < 1 ∧ ¬ 16 - q < y) ∧ (¬ z < 1 ∧ ¬ 9 < z))) (k : wp_X8_add_74 a p q x y z post 0 o) : wp_X8_add a p q x y z o post := by
  by_cases h1 : ¬ p < 0 ∧ ¬ 23 < p
  · by_cases h2 : ¬ q < 0 ∧ ¬ 15 < q
    · by_cases h5 : ¬ z < 1 ∧ ¬ 9 < z
      · by_cases h3 : ¬ x < 1 ∧ ¬ 24 - p < x
        · exact m_inT h1 (b1 (m_inT h2 (b1 (m_inT h5 (b1 (b1 (m_inT h3 (b1 (m_inF (fun h4 => h ⟨h1, h2, h3, h4, h5⟩) (b0 k))))))))))
        · exact m_inT h1 (b1 (m_inT h2 (b1 (m_inT h5 (b1 (b1 (m_inF h3 (b0 k))))))))
      · exact m_inT h1 (b1 (m_inT h2 (b1 (m_inF h5 (b0 (b0 k))))))
    · exact m_inT h1 (b1 (m_inF h2 (b0 (b0 k))))
  · exact m_inF h1 (b0 (b0 k))
section CS
variable {g : GH} {A : Rl → Nat} {ob : Rl → FO} {D : GD} {n m ne np : Nat} {E : Nat → AB} {K : GH → Prop}
theorem c_add (h : IV g A ob D n m ne np E) (k : ∀ g', NX A np g' → K g') (a p q x y z : Int32) {post : Int32 → GH → Prop} (hp : ∀ xx g', (∃ o, g' (A rMd) = some (9, o) ∧ wp_X8_add a p q x y z o (fun v o' => LW (A rMd) (A rOut) K xx v o' g')) → post xx g') : wp_L_add (A rRm) a p q x y z (A rOut) g post := by
  have n40 := h.n40
  have m200 := h.m200
  have T : ∀ c : Int32, (c = 1 ∨ c = 2 ∨ c = 3) → wp_X8_add_121 a p q x y z (fun v o' => LW (A rMd) (A rOut) K c v o' g) c (ob rMd) := fun c hc => by
    rintro _ rfl
    exact t_no hc (h.qT k (by rcases hc with rfl | rfl | rfl <;> decide))
  by_cases hh : ∃ hd, hd < 6 ∧ a = nI hd
  · obtain ⟨hd, hh, rfl⟩ := hh
    by_cases hf : (¬ p < 0 ∧ ¬ 23 < p) ∧ (¬ q < 0 ∧ ¬ 15 < q) ∧ (¬ x < 1 ∧ ¬ 24 - p < x) ∧ (¬ y < 1 ∧ ¬ 16 - q < y) ∧ (¬ z < 1 ∧ ¬ 9 < z)
    · obtain ⟨h1, h2, h3, h4, h5⟩ := hf
      by_cases hn : n < 40
      · by_cases hm : m < 200
        · obtain ⟨c, r, w, t, rfl, rfl, rfl, rfl, hc, hr, w1, w2, t1, t2⟩ := q_rect h1 h2 h3 h4
          obtain ⟨hV, hG, hM⟩ := h.bd
          refine ⟨_, h.1.rm, w_handT hh (w_rectT h1 h2 h3 h4 (w_rangeT h5 ⟨_, h.1.rm, _, h.1.l0, ?_⟩))⟩
          rw [h.1.n0]
          refine ⟨fun zz => absurd zz (nI_ge hn (by decide)), fun _ => ⟨_, h.1.rm, _, h.1.l1, ?_⟩⟩
          rw [h.1.n1]
          refine ⟨fun _ => ⟨_, h.1.rm, _, h.1.l0, _, h.1.rm, fun a26 ha => ?_⟩, fun zz => absurd (nI_lt hm (by decide)) zz⟩
          rintro _ rfl
          refine ⟨_, hu_s, ?_⟩
          rintro _ rfl _ rfl _ rfl _ rfl _ rfl _ rfl
          rintro _ rfl
          rw [hu_hu]
          obtain ⟨X, hX⟩ : ∃ X, X = sI (sI (sI (sI (sI (sI fo0 0 (nI hd)) 1 (nI c)) 2 (nI r)) 3 (nI w)) 4 (nI t)) 5 z := ⟨_, rfl⟩
          rw [← hX]
          have q1 := h.1.newSh (x := X) ha
          have eA : ∀ q : Rl, q.1 ≠ 3 → rup A (rSh n) a26 q = A q := fun q hq => rup_k hq
          have eO : ∀ q : Rl, q.1 ≠ 3 → rup ob (rSh n) X q = ob q := fun q hq => rup_k hq
          have l0 := q1.l0
          rw [eO rRm (by decide), eO (rLs 0) (by decide)] at l0
          have q2 := q1.addSh (Nat.lt_succ_self n) hn
          rw [eO rRm (by decide), eO (rLs 0) (by decide), rup_s] at q2
          refine ⟨_, l0, ?_, fun j hj => ?_, ⟨6, X, by decide, hu_s⟩, ?_⟩
          · rw [h.1.n0]; exact vp_in_nI hn (by decide)
          · rw [h.1.n0, qn_cl (by omega)] at hj
            have := q1.1.get (rSh j) (q1.alSh hj)
            have e := q1.2.1.2.2.1 j hj
            rw [eO (rLs 0) (by decide)] at e
            exact ⟨6, _, by decide, by rw [e]; exact this⟩
          · rintro _ rfl
            intro a41 ha41
            have eO2 : ∀ q : Rl, q.1 ≠ 1 → rup (rup ob (rSh n) X) (rLs 0) (lAdd (ob (rLs 0)) a26) q = rup ob (rSh n) X q := fun q hq => rup_k hq
            have hC : CT (rup (rup ob (rSh n) X) (rLs 0) (lAdd (ob (rLs 0)) a26) rRm) (rup (rup ob (rSh n) X) (rLs 0) (lAdd (ob (rLs 0)) a26) rBd) (sl (ob rMd) n hd w t c r z) (fun j => rup (rup ob (rSh n) X) (rLs 0) (lAdd (ob (rLs 0)) a26) (rSh j)) (fun j => rup (rup ob (rSh n) X) (rLs 0) (lAdd (ob (rLs 0)) a26) (rAc j)) (fun j => rup (rup ob (rSh n) X) (rLs 0) (lAdd (ob (rLs 0)) a26) (rEd j)) (fun j => rup (rup ob (rSh n) X) (rLs 0) (lAdd (ob (rLs 0)) a26) (rWn j)) (fun j => rup (rup ob (rSh n) X) (rLs 0) (lAdd (ob (rLs 0)) a26) (rKb j)) (fun j => rup (rup ob (rSh n) X) (rLs 0) (lAdd (ob (rLs 0)) a26) (rPy j)) (fun e j => rup (rup ob (rSh n) X) (rLs 0) (lAdd (ob (rLs 0)) a26) (rCp e j)) (n + 1) m ne np D.2.2.2.2.1 E := by
              have f : ∀ q : Rl, q.1 ≠ 1 → q.1 ≠ 3 → rup (rup ob (rSh n) X) (rLs 0) (lAdd (ob (rLs 0)) a26) q = ob q := fun q i1 i3 => (eO2 q i1).trans (eO q i3)
              have f4 : (fun j => rup (rup ob (rSh n) X) (rLs 0) (lAdd (ob (rLs 0)) a26) (rAc j)) = fun j => ob (rAc j) := funext fun j => f _ (by decide : ¬ (4 : Nat) = 1) (by decide : ¬ (4 : Nat) = 3)
              have f5 : (fun j => rup (rup ob (rSh n) X) (rLs 0) (lAdd (ob (rLs 0)) a26) (rEd j)) = fun j => ob (rEd j) := funext fun j => f _ (by decide : ¬ (5 : Nat) = 1) (by decide : ¬ (5 : Nat) = 3)
              have f6 : (fun j => rup (rup ob (rSh n) X) (rLs 0) (lAdd (ob (rLs 0)) a26) (rWn j)) = fun j => ob (rWn j) := funext fun j => f _ (by decide : ¬ (6 : Nat) = 1) (by decide : ¬ (6 : Nat) = 3)
              have f7 : (fun j => rup (rup ob (rSh n) X) (rLs 0) (lAdd (ob (rLs 0)) a26) (rKb j)) = fun j => ob (rKb j) := funext fun j => f _ (by decide : ¬ (7 : Nat) = 1) (by decide : ¬ (7 : Nat) = 3)
              have f10 : (fun j => rup (rup ob (rSh n) X) (rLs 0) (lAdd (ob (rLs 0)) a26) (rPy j)) = fun j => ob (rPy j) := funext fun j => f _ (by decide : ¬ (10 : Nat) = 1) (by decide : ¬ (10 : Nat) = 3)
              have f9 : (fun e j => rup (rup ob (rSh n) X) (rLs 0) (lAdd (ob (rLs 0)) a26) (rCp e j)) = fun e j => ob (rCp e j) := funext fun e => funext fun j => f _ (by decide : ¬ (9 : Nat) = 1) (by decide : ¬ (9 : Nat) = 3)
              rw [f4, f5, f6, f7, f10, f9, f rRm (by decide) (by decide), f rBd (by decide) (by decide)]
              refine h.2.addShape hn m200 hh hc hr ⟨w1, w2⟩ ⟨t1, t2⟩ (fun j hj => ?_) ?_
              · show rup (rup ob (rSh n) X) (rLs 0) (lAdd (ob (rLs 0)) a26) (rSh j) = ob (rSh j)
                rw [eO2 (rSh j) (by decide : ¬ (3 : Nat) = 1)]
                exact rup_j (show j ≠ n by omega)
              · show shF (rup (rup ob (rSh n) X) (rLs 0) (lAdd (ob (rLs 0)) a26) (rSh n)) _ n
                rw [eO2 (rSh n) (by decide : ¬ (3 : Nat) = 1), rup_s]
                unfold shF
                rw [sl_11, sl_12, sl_13, sl_14, sl_15, sl_16, if_pos (rfl : n = n), if_pos (rfl : n = n), if_pos (rfl : n = n), if_pos (rfl : n = n), if_pos (rfl : n = n), if_pos (rfl : n = n), hX]
                exact ⟨rfl, rfl, rfl, rfl, rfl, rfl⟩
            have key := cl_tell (hd := hd) (kd := 0) (s := nI n) (f1 := -1) (f2 := -1) (o0 := sl (ob rMd) n hd w t c r z) (x := 0) (y := 0) (rest := fun g52 => ∃ o7, g52 (A rOut) = some (10, o7) ∧ ∀ g9, g9 = hu g52 (A rOut) (10, sB o7 0 0 (nI n).toInt64) → post 0 g9) q2 hC ha41 hh hm ⟨n, Nat.lt_succ_self n, rfl⟩ ⟨0, by decide, rfl⟩ (fun zz => absurd zz (by decide)) (fun zz => absurd zz (by decide)) (fun _ j hj _ zz => by
              obtain ⟨⟨s, hs, es⟩, -⟩ := h.ac.1 j hj
              have zz : fA (ob rMd) 4 j = nI n := zz
              rw [es] at zz
              have := q_nIi zz (by omega) (by omega)
              omega) (fun zz => absurd zz (by decide)) (fun zz => absurd zz (by decide)) (fun g' A' ob' D' hQ eA' eO' hA cV cG hCT => ?_)
            · rw [eA rRm (by decide)] at key
              rw [h.1.n0]
              exact key
            · have eM : A' rMd = A rMd := eA'.2.1.trans (eA rMd (by decide))
              have eR : A' rRm = A rRm := eA'.1.trans (eA rRm (by decide))
              have eU : A' rOut = A rOut := eA'.2.2.trans (eA rOut (by decide))
              have oM : ob' rMd = ob rMd := eO'.2.1.trans ((eO2 rMd (by decide)).trans (eO rMd (by decide)))
              have oU : ob' rOut = ob rOut := eO'.2.2.trans ((eO2 rOut (by decide)).trans (eO rOut (by decide)))
              have hout := hQ.out
              rw [eU, oU] at hout
              have hmd := hQ.md
              rw [eM, oM] at hmd
              have hmo : ∀ xo, hu g' (A rOut) (10, xo) (A rMd) = some (9, ob rMd) := fun xo => by rw [hu_n (fun zz => h.om zz.symm)]; exact hmd
              refine ⟨_, hout, ?_⟩
              rintro _ rfl
              have hv : vp_in (fI (sI (ob rMd) 0 0) 10) 40 := by
                show vp_in (fI (ob rMd) 10) 40
                rw [h.n10]; exact vp_in_nI hn (by decide)
              refine hp 0 _ ⟨_, hmo _, m_fitT h1 h2 h3 h4 h5 (m_hand1 hh (b1' (b1' ⟨fun zz => ?_, fun _ => ⟨fun _ => ?_, fun zz => ?_⟩⟩)))⟩
              · rw [h.n10] at zz
                have := q_nIi (b := 40) zz (by omega) (by decide)
                omega
              · rintro _ rfl
                refine t_ok rfl ⟨hv, ?_⟩
                rintro _ rfl
                refine ⟨hv, ?_⟩
                rintro _ rfl
                refine ⟨hv, ?_⟩
                rintro _ rfl
                refine ⟨hv, ?_⟩
                rintro _ rfl
                refine ⟨hv, ?_⟩
                rintro _ rfl
                refine ⟨hv, ?_⟩
                rintro _ rfl _ rfl
                have es : sI (sA (sA (sA (sA (sA (sA (sI (ob rMd) 0 0) 11 (fI (ob rMd) 10).toNatClampNeg (nI hd)) 12 (fI (ob rMd) 10).toNatClampNeg (nI w)) 13 (fI (ob rMd) 10).toNatClampNeg (nI t)) 14 (fI (ob rMd) 10).toNatClampNeg (nI c)) 15 (fI (ob rMd) 10).toNatClampNeg (nI r)) 16 (fI (ob rMd) 10).toNatClampNeg z) 10 (fI (ob rMd) 10 + 1) = sl (ob rMd) n hd w t c r z := by
                  rw [h.n10, nI_1, qn_cl (by omega)]
                  rfl
                have en : (nI n : Int32) = fI (sl (ob rMd) n hd w t c r z) 10 - 1 := (nI_pred n).symm
                have fin : wp_X8_tells (nI hd) 0 (fI (sl (ob rMd) n hd w t c r z) 10 - 1) 0 0 (sl (ob rMd) n hd w t c r z) (fun o46 => LW (A rMd) (A rOut) K 0 (fI o46 10 - 1) o46 (hu g' (A rOut) (10, sB (ob rOut) 0 0 (nI n).toInt64))) := by
                  rw [← en]
                  have hN := hC
                  refine w_tells (o := sl (ob rMd) n hd w t c r z) (n := n + 1) h.n1 hm hh rfl (by omega) hA hC.2.1.1 (fun j j1 j2 => ?_) fun q g19 g20 g21 g22 g23 g24 hM' => ?_
                  · rw [sl_r (Or.inr (by decide))]
                    exact h20_of hM.2.2.1 h.abw j (by omega) j2
                  · exact h.uV k hQ ⟨eR, eM, eU⟩ (Nat.le_succ _) rfl (congrArg Int32.toInt64 en) (hCT _ _ _ _ _ _ _ hM')
                rw [← es] at fin
                exact fin
              · rw [h.n1] at zz
                have := q_nIi (b := 200) zz (by omega) (by decide)
                omega
        · have hm' : m = 200 := by omega
          refine ⟨_, h.1.rm, w_handT hh (w_rectT h1 h2 h3 h4 (w_rangeT h5 ⟨_, h.1.rm, _, h.1.l0, ?_⟩))⟩
          rw [h.1.n0]
          refine ⟨fun zz => absurd zz (nI_ge hn (by decide)), fun _ => ⟨_, h.1.rm, _, h.1.l1, ?_⟩⟩
          rw [h.1.n1]
          refine ⟨fun zz => ?_, fun _ => Or.inr (Or.inr ⟨rfl, hp 3 _ ⟨_, h.md, m_fitT h1 h2 h3 h4 h5 (m_hand1 hh (b1' (b1' ⟨fun _ => T 3 (Or.inr (Or.inr rfl)), fun _ => ⟨fun zz => ?_, fun _ => T 3 (Or.inr (Or.inr rfl))⟩⟩)))⟩⟩)⟩
          · subst hm'
            exact absurd zz (Int32.lt_irrefl)
          · exact absurd (by rw [h.n1, hm']; rfl) zz
      · have hn' : n = 40 := by omega
        refine ⟨_, h.1.rm, w_handT hh (w_rectT h1 h2 h3 h4 (w_rangeT h5 ⟨_, h.1.rm, _, h.1.l0, ?_⟩))⟩
        rw [h.1.n0]
        refine ⟨fun _ => Or.inr (Or.inr ⟨rfl, hp 3 _ ⟨_, h.md, m_fitT h1 h2 h3 h4 h5 (m_hand1 hh (b1' (b1' ⟨fun _ => T 3 (Or.inr (Or.inr rfl)), fun zz => ?_⟩)))⟩⟩), fun zz => ?_⟩
        · exact absurd (by rw [h.n10, hn']; rfl) zz
        · subst hn'
          exact absurd (Int32.le_refl _) zz
    · refine ⟨_, h.1.rm, w_handT hh ?_⟩
      have bad : post 2 g := hp 2 _ ⟨_, h.md, m_fitF hf (m_hand1 hh (b1' (b0' (T 2 (Or.inr (Or.inl rfl))))))⟩
      by_cases hr : (¬ p < 0 ∧ ¬ 23 < p) ∧ (¬ q < 0 ∧ ¬ 15 < q) ∧ (¬ x < 1 ∧ ¬ 24 - p < x) ∧ (¬ y < 1 ∧ ¬ 16 - q < y)
      · obtain ⟨h1, h2, h3, h4⟩ := hr
        exact w_rectT h1 h2 h3 h4 (w_rangeF (fun h5 => hf ⟨h1, h2, h3, h4, h5⟩) (Or.inr (Or.inl ⟨rfl, bad⟩)))
      · exact w_rectF hr (Or.inr (Or.inl ⟨rfl, bad⟩))
  · refine ⟨_, h.1.rm, w_handF hh (Or.inl ⟨rfl, hp 1 _ ⟨_, h.md, ?_⟩⟩)⟩
    by_cases hf : (¬ p < 0 ∧ ¬ 23 < p) ∧ (¬ q < 0 ∧ ¬ 15 < q) ∧ (¬ x < 1 ∧ ¬ 24 - p < x) ∧ (¬ y < 1 ∧ ¬ 16 - q < y) ∧ (¬ z < 1 ∧ ¬ 9 < z)
    · obtain ⟨h1, h2, h3, h4, h5⟩ := hf
      exact m_fitT h1 h2 h3 h4 h5 (m_hand0 hh (b0' (T 1 (Or.inl rfl))))
    · exact m_fitF hf (m_hand0 hh (b0' (T 1 (Or.inl rfl))))
end CS
end
