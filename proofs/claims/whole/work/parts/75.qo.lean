section
/-! pure layer O: new objects, longer lists -/
section HN
variable {g : GH} {A : Rl → Nat} {ob : Rl → FO} {D : GD} {n m ne np : Nat}
theorem rl_ne {q : Rl} {a k : Nat} (h : q ≠ (a, k, 0)) (h1 : q.1 = a) (h2 : q.2.2 = 0) : q.2.1 ≠ k := fun e => h (by
  obtain ⟨x, y, z⟩ := q
  cases h1; cases h2; cases e; rfl)
theorem al_addSh {q : Rl} (h : n ≤ D.1) (hq : al (n + 1, D.2) q) (hne : q ≠ rSh n) : al D q :=
  hq.imp id fun z => z.imp id fun z => z.imp id fun z => z.imp (fun y => ⟨y.1, by
    have := rl_ne hne y.1 y.2.2
    have := y.2.1
    have : q.2.1 < n + 1 := this
    omega, y.2.2⟩) id
theorem al_addAc {q : Rl} (h : m ≤ D.2.1) (hq : al (D.1, m + 1, D.2.2) q) (hne : q ≠ rAc m) : al D q :=
  hq.imp id fun z => z.imp id fun z => z.imp id fun z => z.imp id fun z => z.imp (fun y => ⟨y.1, by
    have := rl_ne hne y.1 y.2.2
    have := y.2.1
    have : q.2.1 < m + 1 := this
    omega, y.2.2⟩) id
theorem al_addPy {q : Rl} (h : np ≤ D.2.2.2.2.2) (hq : al (D.1, D.2.1, D.2.2.1, D.2.2.2.1, D.2.2.2.2.1, np + 1) q) (hne : q ≠ rPy np) : al D q :=
  hq.imp id fun z => z.imp id fun z => z.imp id fun z => z.imp id fun z => z.imp id fun z => z.imp id fun z => z.imp id fun z => z.imp id fun z => z.imp id fun z => z.imp id fun z => z.imp (fun y => ⟨y.1, by
    have := rl_ne hne y.1 y.2.2
    have := y.2.1
    have : q.2.1 < np + 1 := this
    omega, y.2.2⟩) id
/-- pointers stay when one more object has an address -/
theorem PT.ren {A' : Rl → Nat} {ob' : Rl → FO} {cs : Nat → Nat} (h : PT A ob n m ne np cs) (hA : ∀ r, A' r = A r ∨ (r.1 = 3 ∧ n ≤ r.2.1) ∨ (r.1 = 4 ∧ m ≤ r.2.1) ∨ (r.1 = 10 ∧ np ≤ r.2.1)) (ho : ∀ r : Rl, r.1 = 0 ∨ r.1 = 1 ∨ r.1 = 5 ∨ r.1 = 8 → ob' r = ob r) : PT A' ob' n m ne np cs := by
  have hA1 : ∀ r : Rl, r.1 ≠ 3 → r.1 ≠ 4 → r.1 ≠ 10 → A' r = A r := fun r h1 h2 h3 => by
    rcases hA r with z | z | z | z
    · exact z
    · exact absurd z.1 h1
    · exact absurd z.1 h2
    · exact absurd z.1 h3
  have hSh : ∀ j, j < n → A' (rSh j) = A (rSh j) := fun j hj => by
    rcases hA (rSh j) with z | z | z | z
    · exact z
    · exact absurd z.2 (Nat.not_le.mpr hj)
    · exact absurd z.1 (by decide : ¬ (3 : Nat) = 4)
    · exact absurd z.1 (by decide : ¬ (3 : Nat) = 10)
  have hAc : ∀ j, j < m → A' (rAc j) = A (rAc j) := fun j hj => by
    rcases hA (rAc j) with z | z | z | z
    · exact z
    · exact absurd z.1 (by decide : ¬ (4 : Nat) = 3)
    · exact absurd z.2 (Nat.not_le.mpr hj)
    · exact absurd z.1 (by decide : ¬ (4 : Nat) = 10)
  have hPy : ∀ j, j < np → A' (rPy j) = A (rPy j) := fun j hj => by
    rcases hA (rPy j) with z | z | z | z
    · exact z
    · exact absurd z.1 (by decide : ¬ (10 : Nat) = 3)
    · exact absurd z.1 (by decide : ¬ (10 : Nat) = 4)
    · exact absurd z.2 (Nat.not_le.mpr hj)
  have k1 : ∀ j, A' (rLs j) = A (rLs j) := fun j => hA1 _ (by decide : ¬ (1 : Nat) = 3) (by decide : ¬ (1 : Nat) = 4) (by decide : ¬ (1 : Nat) = 10)
  have kb : A' rBd = A rBd := hA1 _ (by decide) (by decide) (by decide)
  have ks : A' rSp = A rSp := hA1 _ (by decide) (by decide) (by decide)
  obtain ⟨⟨a0, a1, a2, a3, a4, a5⟩, b, c, d, e, f, q⟩ := h
  unfold PT
  rw [ho rRm (Or.inl rfl), ho (rLs 0) (Or.inr (Or.inl rfl)), ho (rLs 1) (Or.inr (Or.inl rfl)), ho (rLs 2) (Or.inr (Or.inl rfl)), ho (rLs 3) (Or.inr (Or.inl rfl)), k1, k1, k1, k1, kb, ks]
  refine ⟨⟨a0, a1, a2, a3, a4, a5⟩, b, fun j hj => ?_, fun j hj => ?_, fun j hj => ?_, fun j hj => ?_, fun x hx => ?_⟩
  · rw [hSh j hj]; exact c j hj
  · rw [hAc j hj]; exact d j hj
  · rw [hA1 (rEd j) (by decide : ¬ (5 : Nat) = 3) (by decide : ¬ (5 : Nat) = 4) (by decide : ¬ (5 : Nat) = 10)]; exact e j hj
  · rw [hPy j hj]; exact f j hj
  · obtain ⟨q1, q2, q3, q4, q5⟩ := q x hx
    rw [ho (rEd x) (Or.inr (Or.inr (Or.inl rfl))), ho (rCl x) (Or.inr (Or.inr (Or.inr rfl))), hA1 (rWn x) (by decide : ¬ (6 : Nat) = 3) (by decide : ¬ (6 : Nat) = 4) (by decide : ¬ (6 : Nat) = 10), hA1 (rKb x) (by decide : ¬ (7 : Nat) = 3) (by decide : ¬ (7 : Nat) = 4) (by decide : ¬ (7 : Nat) = 10), hA1 (rCl x) (by decide : ¬ (8 : Nat) = 3) (by decide : ¬ (8 : Nat) = 4) (by decide : ¬ (8 : Nat) = 10)]
    refine ⟨q1, q2, q3, q4, fun j hj => ?_⟩
    rw [hA1 (rCp x j) (by decide : ¬ (9 : Nat) = 3) (by decide : ¬ (9 : Nat) = 4) (by decide : ¬ (9 : Nat) = 10)]
    exact q5 j hj
theorem rup_or {α : Type} {f : Rl → α} {r q : Rl} {x : α} : rup f r x q = f q ∨ q = r := by
  by_cases e : q = r
  · exact Or.inr e
  · exact Or.inl (rup_n e)
theorem HQ.newSh (h : HQ g A ob D n m ne np) {a : Nat} {x : FO} (ha : g a = none) : HQ (hu g a (6, x)) (rup A (rSh n) a) (rup ob (rSh n) x) (n + 1, D.2) n m ne np :=
  ⟨h.1.new ha rfl fun q hq hne => al_addSh h.2.2.1.1 hq hne, h.2.1.ren (fun r => by
    rcases rup_or (f := A) (r := rSh n) (q := r) (x := a) with z | z
    · exact Or.inl z
    · subst z; exact Or.inr (Or.inl ⟨rfl, Nat.le_refl _⟩)) (fun r hr => rup_k (by show r.1 ≠ 3; omega)), ⟨Nat.le_succ n, h.2.2.1.2⟩, h.2.2.2⟩
theorem HQ.newAc (h : HQ g A ob D n m ne np) {a : Nat} {x : FO} (ha : g a = none) : HQ (hu g a (1, x)) (rup A (rAc m) a) (rup ob (rAc m) x) (D.1, m + 1, D.2.2) n m ne np :=
  ⟨h.1.new ha rfl fun q hq hne => al_addAc h.2.2.1.2.1 hq hne, h.2.1.ren (fun r => by
    rcases rup_or (f := A) (r := rAc m) (q := r) (x := a) with z | z
    · exact Or.inl z
    · subst z; exact Or.inr (Or.inr (Or.inl ⟨rfl, Nat.le_refl _⟩))) (fun r hr => rup_k (by show r.1 ≠ 4; omega)), ⟨h.2.2.1.1, Nat.le_succ m, h.2.2.1.2.2⟩, h.2.2.2⟩
theorem HQ.newPy (h : HQ g A ob D n m ne np) {a : Nat} {x : FO} (ha : g a = none) : HQ (hu g a (5, x)) (rup A (rPy np) a) (rup ob (rPy np) x) (D.1, D.2.1, D.2.2.1, D.2.2.2.1, D.2.2.2.2.1, np + 1) n m ne np :=
  ⟨h.1.new ha rfl fun q hq hne => al_addPy h.2.2.1.2.2.2.2 hq hne, h.2.1.ren (fun r => by
    rcases rup_or (f := A) (r := rPy np) (q := r) (x := a) with z | z
    · exact Or.inl z
    · subst z; exact Or.inr (Or.inr (Or.inr ⟨rfl, Nat.le_refl _⟩))) (fun r hr => rup_k (by show r.1 ≠ 10; omega)), ⟨h.2.2.1.1, h.2.2.1.2.1, h.2.2.1.2.2.1, h.2.2.1.2.2.2.1, Nat.le_succ np⟩, h.2.2.2⟩
theorem lA_n {o : FO} {x k : Nat} (h : fI o 2 = nI k) : fI (lAdd o x) 2 = nI (k + 1) := by
  show fI o 2 + 1 = _
  rw [h, nI_1]
theorem lA_f {o : FO} {x k j : Nat} (h : fI o 2 = nI k) (hk : k < 2147483648) : fR (lAdd o x) j = if j = k then x else fR o j := by
  show (if j = (fI o 2).toNatClampNeg then x else fR o j) = _
  rw [h, qn_cl hk]
/-- one of the four lists is longer by an object that has an address -/
theorem HQ.addSh (h : HQ g A ob D n m ne np) (hn : n < D.1) (n40 : n < 40) : HQ (hu g (fR (ob rRm) 0) (0, lAdd (ob (rLs 0)) (A (rSh n)))) A (rup ob (rLs 0) (lAdd (ob (rLs 0)) (A (rSh n)))) D (n + 1) m ne np := by
  have e0 := h.n0
  have p0 := h.p0
  rw [p0]
  refine ⟨h.1.set (al_Ls (by decide)) _, ?_, ⟨hn, h.2.2.1.2⟩, ⟨n40, h.2.2.2.1.2⟩, h.2.2.2.2⟩
  obtain ⟨a, ⟨b0, b1, b2, b3⟩, c, d, e, f, q⟩ := h.2.1
  unfold PT
  rw [rup_k (show rRm.1 ≠ (rLs 0).1 from (by decide : ¬ (0 : Nat) = 1)), rup_s, rup_j (show (rLs 1).2.1 ≠ (rLs 0).2.1 by decide), rup_j (show (rLs 2).2.1 ≠ (rLs 0).2.1 by decide), rup_j (show (rLs 3).2.1 ≠ (rLs 0).2.1 by decide)]
  refine ⟨a, ⟨lA_n b0, b1, b2, b3⟩, fun j hj => ?_, d, e, f, fun x hx => ?_⟩
  · rw [lA_f b0 (by omega)]
    by_cases z : j = n
    · rw [if_pos z, z]
    · rw [if_neg z]; exact c j (by omega)
  · rw [rup_k (show (rEd x).1 ≠ (rLs 0).1 from (by decide : ¬ (5 : Nat) = 1)), rup_k (show (rCl x).1 ≠ (rLs 0).1 from (by decide : ¬ (8 : Nat) = 1))]
    exact q x hx
theorem HQ.addAc (h : HQ g A ob D n m ne np) (hm : m < D.2.1) (m200 : m < 200) : HQ (hu g (fR (ob rRm) 1) (0, lAdd (ob (rLs 1)) (A (rAc m)))) A (rup ob (rLs 1) (lAdd (ob (rLs 1)) (A (rAc m)))) D n (m + 1) ne np := by
  have e0 := h.n1
  have p0 := h.p1
  rw [p0]
  refine ⟨h.1.set (al_Ls (by decide)) _, ?_, ⟨h.2.2.1.1, hm, h.2.2.1.2.2⟩, ⟨h.2.2.2.1.1, m200, h.2.2.2.1.2.2⟩, h.2.2.2.2⟩
  obtain ⟨a, ⟨b0, b1, b2, b3⟩, c, d, e, f, q⟩ := h.2.1
  unfold PT
  rw [rup_k (show rRm.1 ≠ (rLs 1).1 from (by decide : ¬ (0 : Nat) = 1)), rup_s, rup_j (show (rLs 0).2.1 ≠ (rLs 1).2.1 by decide), rup_j (show (rLs 2).2.1 ≠ (rLs 1).2.1 by decide), rup_j (show (rLs 3).2.1 ≠ (rLs 1).2.1 by decide)]
  refine ⟨a, ⟨b0, lA_n b1, b2, b3⟩, c, fun j hj => ?_, e, f, fun x hx => ?_⟩
  · rw [lA_f b1 (by omega)]
    by_cases z : j = m
    · rw [if_pos z, z]
    · rw [if_neg z]; exact d j (by omega)
  · rw [rup_k (show (rEd x).1 ≠ (rLs 1).1 from (by decide : ¬ (5 : Nat) = 1)), rup_k (show (rCl x).1 ≠ (rLs 1).1 from (by decide : ¬ (8 : Nat) = 1))]
    exact q x hx
theorem HQ.addPy (h : HQ g A ob D n m ne np) (hnp : np < D.2.2.2.2.2) (np512 : np < 512) : HQ (hu g (fR (ob rRm) 3) (0, lAdd (ob (rLs 3)) (A (rPy np)))) A (rup ob (rLs 3) (lAdd (ob (rLs 3)) (A (rPy np)))) D n m ne (np + 1) := by
  have e0 := h.n3
  have p0 := h.p3
  rw [p0]
  refine ⟨h.1.set (al_Ls (by decide)) _, ?_, ⟨h.2.2.1.1, h.2.2.1.2.1, h.2.2.1.2.2.1, h.2.2.1.2.2.2.1, hnp⟩, ⟨h.2.2.2.1.1, h.2.2.2.1.2.1, h.2.2.2.1.2.2.1, np512⟩, h.2.2.2.2⟩
  obtain ⟨a, ⟨b0, b1, b2, b3⟩, c, d, e, f, q⟩ := h.2.1
  unfold PT
  rw [rup_k (show rRm.1 ≠ (rLs 3).1 from (by decide : ¬ (0 : Nat) = 1)), rup_s, rup_j (show (rLs 0).2.1 ≠ (rLs 3).2.1 by decide), rup_j (show (rLs 1).2.1 ≠ (rLs 3).2.1 by decide), rup_j (show (rLs 2).2.1 ≠ (rLs 3).2.1 by decide)]
  refine ⟨a, ⟨b0, b1, b2, lA_n b3⟩, c, d, e, fun j hj => ?_, fun x hx => ?_⟩
  · rw [lA_f b3 (by omega)]
    by_cases z : j = np
    · rw [if_pos z, z]
    · rw [if_neg z]; exact f j (by omega)
  · rw [rup_k (show (rEd x).1 ≠ (rLs 3).1 from (by decide : ¬ (5 : Nat) = 1)), rup_k (show (rCl x).1 ≠ (rLs 3).1 from (by decide : ¬ (8 : Nat) = 1))]
    exact q x hx
theorem HQ.md (h : HQ g A ob D n m ne np) : g (A rMd) = some (9, ob rMd) := h.1.get rMd al_Md
theorem HQ.out (h : HQ g A ob D n m ne np) : g (A rOut) = some (10, ob rOut) := h.1.get rOut al_Out
theorem HQ.om (h : HQ g A ob D n m ne np) : A rOut ≠ A rMd := fun z => by
  have := h.1.2 rOut rMd al_Out al_Md z
  cases this
theorem HQ.mdo (h : HQ g A ob D n m ne np) (x : FO) : hu g (A rOut) (10, x) (A rMd) = some (9, ob rMd) := by rw [hu_n (fun z => h.om z.symm)]; exact h.md
theorem HQ.setMd (h : HQ g A ob D n m ne np) (x : FO) : HQ (hu g (A rMd) (9, x)) A (rup ob rMd x) D n m ne np := h.set al_Md x (c := 9) rfl (fun z => by rcases z with z | z <;> cases z) ⟨by decide, by decide⟩
theorem HQ.setOut (h : HQ g A ob D n m ne np) (x : FO) : HQ (hu g (A rOut) (10, x)) A (rup ob rOut x) D n m ne np := h.set al_Out x (c := 10) rfl (fun z => by rcases z with z | z <;> cases z) ⟨by decide, by decide⟩
theorem HQ.setBd (h : HQ g A ob D n m ne np) (x : FO) : HQ (hu g (A rBd) (2, x)) A (rup ob rBd x) D n m ne np := h.set al_Bd x (c := 2) rfl (fun z => by rcases z with z | z <;> cases z) ⟨by decide, by decide⟩
theorem HQ.setAc (h : HQ g A ob D n m ne np) {k : Nat} (hk : k < D.2.1) (x : FO) : HQ (hu g (A (rAc k)) (1, x)) A (rup ob (rAc k) x) D n m ne np := h.set (al_Ac hk) x (c := 1) rfl (fun z => by rcases z with z | z <;> cases z) ⟨(by decide : ¬ (4 : Nat) = 1), (by decide : ¬ (4 : Nat) = 8)⟩
theorem HQ.setRm (h : HQ g A ob D n m ne np) (x : FO) (hx : fR x = fR (ob rRm)) : HQ (hu g (A rRm) (8, x)) A (rup ob rRm x) D n m ne np := h.set al_Rm x (c := 8) rfl (fun _ => hx) ⟨by decide, by decide⟩
theorem HQ.setEd (h : HQ g A ob D n m ne np) {e : Nat} (he : e < ne) (x : FO) (hx : fR x = fR (ob (rEd e))) : HQ (hu g (A (rEd e)) (4, x)) A (rup ob (rEd e) x) D n m ne np := h.set (h.alEd he) x (c := 4) rfl (fun _ => hx) ⟨(by decide : ¬ (5 : Nat) = 1), (by decide : ¬ (5 : Nat) = 8)⟩
theorem HQ.setCp (h : HQ g A ob D n m ne np) {e j : Nat} (he : e < ne) (hj : j < D.2.2.2.2.1 e) (x : FO) : HQ (hu g (A (rCp e j)) (3, x)) A (rup ob (rCp e j) x) D n m ne np := h.set (h.alCp he hj) x (c := 3) rfl (fun z => by rcases z with z | z <;> cases z) ⟨(by decide : ¬ (9 : Nat) = 1), (by decide : ¬ (9 : Nat) = 8)⟩
end HN
/-- the law goes on behind a call that has changed class and reference -/
theorem IV.uV {g g1 : GH} {A A1 : Rl → Nat} {ob ob1 : Rl → FO} {D D1 : GD} {n m ne np n1 m1 ne1 np1 : Nat} {E E1 : Nat → AB} {K : GH → Prop} (h : IV g A ob D n m ne np E) (k : ∀ g', NX A np g' → K g')
    (hQ : HQ g1 A1 ob1 D1 n1 m1 ne1 np1) (eA : A1 rRm = A rRm ∧ A1 rMd = A rMd ∧ A1 rOut = A rOut) (hnp : np1 ≤ np + 1) {o' xo : FO} {v : Int32} (h0 : fI o' 0 = 0) (hv : fB xo 0 0 = v.toInt64)
    (hc : CT (ob1 rRm) (ob1 rBd) o' (fun j => ob1 (rSh j)) (fun j => ob1 (rAc j)) (fun j => ob1 (rEd j)) (fun j => ob1 (rWn j)) (fun j => ob1 (rKb j)) (fun j => ob1 (rPy j)) (fun e j => ob1 (rCp e j)) n1 m1 ne1 np1 D1.2.2.2.2.1 E1) :
    LW (A rMd) (A rOut) K 0 v o' (hu g1 (A rOut) (10, xo)) := by
  refine lw_v h0 h.om hu_s hv (k _ ⟨A1, rup (rup ob1 rOut xo) rMd o', D1, n1, m1, ne1, np1, E1, eA.1, eA.2.1, eA.2.2, hnp, ?_, hc⟩)
  have := (hQ.setOut xo).setMd o'
  rw [eA.2.1, eA.2.2] at this
  exact this
end
