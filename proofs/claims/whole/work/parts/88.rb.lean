section
/-! pure layer AB: a new edition in the class's heap -/
theorem PT.ren2 {A A' : Rl → Nat} {ob ob' : Rl → FO} {n m ne np : Nat} {cs cs' : Nat → Nat} (h : PT A ob n m ne np cs) (hA : ∀ r : Rl, r.1 < 5 ∨ r.1 = 10 ∨ r.2.1 < ne → A' r = A r) (ho : ∀ r : Rl, r.1 = 0 ∨ r.1 = 1 ∨ ((r.1 = 5 ∨ r.1 = 8) ∧ r.2.1 < ne) → ob' r = ob r) (hc : ∀ e, e < ne → cs' e = cs e) : PT A' ob' n m ne np cs' := by
  have k1 : ∀ j, A' (rLs j) = A (rLs j) := fun j => hA _ (Or.inl (by decide : (1 : Nat) < 5))
  have kb : A' rBd = A rBd := hA _ (Or.inl (by decide))
  have ks : A' rSp = A rSp := hA _ (Or.inl (by decide))
  obtain ⟨⟨a0, a1, a2, a3, a4, a5⟩, b, c, d, e, f, q⟩ := h
  unfold PT
  rw [ho rRm (Or.inl rfl), ho (rLs 0) (Or.inr (Or.inl rfl)), ho (rLs 1) (Or.inr (Or.inl rfl)), ho (rLs 2) (Or.inr (Or.inl rfl)), ho (rLs 3) (Or.inr (Or.inl rfl)), k1, k1, k1, k1, kb, ks]
  refine ⟨⟨a0, a1, a2, a3, a4, a5⟩, b, fun j hj => ?_, fun j hj => ?_, fun j hj => ?_, fun j hj => ?_, fun x hx => ?_⟩
  · rw [hA (rSh j) (Or.inl (by decide : (3 : Nat) < 5))]; exact c j hj
  · rw [hA (rAc j) (Or.inl (by decide : (4 : Nat) < 5))]; exact d j hj
  · rw [hA (rEd j) (Or.inr (Or.inr hj))]; exact e j hj
  · rw [hA (rPy j) (Or.inr (Or.inl rfl))]; exact f j hj
  · obtain ⟨q1, q2, q3, q4, q5⟩ := q x hx
    rw [ho (rEd x) (Or.inr (Or.inr ⟨Or.inl rfl, hx⟩)), ho (rCl x) (Or.inr (Or.inr ⟨Or.inr rfl, hx⟩)), hA (rWn x) (Or.inr (Or.inr hx)), hA (rKb x) (Or.inr (Or.inr hx)), hA (rCl x) (Or.inr (Or.inr hx)), hc x hx]
    refine ⟨q1, q2, q3, q4, fun j hj => ?_⟩
    rw [hA (rCp x j) (Or.inr (Or.inr hx))]
    exact q5 j hj
theorem HPp_new {g : GH} {A : Rl → Nat} {ob : Rl → FO} {P P' : Rl → Prop} (h : (∀ r, P r → g (A r) = some (cR r, ob r)) ∧ (∀ r q, P r → P q → A r = A q → r = q)) {r : Rl} {a c : Nat} {x : FO} (ha : g a = none) (hc : c = cR r) (hD : ∀ q, P' q → q ≠ r → P q) :
    (∀ q, P' q → hu g a (c, x) (rup A r a q) = some (cR q, rup ob r x q)) ∧ (∀ q p, P' q → P' p → rup A r a q = rup A r a p → q = p) := by
  subst hc
  have hn : ∀ q, P' q → q ≠ r → A q ≠ a := fun q hq e z => by
    have := h.1 q (hD q hq e)
    rw [z, ha] at this
    cases this
  refine ⟨fun q hq => ?_, fun q p hq hp e => ?_⟩
  · by_cases e : q = r
    · subst e; rw [rup_s, hu_s, rup_s]
    · rw [rup_n e, hu_n (hn q hq e), rup_n e]; exact h.1 q (hD q hq e)
  · by_cases e1 : q = r <;> by_cases e2 : p = r
    · rw [e1, e2]
    · subst e1; rw [rup_s, rup_n e2] at e; exact absurd e.symm (hn p hp e2)
    · subst e2; rw [rup_s, rup_n e1] at e; exact absurd e (hn q hq e1)
    · rw [rup_n e1, rup_n e2] at e; exact h.2 q p (hD q hq e1) (hD p hp e2) e
section HE
variable {g : GH} {A : Rl → Nat} {ob : Rl → FO} {D : GD} {n m ne np : Nat}
theorem al_addWn {q : Rl} (h : ne ≤ D.2.2.2.1) (hq : al (D.1, D.2.1, D.2.2.1, ne + 1, D.2.2.2.2) q) (hne : q ≠ rWn ne) : al D q :=
  hq.imp id fun z => z.imp id fun z => z.imp id fun z => z.imp id fun z => z.imp id fun z => z.imp id fun z => z.imp (fun y => ⟨y.1, by
    have := rl_ne hne y.1 y.2.2
    have := y.2.1
    have : q.2.1 < ne + 1 := this
    omega, y.2.2⟩) id
theorem al_addEd {q : Rl} (h : ne ≤ D.2.2.1) (hq : al (D.1, D.2.1, ne + 1, D.2.2.2.1, va_up D.2.2.2.2.1 ne 0, D.2.2.2.2.2) q) (h1 : q ≠ rEd ne) (h2 : q ≠ rCl ne) (h3 : q ≠ rKb ne) : al D q :=
  hq.imp id fun z => z.imp id fun z => z.imp id fun z => z.imp id fun z => z.imp id fun z => z.imp (fun y => ⟨y.1, by
    have := rl_ne h1 y.1 y.2.2
    have := y.2.1
    have : q.2.1 < ne + 1 := this
    omega, y.2.2⟩) fun z => z.imp id fun z => z.imp (fun y => ⟨y.1, by
    have := rl_ne h3 y.1 y.2.2
    have := y.2.1
    have : q.2.1 < ne + 1 := this
    omega, y.2.2⟩) fun z => z.imp (fun y => ⟨y.1, by
    have := rl_ne h2 y.1 y.2.2
    have := y.2.1
    have : q.2.1 < ne + 1 := this
    omega, y.2.2⟩) fun z => z.imp (fun y => by
    have y1 : q.2.1 < ne + 1 := y.2.1
    have y2 : q.2.2 < va_up D.2.2.2.2.1 ne 0 q.2.1 := y.2.2
    rw [qs_up] at y2
    by_cases c : q.2.1 = ne
    · rw [if_pos c] at y2; exact absurd y2 (Nat.not_lt_zero _)
    · rw [if_neg c] at y2
      exact ⟨y.1, by omega, y2⟩) id
theorem al_addCp {q : Rl} {j : Nat} (hj : D.2.2.2.2.1 ne = j) (hq : al (D.1, D.2.1, D.2.2.1, D.2.2.2.1, va_up D.2.2.2.2.1 ne (j + 1), D.2.2.2.2.2) q) (hne : q ≠ rCp ne j) : al D q :=
  hq.imp id fun z => z.imp id fun z => z.imp id fun z => z.imp id fun z => z.imp id fun z => z.imp id fun z => z.imp id fun z => z.imp id fun z => z.imp id fun z => z.imp (fun y => by
    have y2 : q.2.2 < va_up D.2.2.2.2.1 ne (j + 1) q.2.1 := y.2.2
    rw [qs_up] at y2
    refine ⟨y.1, y.2.1, ?_⟩
    by_cases c : q.2.1 = ne
    · rw [if_pos c] at y2
      have : q.2.2 ≠ j := fun e => hne (by
        obtain ⟨x, u, v⟩ := q
        have y1 : x = 9 := y.1
        have c : u = ne := c
        have e : v = j := e
        rw [y1, c, e])
      rw [c, hj]; omega
    · rw [if_neg c] at y2; exact y2) id
theorem HQ.newWn (h : HQ g A ob D n m ne np) {a : Nat} {x : FO} (ha : g a = none) : HQ (hu g a (7, x)) (rup A (rWn ne) a) (rup ob (rWn ne) x) (D.1, D.2.1, D.2.2.1, ne + 1, D.2.2.2.2) n m ne np :=
  ⟨HPp_new (P := al D) h.1 ha rfl fun q hq hne => al_addWn h.2.2.1.2.2.2.1 hq hne, h.2.1.ren2 (fun r hr => rup_n fun z => by
    subst z
    rcases hr with z | z | z
    · exact absurd z (by decide : ¬ (6 : Nat) < 5)
    · exact absurd z (by decide : ¬ (6 : Nat) = 10)
    · exact absurd z (Nat.lt_irrefl _)) (fun r hr => rup_k (by show r.1 ≠ 6; omega)) (fun _ _ => rfl), ⟨h.2.2.1.1, h.2.2.1.2.1, h.2.2.1.2.2.1, Nat.le_succ ne, h.2.2.1.2.2.2.2⟩, h.2.2.2⟩
/-- an edition that is being made: j copies so far -/
def NEd (g : GH) (A : Rl → Nat) (ob : Rl → FO) (D : GD) (n m ne np j : Nat) : Prop := HQ g A ob D n m ne np ∧ (ne < D.2.2.1 ∧ ne < D.2.2.2.1 ∧ D.2.2.2.2.1 ne = j) ∧ (fR (ob (rEd ne)) 1 = A (rWn ne) ∧ fR (ob (rEd ne)) 3 = A (rKb ne) ∧ fR (ob (rEd ne)) 8 = A (rCl ne)) ∧ fI (ob (rCl ne)) 2 = nI j ∧ ∀ i, i < j → fR (ob (rCl ne)) i = A (rCp ne i)
theorem NEd.new (h : HQ g A ob D n m ne np) (hw : ne < D.2.2.2.1) {a : Nat} {fz pr : Int32} (ha : ∀ q, a ≤ q → g q = none) :
    NEd (hu (hu (hu g (a + 1) (2, fo0)) (a + 11) (0, fo0)) a (4, ed0 a fz (A (rWn ne)) pr)) (rup (rup (rup A (rKb ne) (a + 1)) (rCl ne) (a + 11)) (rEd ne) a) (rup (rup (rup ob (rKb ne) fo0) (rCl ne) fo0) (rEd ne) (ed0 a fz (A (rWn ne)) pr)) (D.1, D.2.1, ne + 1, D.2.2.2.1, va_up D.2.2.2.2.1 ne 0, D.2.2.2.2.2) n m ne np 0 := by
  have p1 := HPp_new (P := al D) (P' := fun q => al (D.1, D.2.1, ne + 1, D.2.2.2.1, va_up D.2.2.2.2.1 ne 0, D.2.2.2.2.2) q ∧ q ≠ rEd ne ∧ q ≠ rCl ne) h.1 (r := rKb ne) (a := a + 1) (x := fo0) (ha _ (by omega)) rfl fun q hq hne => al_addEd h.2.2.1.2.2.1 hq.1 hq.2.1 hq.2.2 hne
  have p2 := HPp_new (P' := fun q => al (D.1, D.2.1, ne + 1, D.2.2.2.1, va_up D.2.2.2.2.1 ne 0, D.2.2.2.2.2) q ∧ q ≠ rEd ne) p1 (r := rCl ne) (a := a + 11) (x := fo0) (by rw [hu_n (by omega)]; exact ha _ (by omega)) rfl fun q hq hne => ⟨hq.1, hq.2, hne⟩
  have p3 := HPp_new (P' := al (D.1, D.2.1, ne + 1, D.2.2.2.1, va_up D.2.2.2.2.1 ne 0, D.2.2.2.2.2)) p2 (r := rEd ne) (a := a) (x := ed0 a fz (A (rWn ne)) pr) (by rw [hu_n (by omega), hu_n (by omega)]; exact ha _ (Nat.le_refl _)) rfl fun q hq hne => ⟨hq, hne⟩
  have eK : rup (rup (rup A (rKb ne) (a + 1)) (rCl ne) (a + 11)) (rEd ne) a (rKb ne) = a + 1 := by
    rw [rup_k (show (rKb ne).1 ≠ (rEd ne).1 from (by decide : ¬ (7 : Nat) = 5)), rup_k (show (rKb ne).1 ≠ (rCl ne).1 from (by decide : ¬ (7 : Nat) = 8)), rup_s]
  have eC : rup (rup (rup A (rKb ne) (a + 1)) (rCl ne) (a + 11)) (rEd ne) a (rCl ne) = a + 11 := by
    rw [rup_k (show (rCl ne).1 ≠ (rEd ne).1 from (by decide : ¬ (8 : Nat) = 5)), rup_s]
  have eW : rup (rup (rup A (rKb ne) (a + 1)) (rCl ne) (a + 11)) (rEd ne) a (rWn ne) = A (rWn ne) := by
    rw [rup_k (show (rWn ne).1 ≠ (rEd ne).1 from (by decide : ¬ (6 : Nat) = 5)), rup_k (show (rWn ne).1 ≠ (rCl ne).1 from (by decide : ¬ (6 : Nat) = 8)), rup_k (show (rWn ne).1 ≠ (rKb ne).1 from (by decide : ¬ (6 : Nat) = 7))]
  have oE : rup (rup (rup ob (rKb ne) fo0) (rCl ne) fo0) (rEd ne) (ed0 a fz (A (rWn ne)) pr) (rEd ne) = ed0 a fz (A (rWn ne)) pr := rup_s
  have oC : rup (rup (rup ob (rKb ne) fo0) (rCl ne) fo0) (rEd ne) (ed0 a fz (A (rWn ne)) pr) (rCl ne) = fo0 := by
    rw [rup_k (show (rCl ne).1 ≠ (rEd ne).1 from (by decide : ¬ (8 : Nat) = 5)), rup_s]
  refine ⟨⟨p3, h.2.1.ren2 (fun r hr => ?_) (fun r hr => ?_) (fun e he => ?_), ⟨h.2.2.1.1, h.2.2.1.2.1, Nat.le_succ ne, h.2.2.1.2.2.2.1, h.2.2.1.2.2.2.2⟩, h.2.2.2.1, fun e he => ?_⟩, ⟨Nat.lt_succ_self ne, hw, by show va_up D.2.2.2.2.1 ne 0 ne = 0; rw [qs_up, if_pos rfl]⟩, ?_, ?_, fun i hi => by omega⟩
  · have n1 : r ≠ rEd ne := fun z => by
      subst z
      rcases hr with z | z | z
      · exact absurd z (by decide : ¬ (5 : Nat) < 5)
      · exact absurd z (by decide : ¬ (5 : Nat) = 10)
      · exact absurd z (Nat.lt_irrefl _)
    have n2 : r ≠ rCl ne := fun z => by
      subst z
      rcases hr with z | z | z
      · exact absurd z (by decide : ¬ (8 : Nat) < 5)
      · exact absurd z (by decide : ¬ (8 : Nat) = 10)
      · exact absurd z (Nat.lt_irrefl _)
    have n3 : r ≠ rKb ne := fun z => by
      subst z
      rcases hr with z | z | z
      · exact absurd z (by decide : ¬ (7 : Nat) < 5)
      · exact absurd z (by decide : ¬ (7 : Nat) = 10)
      · exact absurd z (Nat.lt_irrefl _)
    rw [rup_n n1, rup_n n2, rup_n n3]
  · have n1 : r ≠ rEd ne := fun z => by
      subst z
      rcases hr with z | z | ⟨-, z⟩
      · exact absurd z (by decide : ¬ (5 : Nat) = 0)
      · exact absurd z (by decide : ¬ (5 : Nat) = 1)
      · exact absurd z (Nat.lt_irrefl _)
    have n2 : r ≠ rCl ne := fun z => by
      subst z
      rcases hr with z | z | ⟨-, z⟩
      · exact absurd z (by decide : ¬ (8 : Nat) = 0)
      · exact absurd z (by decide : ¬ (8 : Nat) = 1)
      · exact absurd z (Nat.lt_irrefl _)
    have n3 : r ≠ rKb ne := fun z => by
      subst z
      rcases hr with z | z | ⟨-, z⟩
      · exact absurd z (by decide : ¬ (7 : Nat) = 0)
      · exact absurd z (by decide : ¬ (7 : Nat) = 1)
      · exact absurd z (Nat.lt_irrefl _)
    rw [rup_n n1, rup_n n2, rup_n n3]
  · show va_up D.2.2.2.2.1 ne 0 e = _
    rw [qs_up, if_neg (by omega)]
  · show va_up D.2.2.2.2.1 ne 0 e ≤ 20
    rw [qs_up, if_neg (by omega)]
    exact h.2.2.2.2 e he
  · rw [eK, eC, eW, oE]
    exact ⟨rfl, rfl, rfl⟩
  · rw [oC]; rfl
theorem NEd.copy {j : Nat} (h : NEd g A ob D n m ne np j) (j20 : j < 20) {a : Nat} {X : FO} (ha : g a = none) :
    NEd (hu (hu g a (3, X)) (fR (ob (rEd ne)) 8) (0, lAdd (ob (rCl ne)) a)) (rup A (rCp ne j) a) (rup (rup ob (rCp ne j) X) (rCl ne) (lAdd (ob (rCl ne)) a)) (D.1, D.2.1, D.2.2.1, D.2.2.2.1, va_up D.2.2.2.2.1 ne (j + 1), D.2.2.2.2.2) n m ne np (j + 1) := by
  obtain ⟨hQ, ⟨d1, d2, d3⟩, ⟨p1, p2, p3⟩, l1, l2⟩ := h
  have q1 := HPp_new (P := al D) (P' := al (D.1, D.2.1, D.2.2.1, D.2.2.2.1, va_up D.2.2.2.2.1 ne (j + 1), D.2.2.2.2.2)) hQ.1 (r := rCp ne j) (x := X) ha (c := 3) rfl fun q hq hne => al_addCp d3 hq hne
  have q1' : HP (hu g a (3, X)) (rup A (rCp ne j) a) (rup ob (rCp ne j) X) (D.1, D.2.1, D.2.2.1, D.2.2.2.1, va_up D.2.2.2.2.1 ne (j + 1), D.2.2.2.2.2) := q1
  have eC : rup A (rCp ne j) a (rCl ne) = A (rCl ne) := rup_k (show (rCl ne).1 ≠ (rCp ne j).1 from (by decide : ¬ (8 : Nat) = 9))
  have q2 := q1'.set (r := rCl ne) (al_Cl d1) (lAdd (ob (rCl ne)) a)
  rw [eC] at q2
  have rA : ∀ r : Rl, r.1 ≠ 9 → rup A (rCp ne j) a r = A r := fun r hr => rup_k hr
  have rO : ∀ r : Rl, r.1 ≠ 9 → r ≠ rCl ne → rup (rup ob (rCp ne j) X) (rCl ne) (lAdd (ob (rCl ne)) a) r = ob r := fun r h1 h2 => (rup_n h2).trans (rup_k h1)
  rw [p3]
  refine ⟨⟨q2, hQ.2.1.ren2 (fun r hr => ?_) (fun r hr => ?_) (fun e he => ?_), hQ.2.2.1, hQ.2.2.2.1, fun e he => ?_⟩, ⟨d1, d2, by show va_up D.2.2.2.2.1 ne (j + 1) ne = j + 1; rw [qs_up, if_pos rfl]⟩, ?_, ?_, fun i hi => ?_⟩
  · refine rup_n fun z => ?_
    subst z
    rcases hr with z | z | z
    · exact absurd z (by decide : ¬ (9 : Nat) < 5)
    · exact absurd z (by decide : ¬ (9 : Nat) = 10)
    · exact absurd z (Nat.lt_irrefl _)
  · refine rO r (by omega) fun z => ?_
    subst z
    rcases hr with z | z | ⟨-, z⟩
    · exact absurd z (by decide : ¬ (8 : Nat) = 0)
    · exact absurd z (by decide : ¬ (8 : Nat) = 1)
    · exact absurd z (Nat.lt_irrefl _)
  · show va_up D.2.2.2.2.1 ne (j + 1) e = _
    rw [qs_up, if_neg (by omega)]
  · show va_up D.2.2.2.2.1 ne (j + 1) e ≤ 20
    rw [qs_up, if_neg (by omega)]
    exact hQ.2.2.2.2 e he
  · rw [rO (rEd ne) (by decide : ¬ (5 : Nat) = 9) (role_ne (by decide : ¬ (5 : Nat) = 8)), rA (rWn ne) (by decide : ¬ (6 : Nat) = 9), rA (rKb ne) (by decide : ¬ (7 : Nat) = 9), rA (rCl ne) (by decide : ¬ (8 : Nat) = 9)]
    exact ⟨p1, p2, p3⟩
  · rw [rup_s]; exact lA_n l1
  · rw [rup_s, lA_f l1 (by omega)]
    by_cases c : i = j
    · subst c
      rw [if_pos rfl, rup_s]
    · rw [if_neg c, l2 i (by omega)]
      exact (rup_i (show (rCp ne i).2.2 ≠ (rCp ne j).2.2 from c)).symm
/-- copies are issued -/
theorem w_issue {c : Nat} {post : GH → Prop} (h : NEd g A ob D n m ne np 0) (c20 : c ≤ 20)
    (K : ∀ g' A' ob' D', NEd g' A' ob' D' n m ne np c → (∀ r : Rl, r.1 ≠ 9 → A' r = A r) → (∀ r : Rl, (r.1 ≠ 9 ∨ r.2.1 ≠ ne) → r ≠ rCl ne → ob' r = ob r) → (∀ j, j < c → ob' (rCp ne j) = sI (sI (sI fo0 0 0) 1 (-1)) 3 (-1)) → (∀ e, e ≠ ne → D'.2.2.2.2.1 e = D.2.2.2.2.1 e) → post g') : wp_X3_issue (A (rEd ne)) (nI c) g post := by
  have key : ∀ d i n' g' A' ob' D', c - i = d → i ≤ c → d < n' → NEd g' A' ob' D' n m ne np i → (∀ r : Rl, r.1 ≠ 9 → A' r = A r) → (∀ r : Rl, (r.1 ≠ 9 ∨ r.2.1 ≠ ne) → r ≠ rCl ne → ob' r = ob r) → (∀ j, j < i → ob' (rCp ne j) = sI (sI (sI fo0 0 0) 1 (-1)) 3 (-1)) → (∀ e, e ≠ ne → D'.2.2.2.2.1 e = D.2.2.2.2.1 e) → wp_X3_issue_2 (A (rEd ne)) (nI c) post n' (nI i) g' := by
    intro d
    induction d with
    | zero =>
      intro i n' g' A' ob' D' hd hi hn hN i1 i2 i3 i4
      obtain ⟨n', rfl⟩ : ∃ n'', n' = n'' + 1 := ⟨n' - 1, by omega⟩
      have : i = c := by omega
      subst this
      exact ⟨fun _ => K g' A' ob' D' hN i1 i2 i3 i4, fun z => absurd (Int32.le_refl _) z⟩
    | succ d ih =>
      intro i n' g' A' ob' D' hd hi hn hN i1 i2 i3 i4
      obtain ⟨n', rfl⟩ : ∃ n'', n' = n'' + 1 := ⟨n' - 1, by omega⟩
      have hic : i < c := by omega
      have i20 : i < 20 := by omega
      have hN0 := hN
      obtain ⟨hQ, ⟨d1, d2, d3⟩, ⟨p1, p2, p3⟩, l1, l2⟩ := hN
      have hed := hQ.1.get (rEd ne) (al_Ed d1)
      rw [i1 (rEd ne) (by decide : ¬ (5 : Nat) = 9)] at hed
      refine ⟨fun z => absurd z (nI_ge hic (by omega)), fun _ => ⟨fun z => absurd z (qn_le (N := 20) i20), fun _ => ⟨_, hed, fun a5 ha => ?_⟩⟩⟩
      rintro _ rfl
      refine ⟨_, hu_s, ?_⟩
      rintro _ rfl _ rfl _ rfl
      rintro _ rfl
      rw [hu_hu]
      have hcl := hQ.1.get (rCl ne) (al_Cl d1)
      have hcl2 : hu g' a5 (3, sI (sI (sI fo0 0 0) 1 (-1)) 3 (-1)) (fR (ob' (rEd ne)) 8) = some (0, ob' (rCl ne)) := by
        rw [p3, hu_n (fun z => by rw [z, ha] at hcl; cases hcl)]
        exact hcl
      refine ⟨_, hcl2, ?_, fun j hj => ?_, ⟨3, _, by decide, hu_s⟩, ?_⟩
      · rw [l1]; exact vp_in_nI i20 (by decide)
      · rw [l1, qn_cl (by omega)] at hj
        have := hQ.1.get (rCp ne j) (al_Cp d1 (by rw [d3]; exact hj))
        exact ⟨3, _, by decide, by rw [l2 j hj, hu_n (fun z => by rw [z, ha] at this; cases this)]; exact this⟩
      · rintro _ rfl
        rw [nI_1]
        have h2 := hN0.copy i20 (X := sI (sI (sI fo0 0 0) 1 (-1)) 3 (-1)) ha
        refine ih (i + 1) n' _ _ _ _ (by omega) (by omega) (by omega) h2 (fun r hr => ?_) (fun r h1 h3 => ?_) (fun j hj => ?_) (fun e he => ?_)
        · rw [rup_k (show r.1 ≠ (rCp ne i).1 from hr)]; exact i1 r hr
        · rw [rup_n h3, rup_n (fun z => by
            subst z
            rcases h1 with y | y
            · exact y rfl
            · exact y rfl)]
          exact i2 r h1 h3
        · rw [rup_k (show (rCp ne j).1 ≠ (rCl ne).1 from (by decide : ¬ (9 : Nat) = 8))]
          by_cases c2 : j = i
          · subst c2; rw [rup_s]
          · rw [rup_i (show (rCp ne j).2.2 ≠ (rCp ne i).2.2 from c2)]
            exact i3 j (by omega)
        · show va_up D'.2.2.2.2.1 ne (i + 1) e = _
          rw [qs_up, if_neg he]; exact i4 e he
  exact key c 0 22 g A ob D (by omega) (Nat.zero_le _) (by omega) h (fun _ _ => rfl) (fun _ _ _ => rfl) (fun j hj => by omega) (fun _ _ => rfl)
end HE
theorem cpA_f (o o' : FO) (k j : Nat) : fA (cpA o k o' k 40) j = if j = k then (fun i => if i < 40 then fA o' k i else fA o k i) else fA o j := rfl
theorem w_copy {g : GH} {a p0 : Nat} {B K0 : FO} {post : GH → Prop} (hB : g p0 = some (2, B)) (hK : g a = some (2, K0)) (hne : ¬ p0 = a) (k : ∀ Kx, (∀ i, i < 6 → ∀ j, j < 40 → fA Kx i j = fA B i j) → fL Kx 7 = fL B 7 → post (hu g a (2, Kx))) : wp_X1_copy a p0 g post := by
  have hb : ∀ x, hu g a x p0 = some (2, B) := fun x => by rw [hu_n hne]; exact hB
  refine ⟨_, hB, _, hK, _, hK, _, hB, hne, ?_⟩
  rintro _ rfl
  refine ⟨_, hb _, _, hu_s, _, hu_s, _, hb _, hne, ?_⟩
  rintro _ rfl
  rw [hu_hu]
  refine ⟨_, hb _, _, hu_s, _, hu_s, _, hb _, hne, ?_⟩
  rintro _ rfl
  rw [hu_hu]
  refine ⟨_, hb _, _, hu_s, _, hu_s, _, hb _, hne, ?_⟩
  rintro _ rfl
  rw [hu_hu]
  refine ⟨_, hb _, _, hu_s, _, hu_s, _, hb _, hne, ?_⟩
  rintro _ rfl
  rw [hu_hu]
  refine ⟨_, hb _, _, hu_s, _, hu_s, _, hb _, hne, ?_⟩
  rintro _ rfl
  rw [hu_hu]
  refine ⟨_, hb _, _, hu_s, ?_⟩
  rintro _ rfl
  rw [hu_hu]
  refine k _ (fun i hi j hj => ?_) rfl
  match i, hi with
  | 0, _ =>
    show (if j < 40 then fA B 0 j else _) = fA B 0 j
    exact if_pos hj
  | 1, _ =>
    show (if j < 40 then fA B 1 j else _) = fA B 1 j
    exact if_pos hj
  | 2, _ =>
    show (if j < 40 then fA B 2 j else _) = fA B 2 j
    exact if_pos hj
  | 3, _ =>
    show (if j < 40 then fA B 3 j else _) = fA B 3 j
    exact if_pos hj
  | 4, _ =>
    show (if j < 40 then fA B 4 j else _) = fA B 4 j
    exact if_pos hj
  | 5, _ =>
    show (if j < 40 then fA B 5 j else _) = fA B 5 j
    exact if_pos hj
  | i + 6, h => omega
end
