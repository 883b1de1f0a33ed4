section
/-! pure layer G: the class's heap: pointers; all acts done -/
def PT (A : Rl → Nat) (ob : Rl → FO) (n m ne np : Nat) (cs : Nat → Nat) : Prop :=
  (fR (ob rRm) 0 = A (rLs 0) ∧ fR (ob rRm) 1 = A (rLs 1) ∧ fR (ob rRm) 2 = A (rLs 2) ∧ fR (ob rRm) 3 = A (rLs 3) ∧ fR (ob rRm) 4 = A rBd ∧ fR (ob rRm) 5 = A rSp) ∧
  (fI (ob (rLs 0)) 2 = nI n ∧ fI (ob (rLs 1)) 2 = nI m ∧ fI (ob (rLs 2)) 2 = nI ne ∧ fI (ob (rLs 3)) 2 = nI np) ∧
  (∀ j, j < n → fR (ob (rLs 0)) j = A (rSh j)) ∧ (∀ j, j < m → fR (ob (rLs 1)) j = A (rAc j)) ∧ (∀ j, j < ne → fR (ob (rLs 2)) j = A (rEd j)) ∧ (∀ j, j < np → fR (ob (rLs 3)) j = A (rPy j)) ∧
  (∀ e, e < ne → fR (ob (rEd e)) 1 = A (rWn e) ∧ fR (ob (rEd e)) 3 = A (rKb e) ∧ fR (ob (rEd e)) 8 = A (rCl e) ∧ fI (ob (rCl e)) 2 = nI (cs e) ∧ ∀ j, j < cs e → fR (ob (rCl e)) j = A (rCp e j))
def HQ (g : GH) (A : Rl → Nat) (ob : Rl → FO) (D : GD) (n m ne np : Nat) : Prop := HP g A ob D ∧ PT A ob n m ne np D.2.2.2.2.1 ∧ (n ≤ D.1 ∧ m ≤ D.2.1 ∧ ne ≤ D.2.2.1 ∧ ne ≤ D.2.2.2.1 ∧ np ≤ D.2.2.2.2.2) ∧ (n ≤ 40 ∧ m ≤ 200 ∧ ne ≤ 8 ∧ np ≤ 512) ∧ ∀ e, e < ne → D.2.2.2.2.1 e ≤ 20
section HQS
variable {g : GH} {A : Rl → Nat} {ob : Rl → FO} {D : GD} {n m ne np : Nat}
theorem HQ.rm (h : HQ g A ob D n m ne np) : g (A rRm) = some (8, ob rRm) := h.1.get rRm al_Rm
theorem HQ.l0 (h : HQ g A ob D n m ne np) : g (fR (ob rRm) 0) = some (0, ob (rLs 0)) := by rw [h.2.1.1.1]; exact h.1.get _ (al_Ls (by decide))
theorem HQ.l1 (h : HQ g A ob D n m ne np) : g (fR (ob rRm) 1) = some (0, ob (rLs 1)) := by rw [h.2.1.1.2.1]; exact h.1.get _ (al_Ls (by decide))
theorem HQ.l2 (h : HQ g A ob D n m ne np) : g (fR (ob rRm) 2) = some (0, ob (rLs 2)) := by rw [h.2.1.1.2.2.1]; exact h.1.get _ (al_Ls (by decide))
theorem HQ.l3 (h : HQ g A ob D n m ne np) : g (fR (ob rRm) 3) = some (0, ob (rLs 3)) := by rw [h.2.1.1.2.2.2.1]; exact h.1.get _ (al_Ls (by decide))
theorem HQ.bd (h : HQ g A ob D n m ne np) : g (fR (ob rRm) 4) = some (2, ob rBd) := by rw [h.2.1.1.2.2.2.2.1]; exact h.1.get _ al_Bd
theorem HQ.sp (h : HQ g A ob D n m ne np) : g (fR (ob rRm) 5) = some (2, ob rSp) := by rw [h.2.1.1.2.2.2.2.2]; exact h.1.get _ al_Sp
theorem HQ.p0 (h : HQ g A ob D n m ne np) : fR (ob rRm) 0 = A (rLs 0) := h.2.1.1.1
theorem HQ.p1 (h : HQ g A ob D n m ne np) : fR (ob rRm) 1 = A (rLs 1) := h.2.1.1.2.1
theorem HQ.p2 (h : HQ g A ob D n m ne np) : fR (ob rRm) 2 = A (rLs 2) := h.2.1.1.2.2.1
theorem HQ.p3 (h : HQ g A ob D n m ne np) : fR (ob rRm) 3 = A (rLs 3) := h.2.1.1.2.2.2.1
theorem HQ.p4 (h : HQ g A ob D n m ne np) : fR (ob rRm) 4 = A rBd := h.2.1.1.2.2.2.2.1
theorem HQ.p5 (h : HQ g A ob D n m ne np) : fR (ob rRm) 5 = A rSp := h.2.1.1.2.2.2.2.2
theorem HQ.n0 (h : HQ g A ob D n m ne np) : fI (ob (rLs 0)) 2 = nI n := h.2.1.2.1.1
theorem HQ.n1 (h : HQ g A ob D n m ne np) : fI (ob (rLs 1)) 2 = nI m := h.2.1.2.1.2.1
theorem HQ.n2 (h : HQ g A ob D n m ne np) : fI (ob (rLs 2)) 2 = nI ne := h.2.1.2.1.2.2.1
theorem HQ.n3 (h : HQ g A ob D n m ne np) : fI (ob (rLs 3)) 2 = nI np := h.2.1.2.1.2.2.2
theorem HQ.n40 (h : HQ g A ob D n m ne np) : n ≤ 40 := h.2.2.2.1.1
theorem HQ.m200 (h : HQ g A ob D n m ne np) : m ≤ 200 := h.2.2.2.1.2.1
theorem HQ.ne8 (h : HQ g A ob D n m ne np) : ne ≤ 8 := h.2.2.2.1.2.2.1
theorem HQ.np512 (h : HQ g A ob D n m ne np) : np ≤ 512 := h.2.2.2.1.2.2.2
theorem HQ.c20 (h : HQ g A ob D n m ne np) {e : Nat} (he : e < ne) : D.2.2.2.2.1 e ≤ 20 := h.2.2.2.2 e he
theorem HQ.alSh (h : HQ g A ob D n m ne np) {j : Nat} (hj : j < n) : al D (rSh j) := al_Sh (Nat.lt_of_lt_of_le hj h.2.2.1.1)
theorem HQ.alAc (h : HQ g A ob D n m ne np) {j : Nat} (hj : j < m) : al D (rAc j) := al_Ac (Nat.lt_of_lt_of_le hj h.2.2.1.2.1)
theorem HQ.alEd (h : HQ g A ob D n m ne np) {j : Nat} (hj : j < ne) : al D (rEd j) := al_Ed (Nat.lt_of_lt_of_le hj h.2.2.1.2.2.1)
theorem HQ.alKb (h : HQ g A ob D n m ne np) {j : Nat} (hj : j < ne) : al D (rKb j) := al_Kb (Nat.lt_of_lt_of_le hj h.2.2.1.2.2.1)
theorem HQ.alCl (h : HQ g A ob D n m ne np) {j : Nat} (hj : j < ne) : al D (rCl j) := al_Cl (Nat.lt_of_lt_of_le hj h.2.2.1.2.2.1)
theorem HQ.alWn (h : HQ g A ob D n m ne np) {j : Nat} (hj : j < ne) : al D (rWn j) := al_Wn (Nat.lt_of_lt_of_le hj h.2.2.1.2.2.2.1)
theorem HQ.alPy (h : HQ g A ob D n m ne np) {j : Nat} (hj : j < np) : al D (rPy j) := al_Py (Nat.lt_of_lt_of_le hj h.2.2.1.2.2.2.2)
theorem HQ.alCp (h : HQ g A ob D n m ne np) {e j : Nat} (he : e < ne) (hj : j < D.2.2.2.2.1 e) : al D (rCp e j) := al_Cp (Nat.lt_of_lt_of_le he h.2.2.1.2.2.1) hj
theorem HQ.psh (h : HQ g A ob D n m ne np) {j : Nat} (hj : j < n) : fR (ob (rLs 0)) (nI j).toNatClampNeg = A (rSh j) := by rw [qn_cl (by have := h.n40; omega)]; exact h.2.1.2.2.1 j hj
theorem HQ.pac (h : HQ g A ob D n m ne np) {j : Nat} (hj : j < m) : fR (ob (rLs 1)) (nI j).toNatClampNeg = A (rAc j) := by rw [qn_cl (by have := h.m200; omega)]; exact h.2.1.2.2.2.1 j hj
theorem HQ.ped (h : HQ g A ob D n m ne np) {j : Nat} (hj : j < ne) : fR (ob (rLs 2)) (nI j).toNatClampNeg = A (rEd j) := by rw [qn_cl (by have := h.ne8; omega)]; exact h.2.1.2.2.2.2.1 j hj
theorem HQ.ppy (h : HQ g A ob D n m ne np) {j : Nat} (hj : j < np) : fR (ob (rLs 3)) (nI j).toNatClampNeg = A (rPy j) := by rw [qn_cl (by have := h.np512; omega)]; exact h.2.1.2.2.2.2.2.1 j hj
theorem HQ.pwn (h : HQ g A ob D n m ne np) {e : Nat} (he : e < ne) : fR (ob (rEd e)) 1 = A (rWn e) := (h.2.1.2.2.2.2.2.2 e he).1
theorem HQ.pkb (h : HQ g A ob D n m ne np) {e : Nat} (he : e < ne) : fR (ob (rEd e)) 3 = A (rKb e) := (h.2.1.2.2.2.2.2.2 e he).2.1
theorem HQ.pcl (h : HQ g A ob D n m ne np) {e : Nat} (he : e < ne) : fR (ob (rEd e)) 8 = A (rCl e) := (h.2.1.2.2.2.2.2.2 e he).2.2.1
theorem HQ.nc (h : HQ g A ob D n m ne np) {e : Nat} (he : e < ne) : fI (ob (rCl e)) 2 = nI (D.2.2.2.2.1 e) := (h.2.1.2.2.2.2.2.2 e he).2.2.2.1
theorem HQ.pcp (h : HQ g A ob D n m ne np) {e j : Nat} (he : e < ne) (hj : j < D.2.2.2.2.1 e) : fR (ob (rCl e)) (nI j).toNatClampNeg = A (rCp e j) := by rw [qn_cl (by have := h.c20 he; omega)]; exact (h.2.1.2.2.2.2.2.2 e he).2.2.2.2 j hj
theorem HQ.sh (h : HQ g A ob D n m ne np) {j : Nat} (hj : j < n) : g (fR (ob (rLs 0)) (nI j).toNatClampNeg) = some (6, ob (rSh j)) := by rw [h.psh hj]; exact h.1.get _ (h.alSh hj)
theorem HQ.ac (h : HQ g A ob D n m ne np) {j : Nat} (hj : j < m) : g (fR (ob (rLs 1)) (nI j).toNatClampNeg) = some (1, ob (rAc j)) := by rw [h.pac hj]; exact h.1.get _ (h.alAc hj)
theorem HQ.ed (h : HQ g A ob D n m ne np) {j : Nat} (hj : j < ne) : g (fR (ob (rLs 2)) (nI j).toNatClampNeg) = some (4, ob (rEd j)) := by rw [h.ped hj]; exact h.1.get _ (h.alEd hj)
theorem HQ.py (h : HQ g A ob D n m ne np) {j : Nat} (hj : j < np) : g (fR (ob (rLs 3)) (nI j).toNatClampNeg) = some (5, ob (rPy j)) := by rw [h.ppy hj]; exact h.1.get _ (h.alPy hj)
theorem HQ.wn (h : HQ g A ob D n m ne np) {e : Nat} (he : e < ne) : g (fR (ob (rEd e)) 1) = some (7, ob (rWn e)) := by rw [h.pwn he]; exact h.1.get _ (h.alWn he)
theorem HQ.kb (h : HQ g A ob D n m ne np) {e : Nat} (he : e < ne) : g (fR (ob (rEd e)) 3) = some (2, ob (rKb e)) := by rw [h.pkb he]; exact h.1.get _ (h.alKb he)
theorem HQ.cl (h : HQ g A ob D n m ne np) {e : Nat} (he : e < ne) : g (fR (ob (rEd e)) 8) = some (0, ob (rCl e)) := by rw [h.pcl he]; exact h.1.get _ (h.alCl he)
theorem HQ.cp (h : HQ g A ob D n m ne np) {e j : Nat} (he : e < ne) (hj : j < D.2.2.2.2.1 e) : g (fR (ob (rCl e)) (nI j).toNatClampNeg) = some (3, ob (rCp e j)) := by rw [h.pcp he hj]; exact h.1.get _ (h.alCp he hj)
theorem HQ.in0 (h : HQ g A ob D n m ne np) {j : Nat} (hj : j < n) : vp_in (nI j) (fI (ob (rLs 0)) 2).toNatClampNeg := by have := h.n40; rw [h.n0, qn_cl (by omega)]; exact vp_in_nI hj (by omega)
theorem HQ.in1 (h : HQ g A ob D n m ne np) {j : Nat} (hj : j < m) : vp_in (nI j) (fI (ob (rLs 1)) 2).toNatClampNeg := by have := h.m200; rw [h.n1, qn_cl (by omega)]; exact vp_in_nI hj (by omega)
theorem HQ.in2 (h : HQ g A ob D n m ne np) {j : Nat} (hj : j < ne) : vp_in (nI j) (fI (ob (rLs 2)) 2).toNatClampNeg := by have := h.ne8; rw [h.n2, qn_cl (by omega)]; exact vp_in_nI hj (by omega)
theorem HQ.in3 (h : HQ g A ob D n m ne np) {j : Nat} (hj : j < np) : vp_in (nI j) (fI (ob (rLs 3)) 2).toNatClampNeg := by have := h.np512; rw [h.n3, qn_cl (by omega)]; exact vp_in_nI hj (by omega)
theorem HQ.inc (h : HQ g A ob D n m ne np) {e j : Nat} (he : e < ne) (hj : j < D.2.2.2.2.1 e) : vp_in (nI j) (fI (ob (rCl e)) 2).toNatClampNeg := by have := h.c20 he; rw [h.nc he, qn_cl (by omega)]; exact vp_in_nI hj (by omega)
theorem PT.keep {ob' : Rl → FO} {cs : Nat → Nat} (h : PT A ob n m ne np cs) (h1 : ∀ q : Rl, q.1 = 0 ∨ q.1 = 5 → fR (ob' q) = fR (ob q)) (h2 : ∀ q : Rl, q.1 = 1 ∨ q.1 = 8 → ob' q = ob q) : PT A ob' n m ne np cs := by
  unfold PT at h ⊢
  rw [h1 rRm (Or.inl rfl), h2 (rLs 0) (Or.inl rfl), h2 (rLs 1) (Or.inl rfl), h2 (rLs 2) (Or.inl rfl), h2 (rLs 3) (Or.inl rfl)]
  obtain ⟨a, b, c, d, e, f, k⟩ := h
  refine ⟨a, b, c, d, e, f, fun x hx => ?_⟩
  rw [h1 (rEd x) (Or.inr rfl), h2 (rCl x) (Or.inr rfl)]
  exact k x hx
theorem HQ.set (h : HQ g A ob D n m ne np) {r : Rl} (hr : al D r) (x : FO) {c : Nat} (hc : c = cR r) (h1 : r.1 = 0 ∨ r.1 = 5 → fR x = fR (ob r)) (h2 : r.1 ≠ 1 ∧ r.1 ≠ 8) : HQ (hu g (A r) (c, x)) A (rup ob r x) D n m ne np := by
  subst hc
  refine ⟨h.1.set hr x, h.2.1.keep (fun q hq => ?_) (fun q hq => ?_), h.2.2⟩
  · by_cases e : q = r
    · subst e; rw [rup_s]; exact h1 hq
    · rw [rup_n e]
  · rw [rup_n (fun e => by subst e; omega)]
theorem HQ.other (h : HQ g A ob D n m ne np) {a : Nat} {x : Nat × FO} (ha : g a = none) : HQ (hu g a x) A ob D n m ne np := ⟨h.1.other ha, h.2⟩
end HQS
/-- an act object, and row k of the tables -/
def acF (ac o : FO) (k : Nat) : Prop := fI ac 0 = fA o 3 k ∧ fI ac 1 = fA o 2 k ∧ fI ac 2 = fA o 4 k ∧ ((fA o 2 k = 1 ∨ fA o 2 k = 2 ∨ fA o 2 k = 5) → fI ac 3 = fA o 5 k) ∧ (fA o 2 k = 1 → fI ac 4 = fA o 6 k) ∧ fI ac 5 = fA o 7 k
def shF (sh o : FO) (k : Nat) : Prop := fI sh 0 = fA o 11 k ∧ fI sh 1 = fA o 14 k ∧ fI sh 2 = fA o 15 k ∧ fI sh 3 = fA o 12 k ∧ fI sh 4 = fA o 13 k ∧ fI sh 5 = fA o 16 k
theorem w_put {g : GH} {ab as : Nat} {ob sh : FO} {s n t : Nat} {c r k : Int32} {A : AB} {W H : Nat → Int32} {post : GH → Prop} (hb : g ab = some (2, ob)) (hs : g as = some (6, sh)) (s40 : s < 40)
    (e1 : fI sh 1 = c) (e2 : fI sh 2 = r) (e3 : fI sh 3 = W s) (e4 : fI sh 4 = H s) (e5 : fI sh 5 = k) (hn : n ≤ 40) (hni : s ∉ aO A) (hV : CV ob A W H) (hG : CG ob A t) (ht : t ≤ 200) (hw : ABW n A t)
    (K : ∀ x, CV x (abAdd A s c r k) W H → CG x (abAdd A s c r k) (t + 1) → post (hu g ab (2, x))) : wp_X1_put ab (nI s) as g post := by
  have hin : vp_in (nI s) 40 := vp_in_nI s40 (by decide)
  have hne : as ≠ ab := fun z => by rw [z, hb] at hs; cases hs
  have hs' : ∀ x, hu g ab x as = some (6, sh) := fun x => by rw [hu_n hne]; exact hs
  refine ⟨fun z => absurd z (nI_pos (n31 s40)), fun _ => ⟨fun _ => ?_, fun z => absurd (nI_lt s40 (by decide)) z⟩⟩
  rw [qn_cl (by omega)]
  refine ⟨_, hb, _, hs, _, hb, hin, ?_⟩
  rintro _ rfl
  refine ⟨_, hu_s, _, hs' _, _, hu_s, hin, ?_⟩
  rintro _ rfl
  rw [hu_hu]
  refine ⟨_, hu_s, _, hs' _, _, hu_s, hin, ?_⟩
  rintro _ rfl
  rw [hu_hu]
  refine ⟨_, hu_s, _, hs' _, _, hu_s, hin, ?_⟩
  rintro _ rfl
  rw [hu_hu]
  refine ⟨_, hu_s, _, hs' _, _, hu_s, hin, ?_⟩
  rintro _ rfl
  rw [hu_hu]
  refine ⟨_, hu_s, _, hu_s, _, hu_s, ?_⟩
  rintro _ rfl
  rw [hu_hu]
  refine ⟨_, hu_s, hin, ?_⟩
  rintro _ rfl
  rw [hu_hu]
  refine ⟨_, hu_s, ?_⟩
  refine ⟨_, hu_s, hin, ?_⟩
  rintro _ rfl
  rw [hu_hu]
  refine ⟨_, hu_s, ?_⟩
  refine ⟨_, hu_s, ?_⟩
  rintro _ rfl
  rw [hu_hu, e1, e2, e3, e4, e5]
  have hO : ∀ j, j ∈ aO A → j < 40 := fun j hj => by have := (hw.2 j hj).1; omega
  have hns : ∀ j, j ∈ aO A → j ≠ s := fun j hj z => hni (z ▸ hj)
  have hlt : ∀ j, j ∈ aO A → ¬ aL A j = aN A := fun j hj => by have := (hw.2 j hj).2.1; omega
  have hmem : ∀ j, j ∈ aO A ++ [s] ↔ (j ∈ aO A ∨ j = s) := fun j => by rw [List.mem_append, List.mem_singleton]
  have eh : (fI ob 8 + 1).toInt = (fI ob 8).toInt + 1 := by
    have := hG.2.2.2
    have : (1 : Int32).toInt = 1 := rfl
    exact q_addI (by omega) (by omega)
  refine K _ ⟨fun j hj => ?_, fun j hj => ?_, ?_⟩ ⟨fun j hj k' hk' => ?_, fun j hj => ?_, ⟨?_, hG.2.2.1.2⟩, ?_, ?_⟩
  · show bL (fL ob 7 ||| mkL s) j = decide (j ∈ aO A ++ [s])
    rw [bL_or, bL_mk (by omega), hV.1 j hj, ← Bool.decide_or]
    exact decide_eq_decide.mpr (hmem j).symm
  · show va_up (fA ob 0) s c j = va_up (aC A) s c j ∧ va_up (fA ob 1) s r j = va_up (aR A) s r j ∧ va_up (fA ob 2) s (W s) j = W j ∧ va_up (fA ob 3) s (H s) j = H j ∧ va_up (fA ob 4) s k j = va_up (aK A) s k j
    simp only [qs_up]
    by_cases e : j = s
    · subst e; simp
    · simp only [e, if_false]
      exact hV.2.1 j (((hmem j).mp hj).resolve_right e)
  · show (aO A ++ [s]).Pairwise (fun j k => va_up (fA ob 5) s (fI ob 8 + 1) j < va_up (fA ob 5) s (fI ob 8 + 1) k)
    have ne : ∀ j, j ∈ aO A → va_up (fA ob 5) s (fI ob 8 + 1) j = fA ob 5 j := fun j hj => by rw [qs_up, if_neg (hns j hj)]
    refine List.pairwise_append.mpr ⟨hV.2.2.imp_of_mem (fun ha hb h => by rw [ne _ ha, ne _ hb]; exact h), List.pairwise_singleton _ _, fun a ha b hb => ?_⟩
    rw [List.mem_singleton.mp hb, ne a ha, qs_up, if_pos rfl, q_lt, eh]
    have := (hG.2.1 a ha).2
    omega
  · show bL (va_up (fB ob 6) s (mkL s) j) k' = decide (k' ∈ aO A ++ [s] ∧ va_up (aL A) s (aN A) k' = va_up (aL A) s (aN A) j)
    rw [qs_up, qs_up, qs_up]
    by_cases c : j = s
    · subst c
      rw [if_pos rfl, if_pos rfl, bL_mk (by omega)]
      refine decide_eq_decide.mpr ⟨fun z => ?_, fun z => ?_⟩
      · subst z; exact ⟨(hmem _).mpr (Or.inr rfl), if_pos rfl⟩
      · by_cases e : k' = j
        · exact e
        · rw [if_neg e] at z
          exact absurd z.2 (hlt k' (((hmem k').mp z.1).resolve_right e))
    · have hj2 := ((hmem j).mp hj).resolve_right c
      rw [if_neg c, if_neg c, hG.1 j hj2 k' hk']
      refine decide_eq_decide.mpr ?_
      rw [hmem]
      by_cases e : k' = s
      · subst e
        rw [if_pos rfl]
        exact ⟨fun z => absurd z.1 hni, fun z => absurd z.2.symm (hlt j hj2)⟩
      · rw [if_neg e]
        exact ⟨fun z => ⟨Or.inl z.1, z.2⟩, fun z => ⟨z.1.resolve_right e, z.2⟩⟩
  · show (fI ob 9).toInt ≤ (va_up (fA ob 5) s (fI ob 8 + 1) j).toInt ∧ (va_up (fA ob 5) s (fI ob 8 + 1) j).toInt ≤ (fI ob 8 + 1).toInt
    have g3 := hG.2.2
    rw [qs_up]
    split
    · omega
    · rename_i e
      have := hG.2.1 j (((hmem j).mp hj).resolve_right e)
      omega
  · show _ ≤ (fI ob 9).toInt
    have := hG.2.2.1; omega
  · show 0 ≤ (fI ob 8 + 1).toInt
    have := hG.2.2.2; omega
  · show (fI ob 8 + 1).toInt ≤ _
    have := hG.2.2.2; omega
theorem w_isShapeT {g : GH} {A : Rl → Nat} {ob : Rl → FO} {D : GD} {n m ne np s : Nat} {post : Int32 → Prop} (h : HQ g A ob D n m ne np) (hs : s < n) (k : post 1) : wp_X7_isShape (A rRm) (nI s) g post := by
  have := h.n40
  refine ⟨fun z => absurd z (nI_pos (by omega)), fun _ => ⟨_, h.rm, _, h.l0, ?_⟩⟩
  rw [h.n0]
  exact ⟨fun z => absurd z (nI_ge hs (by omega)), fun _ => k⟩
theorem w_isShapeF {g : GH} {A : Rl → Nat} {ob : Rl → FO} {D : GD} {n m ne np : Nat} {p : Int32} {post : Int32 → Prop} (h : HQ g A ob D n m ne np) (hp : ¬ ∃ s, s < n ∧ p = nI s) (k : post 0) : wp_X7_isShape (A rRm) p g post := by
  have := h.n40
  refine ⟨fun _ => k, fun z => ⟨_, h.rm, _, h.l0, ?_⟩⟩
  rw [h.n0]
  refine ⟨fun _ => k, fun z2 => ?_⟩
  rcases qn_ix p n (by omega) with y | y | y
  · exact absurd y hp
  · exact absurd y z
  · exact absurd y z2
/-- one act on a board of the class -/
theorem w_perform {g : GH} {A : Rl → Nat} {ob : Rl → FO} {D : GD} {n m ne np k t : Nat} {b : Rl} {o : FO} {F : AB} {post : GH → Prop} (h : HQ g A ob D n m ne np) (hk : al D (rAc k)) (hb : b = rBd ∨ b = rSp)
    (hac : acF (ob (rAc k)) o k) (hsh : ∀ j, j < n → shF (ob (rSh j)) o j) (hs : ∃ s, s < n ∧ fA o 4 k = nI s) (hq : ∃ q, q < 8 ∧ fA o 2 k = nI q) (hj : fA o 2 k = 5 → ∃ t, t < n ∧ fA o 5 k = nI t ∧ fA o 5 k ≠ fA o 4 k)
    (hnew : fA o 2 k = 0 → (fA o 4 k).toNatClampNeg ∉ aO F) (hV : CV (ob b) F (fA o 12) (fA o 13)) (hG : CG (ob b) F t) (ht : t ≤ 200) (hw : ABW n F t)
    (K : ∀ x, CV x (abStep o k F) (fA o 12) (fA o 13) → CG x (abStep o k F) (t + 1) → post (hu g (A b) (2, x))) : wp_X7_perform (A rRm) (A (rAc k)) (A b) g post := by
  obtain ⟨a0, a1, a2, a3, a4, -⟩ := hac
  have n40 := h.n40
  have hbl : al D b := by
    rcases hb with e | e
    · rw [e]; exact al_Bd
    · rw [e]; exact al_Sp
  have hbc : cR b = 2 := by rcases hb with e | e <;> rw [e] <;> rfl
  have gb : g (A b) = some (2, ob b) := by rw [h.1.get b hbl, hbc]
  have ga : g (A (rAc k)) = some (1, ob (rAc k)) := h.1.get _ hk
  refine ⟨_, ga, ?_⟩
  by_cases e0 : fA o 2 k = 0
  · refine br_t (by rw [a1]; exact e0) ⟨_, ga, _, h.rm, ?_⟩
    obtain ⟨s, hs, es⟩ := hs
    rw [a2, es]
    refine w_isShapeT h hs ⟨fun z => absurd z (by decide), fun _ => ⟨_, ga, _, h.rm, _, ga, _, h.l0, ?_⟩⟩
    rw [a2, es]
    obtain ⟨-, s1, s2, s3, s4, s5⟩ := hsh s hs
    refine ⟨h.in0 hs, _, h.sh hs, _, gb, ?_⟩
    rw [h.psh hs]
    rw [es, qn_cl (by omega)] at hnew
    have e0' : fA o 2 k = nI 0 := e0
    rw [abS_0 e0' es (by omega)] at K
    exact w_put gb (h.1.get _ (h.alSh hs)) (by omega) s1 s2 s3 s4 s5 n40 (hnew e0) hV hG ht hw K
  · refine br_f (by rw [a1]; exact e0) ⟨_, gb, ?_⟩
    exact w_change gb ga a1 a2 a3 a4 hs hq hj n40 e0 hV hG ht hw K
theorem w_doAll {g : GH} {A : Rl → Nat} {ob : Rl → FO} {D : GD} {n m ne np : Nat} {b : Rl} {o : FO} {post : GH → Prop} (h : HQ g A ob D n m ne np) (hb : b = rBd ∨ b = rSp)
    (hac : ∀ k, k < m → acF (ob (rAc k)) o k) (hsh : ∀ j, j < n → shF (ob (rSh j)) o j) (hA : WFA o n m) (hS : WFS o n)
    (K : ∀ x, CV x (abFold o m) (fA o 12) (fA o 13) → CG x (abFold o m) m → post (hu g (A b) (2, x))) : wp_X7_doAllActs (A rRm) (A b) g post := by
  have n40 := h.n40
  have m200 := h.m200
  have hbl : al D b := by
    rcases hb with e | e
    · rw [e]; exact al_Bd
    · rw [e]; exact al_Sp
  have hbc : cR b = 2 := by rcases hb with e | e <;> rw [e] <;> rfl
  have hb1 : b.1 = 2 := by rcases hb with e | e <;> rw [e]
  have gb : g (A b) = some (2, ob b) := by rw [h.1.get b hbl, hbc]
  refine ⟨_, gb, ?_⟩
  rintro _ rfl _ rfl _ rfl
  rintro _ rfl
  have key := lq1 (fun n' i (g' : GH) => wp_X7_doAllActs_6 (A rRm) (A b) post n' i g') (fun i g' => ∃ x, g' = hu g (A b) (2, x) ∧ CV x (abFold o i) (fA o 12) (fA o 13) ∧ CG x (abFold o i) i) m (by omega) ?_ ?_ 0 (hu g (A b) (2, sI (sI (sL (ob b) 7 0) 8 0) 9 0)) (by omega) ⟨_, rfl, ⟨fun k hk => ?_, fun k hk => (by cases hk), List.Pairwise.nil⟩, ⟨fun k hk => (by cases hk), fun k hk => (by cases hk), ⟨(by decide : -((0 : Nat) : Int) ≤ (0 : Int32).toInt), (by decide : (0 : Int32).toInt ≤ 0)⟩, (by decide : 0 ≤ (0 : Int32).toInt), (by decide : (0 : Int32).toInt ≤ ((0 : Nat) : Int))⟩⟩
  · exact key
  · rintro n' g' ⟨x, rfl, hV, hG⟩
    have h' := h.set hbl x (c := 2) hbc.symm (fun z => by omega) ⟨by omega, by omega⟩
    refine ⟨_, h'.rm, _, h'.l1, ?_⟩
    rw [h'.n1]
    exact ⟨fun _ => K x hV hG, fun z => absurd (Int32.le_refl _) z⟩
  · rintro n' i g' hi ⟨x, rfl, hV, hG⟩ kk
    have h' := h.set hbl x (c := 2) hbc.symm (fun z => by omega) ⟨by omega, by omega⟩
    have eac : rup ob b x (rAc i) = ob (rAc i) := rup_k (by show 4 ≠ b.1; omega)
    refine ⟨_, h'.rm, _, h'.l1, ?_⟩
    rw [h'.n1]
    refine ⟨fun z => absurd z (nI_ge hi (by omega)), fun _ => ⟨_, h'.rm, _, h'.l1, h'.in1 hi, _, h'.ac hi, _, h'.ac hi, ?_⟩⟩
    have ha := hac i hi
    obtain ⟨i1, i2, i3, i4, i5, i6, i7⟩ := hA i hi
    obtain ⟨w1, w2⟩ := abFold_ok m200 n40 hA hS i (by omega)
    have hf : abFold o (i + 1) = if fA o 7 i = 0 then abFold o i else abStep o i (abFold o i) := rfl
    rw [eac, ha.2.2.2.2.2]
    refine ⟨fun z => kk _ ⟨x, rfl, ?_, ?_⟩, fun z => ⟨_, h'.rm, ?_⟩⟩
    · rw [hf, if_pos z]; exact hV
    · rw [hf, if_pos z]; exact hG.up1
    · rw [h'.pac hi]
      refine w_perform (k := i) (o := o) (F := abFold o i) (t := i) h' (h'.alAc hi) hb (by rw [eac]; exact ha) (fun j hj => by rw [rup_k (show (rSh j).1 ≠ b.1 by show 3 ≠ b.1; omega)]; exact hsh j hj) i1 i2 i6 (fun e0 z2 => ?_) (by rw [rup_s]; exact hV) (by rw [rup_s]; exact hG) (by omega) w1 fun y hy1 hy2 => ?_
      · obtain ⟨s, hs, es⟩ := i1
        rw [es, qn_cl (by omega)] at z2
        obtain ⟨j, j1, j2, j3⟩ := w2 s z2
        exact i7 e0 j j1 j2 (j3.trans es.symm)
      · rw [hu_hu]
        refine kk _ ⟨y, rfl, ?_, ?_⟩
        · rw [hf, if_neg z]; exact hy1
        · rw [hf, if_neg z]; exact hy2
  · show bL 0 k = _
    rw [bL_0]; rfl
end
