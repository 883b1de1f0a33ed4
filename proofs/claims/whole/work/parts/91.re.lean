section
/-! pure layer AE: freeze -/
def fz (o : FO) (ne : Nat) (hd c r w t cp pr : Int32) : FO := sA (sA (sA (sA (sA (sA (sA (sI o 0 0) 26 ne hd) 27 ne c) 28 ne r) 29 ne w) 30 ne t) 31 ne cp) 32 ne pr
theorem cEd.congE {ed wn kb : FO} {cp : Nat → FO} {o o' : FO} {n m e ne : Nat} {E : AB} {c : Nat} (h : cEd ed wn kb cp o n m e E c) (he : e < ne) (hr : ∀ k, k < 26 ∨ 41 < k → fA o' k = fA o k) (h1 : ∀ k, (26 ≤ k ∧ k ≤ 34) ∨ k = 37 → ∀ q, q ≠ ne → fA o' k q = fA o k q)
    (h35 : ∀ q, q < 6 * ne → fA o' 35 q = fA o 35 q) (h36 : ∀ q, q < 200 * ne → fA o' 36 q = fA o 36 q) (h38 : ∀ k, 38 ≤ k → k ≤ 41 → ∀ q, q < 40 * ne → fA o' k q = fA o k q) : cEd ed wn kb cp o' n m e E c := by
  obtain ⟨a1, a2, a3, ⟨a4, a4', a4''⟩, a5, a6, a7, ⟨v1, v2, v3, v4, v5⟩, a9, ⟨sc, s1, s2, s3, s4⟩, a11⟩ := h
  have ne' : e ≠ ne := by omega
  have hlen : (aO E).length ≤ 40 := nd_len v3 fun k hk => (v5 k hk).1
  refine ⟨?_, ?_, ?_, ⟨fun j hj => ?_, ?_, a4''⟩, ?_, fun k hk => ?_, fun k k1 k2 => ?_, ⟨?_, ⟨?_, fun i hi => ?_⟩, v3, v4, ?_⟩, ?_, ⟨sc, s1, s2, ?_, fun j hj => ?_⟩, ?_⟩
  · obtain ⟨c0, r0, w, t, a, b, c⟩ := a1
    exact ⟨c0, r0, w, t, a, by rw [h1 27 (by decide) e ne', h1 28 (by decide) e ne', h1 29 (by decide) e ne', h1 30 (by decide) e ne']; exact b, c⟩
  · rw [h1 26 (by decide) e ne']; exact a2
  · rw [h1 32 (by decide) e ne']; exact a3
  · rw [h35 _ (by omega)]; exact a4 j hj
  · rw [a4']
    unfold arSum
    rw [h35 _ (by omega), h35 _ (by omega), h35 _ (by omega), h35 _ (by omega), h35 _ (by omega), h35 _ (by omega)]
  · rw [h1 33 (by decide) e ne']; exact a5
  · rw [h36 _ (by omega)]; exact a6 k hk
  · rw [h36 _ (by omega)]; exact a7 k k1 k2
  · rw [hr 12 (by decide), hr 13 (by decide)]; exact v1
  · rw [h1 37 (by decide) e ne']; exact v2.1
  · rw [h38 38 (by decide) (by decide) _ (by omega), h38 39 (by decide) (by decide) _ (by omega), h38 40 (by decide) (by decide) _ (by omega), h38 41 (by decide) (by decide) _ (by omega)]; exact v2.2 i hi
  · rw [hr 12 (by decide), hr 13 (by decide)]; exact v5
  · rw [h1 31 (by decide) e ne']; exact a9
  · rw [h1 34 (by decide) e ne']; exact s3
  · exact (s4 j hj).cong fun k hk => by rw [hr k (by omega)]
  · rw [hr 42 (by decide)]; exact a11
theorem pyAll_cong {fr ar fr' ar' : Nat → Int32} {py : Nat → FO} {ne np : Nat} (hv : ∀ p, p < np → (fI (py p) 0 = -1 ∧ ∃ a, a < 6 ∧ fI (py p) 1 = nI a) ∨ ∃ e, e < ne ∧ fI (py p) 0 = nI e) (ne8 : ne ≤ 8) (h1 : ∀ e, e < ne → fr' e = fr e) (h2 : ∀ q, q < 6 * ne → ar' q = ar q) : ∀ p, p ≤ np → ∀ j, j < 6 → pyAll fr' ar' py p j = pyAll fr ar py p j := by
  intro p
  induction p with
  | zero => exact fun _ _ _ => rfl
  | succ p ih =>
    intro hp j hj
    have ih := ih (by omega)
    show pyF fr' ar' (py p) (pyAll fr' ar' py p) j = pyF fr ar (py p) (pyAll fr ar py p) j
    rw [pyF_cong (hv p (by omega)) ih j hj]
    unfold pyF
    rcases hv p (by omega) with ⟨z, -⟩ | ⟨e, he, ee⟩
    · rw [if_pos z, if_pos z]
    · rw [if_neg (by rw [ee]; exact oI_ne (by omega)), if_neg (by rw [ee]; exact oI_ne (by omega)), ee, qn_cl (by omega)]
      have es : ∀ i, i < 6 → ar' (6 * e + i) = ar (6 * e + i) := fun i hi => h2 _ (by omega)
      have esum : arSum ar' e = arSum ar e := by
        unfold arSum
        rw [es 0 (by omega), es 1 (by omega), es 2 (by omega), es 3 (by omega), es 4 (by omega), es 5 (by omega)]
      have eP : ∀ i, i < 6 → shP ar' e (fI (py p) 2) i = shP ar e (fI (py p) 2) i := fun i hi => by
        unfold shP
        rw [es i hi, esum]
      have eL : shL ar' e (fI (py p) 2) = shL ar e (fI (py p) 2) := by
        unfold shL
        rw [eP 0 (by omega), eP 1 (by omega), eP 2 (by omega), eP 3 (by omega), eP 4 (by omega), eP 5 (by omega)]
      unfold shr
      rw [eP j hj, eL, h1 e he]
theorem CT.fz {R B o : FO} {sh ac ed wn kb py : Nat → FO} {cp : Nat → Nat → FO} {n m ne np : Nat} {cs : Nat → Nat} {E : Nat → AB} (h : CT R B o sh ac ed wn kb py cp n m ne np cs E) (ne8 : ne < 8) {o' : FO} {ed' wn' kb' : Nat → FO} {cp' : Nat → Nat → FO} {cs' : Nat → Nat} {F : AB}
    (hi : ∀ k, k ≠ 0 → k ≠ 25 → fI o' k = fI o k) (h25 : fI o' 25 = nI (ne + 1)) (hr : ∀ k, k < 26 ∨ 41 < k → fA o' k = fA o k) (h1 : ∀ k, (26 ≤ k ∧ k ≤ 34) ∨ k = 37 → ∀ q, q ≠ ne → fA o' k q = fA o k q)
    (h35 : ∀ q, q < 6 * ne ∨ 6 * ne + 6 ≤ q → fA o' 35 q = fA o 35 q) (h36 : ∀ q, q < 200 * ne ∨ 200 * ne + 200 ≤ q → fA o' 36 q = fA o 36 q) (h38 : ∀ k, 38 ≤ k → k ≤ 41 → ∀ q, q < 40 * ne → fA o' k q = fA o k q)
    (he : ∀ e, e < ne → ed' e = ed e ∧ wn' e = wn e ∧ kb' e = kb e ∧ cs' e = cs e ∧ cp' e = cp e) (hnew : cEd (ed' ne) (wn' ne) (kb' ne) (cp' ne) o' n m ne F (cs' ne)) : CT R B o' sh ac ed' wn' kb' py cp' n m (ne + 1) np cs' (fun e => if e = ne then F else E e) := by
  obtain ⟨⟨c1, c2, c3⟩, ⟨s1, s2⟩, ⟨a1, a2⟩, hu', hd, ⟨b1', b2, b3⟩, hE, hf, hm, hp⟩ := h
  have ef : abFold o' m = abFold o m := abFold_cong fun k _ => by
    rw [hr 2 (by decide), hr 4 (by decide), hr 5 (by decide), hr 6 (by decide), hr 7 (by decide), hr 14 (by decide), hr 15 (by decide), hr 16 (by decide)]
    exact ⟨rfl, rfl, rfl, rfl, rfl, rfl, rfl, rfl⟩
  refine ⟨⟨(hi 1 (by decide) (by decide)).trans c1, (hi 10 (by decide) (by decide)).trans c2, h25⟩, ⟨?_, fun j hj => ?_⟩, ⟨?_, fun j hj => ?_⟩, fun h1 hh1 => ?_, ?_, ⟨?_, ?_, ?_⟩, fun e he2 => ?_, fun e e1 e2 => ?_, ⟨?_, ?_, ?_⟩, ⟨fun p hp2 => ?_, fun j hj => ?_⟩⟩
  · unfold WFS
    rw [hr 11 (by decide), hr 12 (by decide), hr 13 (by decide), hr 14 (by decide), hr 15 (by decide)]; exact s1
  · unfold shF
    rw [hr 11 (by decide), hr 12 (by decide), hr 13 (by decide), hr 14 (by decide), hr 15 (by decide), hr 16 (by decide)]; exact s2 j hj
  · unfold WFA
    rw [hr 2 (by decide), hr 3 (by decide), hr 4 (by decide), hr 5 (by decide), hr 6 (by decide), hr 7 (by decide)]; exact a1
  · unfold acF
    rw [hr 2 (by decide), hr 3 (by decide), hr 4 (by decide), hr 5 (by decide), hr 6 (by decide), hr 7 (by decide)]; exact a2 j hj
  · obtain ⟨u, st, hh2⟩ := hu' h1 hh1
    refine ⟨u, st, ?_⟩
    unfold cUh at hh2 ⊢
    rw [hr 3 (by decide), hr 7 (by decide), hr 8 (by decide), hr 9 (by decide)]
    exact hh2
  · unfold cDn
    rw [hr 17 (by decide)]; exact hd
  · rw [ef, hr 12 (by decide), hr 13 (by decide)]; exact b1'
  · rw [ef]; exact b2
  · rw [ef, hi 18 (by decide) (by decide), hr 19 (by decide), hr 20 (by decide), hr 21 (by decide), hr 22 (by decide), hr 23 (by decide), hr 24 (by decide)]; exact b3
  · by_cases c : e = ne
    · subst c
      show cEd _ _ _ _ _ _ _ _ (if e = e then F else E e) _
      rw [if_pos rfl]
      exact hnew
    · have hlt : e < ne := by omega
      obtain ⟨q1, q2, q3, q4, q5⟩ := he e hlt
      show cEd _ _ _ _ _ _ _ _ (if e = ne then F else E e) _
      rw [if_neg c, q1, q2, q3, q4, q5]
      exact (hE e hlt).congE hlt hr h1 (fun q hq => h35 q (Or.inl hq)) (fun q hq => h36 q (Or.inl hq)) h38
  · obtain ⟨x1, x2, x3, x4, x5⟩ := hf e (by omega) e2
    exact ⟨by rw [h1 33 (by decide) e (by omega)]; exact x1, by rw [h1 34 (by decide) e (by omega)]; exact x2, fun j hj => by rw [h35 _ (Or.inr (by omega))]; exact x3 j hj, fun k hk => by rw [h36 _ (Or.inr (by omega))]; exact x4 k hk, by rw [hr 42 (by decide)]; exact x5⟩
  · rw [hr 46 (by decide)]; exact hm.1
  · rw [hr 47 (by decide)]; exact hm.2.1
  · rw [hi 48 (by decide) (by decide)]; exact hm.2.2
  · rcases hp.1 p hp2 with z | ⟨e, e1, e2⟩
    · exact Or.inl z
    · exact Or.inr ⟨e, by omega, e2⟩
  · rw [pyAll_cong hp.1 (by omega) (fun e he2 => h1 26 (by decide) e (by omega)) (fun q hq => h35 q (Or.inl hq)) np (Nat.le_refl _) j hj]
    exact hp.2 j hj
theorem sum6 {o : FO} {T : Nat → Option Nat} {n : Nat} : ∀ N, (∀ c, c < N → ∀ s, T c = some s → s < n ∧ ∃ a, a < 6 ∧ fA o 11 s = nI a) →
    fb_ct (cTT T n) N = 0 + fb_ct (mAN o T 0) N + fb_ct (mAN o T 1) N + fb_ct (mAN o T 2) N + fb_ct (mAN o T 3) N + fb_ct (mAN o T 4) N + fb_ct (mAN o T 5) N := by
  intro N
  induction N with
  | zero => exact fun _ => rfl
  | succ N ih =>
    intro h
    have ih := ih fun c hc => h c (by omega)
    rw [fb_ct_succ, fb_ct_succ, fb_ct_succ, fb_ct_succ, fb_ct_succ, fb_ct_succ, fb_ct_succ, ih]
    have key : (if cTT T n N = true then 1 else 0) = (if mAN o T 0 N = true then 1 else 0) + (if mAN o T 1 N = true then 1 else 0) + (if mAN o T 2 N = true then 1 else 0) + (if mAN o T 3 N = true then 1 else 0) + (if mAN o T 4 N = true then 1 else 0) + (if mAN o T 5 N = true then 1 else 0) := by
      cases e : T N with
      | none =>
        have e1 : cTT T n N = false := by unfold cTT; rw [e]
        have e2 : ∀ h, mAN o T h N = false := fun h => by unfold mAN; rw [e]
        rw [e1, e2, e2, e2, e2, e2, e2]
        rfl
      | some s =>
        obtain ⟨hs, a, ha, ea⟩ := h N (Nat.lt_succ_self N) s e
        have e1 : cTT T n N = true := by unfold cTT; rw [e]; exact decide_eq_true hs
        have e2 : ∀ h, h < 6 → mAN o T h N = decide (a = h) := fun h hh => by
          unfold mAN
          rw [e]
          show decide (fA o 11 s = nI h) = decide (a = h)
          rw [ea]
          exact decide_eq_decide.mpr ⟨fun z => q_nIi z (by omega) (by omega), fun z => by rw [z]⟩
        rw [e1, e2 0 (by omega), e2 1 (by omega), e2 2 (by omega), e2 3 (by omega), e2 4 (by omega), e2 5 (by omega)]
        match a, ha with
        | 0, _ => rfl
        | 1, _ => rfl
        | 2, _ => rfl
        | 3, _ => rfl
        | 4, _ => rfl
        | 5, _ => rfl
        | a + 6, h => omega
    omega
theorem cAN_m {o : FO} {T : Nat → Option Nat} {n h N : Nat} (hT : ∀ c, c < N → ∀ s, T c = some s → s < n) : fb_ct (cAN o T n h) N = fb_ct (mAN o T h) N := fb_ct_cong fun c hc => by
  unfold cAN mAN
  cases e : T c with
  | none => rfl
  | some s => exact decide_eq_decide.mpr ⟨fun z => z.2, fun z => ⟨hT c hc s e, z⟩⟩
theorem HQ.addEd {g : GH} {A : Rl → Nat} {ob : Rl → FO} {D : GD} {n m ne np : Nat} (h : HQ g A ob D n m ne np) (d1 : ne < D.2.2.1) (d2 : ne < D.2.2.2.1) (ne8 : ne < 8) (c20 : D.2.2.2.2.1 ne ≤ 20)
    (hp : (fR (ob (rEd ne)) 1 = A (rWn ne) ∧ fR (ob (rEd ne)) 3 = A (rKb ne) ∧ fR (ob (rEd ne)) 8 = A (rCl ne)) ∧ fI (ob (rCl ne)) 2 = nI (D.2.2.2.2.1 ne) ∧ ∀ i, i < D.2.2.2.2.1 ne → fR (ob (rCl ne)) i = A (rCp ne i)) :
    HQ (hu g (fR (ob rRm) 2) (0, lAdd (ob (rLs 2)) (A (rEd ne)))) A (rup ob (rLs 2) (lAdd (ob (rLs 2)) (A (rEd ne)))) D n m (ne + 1) np := by
  have p0 := h.p2
  rw [p0]
  refine ⟨h.1.set (al_Ls (by decide)) _, ?_, ⟨h.2.2.1.1, h.2.2.1.2.1, d1, d2, h.2.2.1.2.2.2.2⟩, ⟨h.2.2.2.1.1, h.2.2.2.1.2.1, ne8, h.2.2.2.1.2.2.2⟩, fun e he => ?_⟩
  · obtain ⟨a, ⟨b0, b1, b2, b3⟩, c, d, e, f, q⟩ := h.2.1
    unfold PT
    rw [rup_k (show rRm.1 ≠ (rLs 2).1 from (by decide : ¬ (0 : Nat) = 1)), rup_s, rup_j (show (rLs 0).2.1 ≠ (rLs 2).2.1 by decide), rup_j (show (rLs 1).2.1 ≠ (rLs 2).2.1 by decide), rup_j (show (rLs 3).2.1 ≠ (rLs 2).2.1 by decide)]
    refine ⟨a, ⟨b0, b1, lA_n b2, b3⟩, c, d, fun j hj => ?_, f, fun x hx => ?_⟩
    · rw [lA_f b2 (by omega)]
      by_cases z : j = ne
      · rw [if_pos z, z]
      · rw [if_neg z]; exact e j (by omega)
    · rw [rup_k (show (rEd x).1 ≠ (rLs 2).1 from (by decide : ¬ (5 : Nat) = 1)), rup_k (show (rCl x).1 ≠ (rLs 2).1 from (by decide : ¬ (8 : Nat) = 1))]
      by_cases z : x = ne
      · subst z
        exact ⟨hp.1.1, hp.1.2.1, hp.1.2.2, hp.2.1, hp.2.2⟩
      · exact q x (by omega)
  · by_cases z : e = ne
    · rw [z]; exact c20
    · exact h.2.2.2.2 e (by omega)
end
