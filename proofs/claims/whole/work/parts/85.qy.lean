section
/-! pure layer Y: sell, resell, giveBack -/
theorem cPy.add {py py' : Nat → FO} {R R' o o' : FO} {ne np : Nat} (h : cPy py R o ne np) (hpy : ∀ p, p < np → py' p = py p) (hv : (fI (py' np) 0 = -1 ∧ ∃ a, a < 6 ∧ fI (py' np) 1 = nI a) ∨ ∃ e, e < ne ∧ fI (py' np) 0 = nI e) (r26 : fA o' 26 = fA o 26) (r35 : fA o' 35 = fA o 35)
    (h7 : ∀ j, j < 6 → fA R' 7 j = pyF (fA o 26) (fA o 35) (py' np) (fA R 7) j) : cPy py' R' o' ne (np + 1) := by
  refine ⟨fun p hp => ?_, fun j hj => ?_⟩
  · by_cases c : p = np
    · rw [c]; exact hv
    · rw [hpy p (by omega)]; exact h.1 p (by omega)
  · rw [r26, r35]
    have e : ∀ p, p ≤ np → pyAll (fA o 26) (fA o 35) py' p = pyAll (fA o 26) (fA o 35) py p := by
      intro p
      induction p with
      | zero => exact fun _ => rfl
      | succ p ih =>
        intro hp
        show pyF (fA o 26) (fA o 35) (py' p) (pyAll (fA o 26) (fA o 35) py' p) = pyF (fA o 26) (fA o 35) (py p) (pyAll (fA o 26) (fA o 35) py p)
        rw [ih (by omega), hpy p (by omega)]
    show pyF (fA o 26) (fA o 35) (py' np) (pyAll (fA o 26) (fA o 35) py' np) j = _
    rw [e np (Nat.le_refl _), h7 j hj]
    exact pyF_cong hv h.2 j hj
section CY
variable {g : GH} {A : Rl → Nat} {ob : Rl → FO} {D : GD} {n m ne np : Nat} {E : Nat → AB} {K : GH → Prop}
/-- a new payment of the class -/
theorem cl_pay {fr ar : Nat → Int32} {p0 p1 p2 : Int32} {rest : GH → Prop} (h : HQ g A ob D n m ne np) (hS : shOK ob fr ar ne) (h512 : np < 512) (hv : (p0 = -1 ∧ ∃ a, a < 6 ∧ p1 = nI a) ∨ ∃ e, e < ne ∧ p0 = nI e) {a60 : Nat} (ha : g a60 = none)
    (K : ∀ g' A' ob' D' φ, HQ g' A' ob' D' n m ne (np + 1) → (∀ q : Rl, q.1 ≠ 10 → A' q = A q) → D'.2.2.2.2.1 = D.2.2.2.2.1 → ob' rRm = sAr (ob rRm) 7 φ → (∀ q : Rl, q.1 ≠ 0 → q.1 ≠ 1 → (q.1 = 10 → q.2.1 ≠ np) → ob' q = ob q) → ob' (rPy np) = sI (sI (sI fo0 0 p0) 1 p1) 2 p2 →
      (∀ j, j < 6 → φ j = pyF fr ar (sI (sI (sI fo0 0 p0) 1 p1) 2 p2) (fA (ob rRm) 7) j) → rest g') :
    ∃ o71, hu (hu g a60 (5, fo0)) a60 (5, sI (sI (sI fo0 0 p0) 1 p1) 2 p2) (A rRm) = some (8, o71) ∧ wp_X7_enter (A rRm) a60 (hu (hu g a60 (5, fo0)) a60 (5, sI (sI (sI fo0 0 p0) 1 p1) 2 p2)) rest := by
  rw [hu_hu]
  obtain ⟨X, hX⟩ : ∃ X, X = sI (sI (sI fo0 0 p0) 1 p1) 2 p2 := ⟨_, rfl⟩
  rw [← hX] at K ⊢
  have x0 : fI X 0 = p0 := by rw [hX]; rfl
  have x1 : fI X 1 = p1 := by rw [hX]; rfl
  have h1 := h.newPy (x := X) ha
  have eA : ∀ q : Rl, q.1 ≠ 10 → rup A (rPy np) a60 q = A q := fun q hq => rup_k hq
  have eO : ∀ q : Rl, q.1 ≠ 10 → rup ob (rPy np) X q = ob q := fun q hq => rup_k hq
  have hrm := h1.rm
  rw [eA rRm (by decide)] at hrm
  have hS1 : shOK (rup ob (rPy np) X) fr ar ne := fun e he => by
    rw [eO (rEd e) (by decide : ¬ (5 : Nat) = 10)]; exact hS e he
  refine ⟨_, hrm, ?_⟩
  have key := w_enter (post := rest) h1 hS1 (Nat.lt_succ_self np) h512 (by rw [rup_s, x0, x1]; exact hv) (fun g' ob' φ q1 q2 q3 q4 => ?_)
  · rw [eA rRm (by decide), rup_s] at key
    exact key
  · rw [eO rRm (by decide), rup_s] at q4
    rw [eO rRm (by decide)] at q2
    refine K g' _ ob' (D.1, D.2.1, D.2.2.1, D.2.2.2.1, D.2.2.2.2.1, np + 1) φ q1 eA rfl q2 (fun q a b c => ?_) ?_ q4
    · rw [q3 q a b]
      refine rup_n fun z => ?_
      rw [z] at c
      exact c rfl rfl
    · rw [q3 (rPy np) (by decide : ¬ (10 : Nat) = 0) (by decide : ¬ (10 : Nat) = 1), rup_s]
theorem w_buyer {o : FO} {b : Nat} {v : Int32} {post : FO → Prop} (hb : b < 8) (k : post (sA o 9 b (fA o 9 b + v))) : wp_X7_payBuyer (nI b) v o post := by
  have hin : vp_in (nI b) 8 := vp_in_nI hb (by decide)
  refine ⟨fun z => absurd z (nI_pos (by omega)), fun _ => ⟨fun z => absurd z (qn_le (N := 8) hb), fun _ => ⟨hin, hin, ?_⟩⟩⟩
  rintro _ rfl
  rw [qn_cl (by omega)]
  exact k
theorem c_giveBack (h : IV g A ob D n m ne np E) (h512 : np < 512) (k : ∀ g', NX A np g' → K g') (p q : Int32) {post : Int32 → GH → Prop} (hp : ∀ xx g', (∃ o, g' (A rMd) = some (9, o) ∧ wp_X8_giveBack p q o (fun v o' => LW (A rMd) (A rOut) K xx v o' g')) → post xx g') : wp_L_giveBack (A rRm) p q (A rOut) g post := by
  have ne8 := h.ne8
  by_cases hx : ∃ e j, e < ne ∧ j < D.2.2.2.2.1 e ∧ p = nI e ∧ q = nI j
  · obtain ⟨e, j, he, hj, rfl, rfl⟩ := hx
    have c20 := h.1.c20 he
    obtain ⟨sc, st, hst, a1, a2, a3, a4, a5, a6⟩ := h.copy he hj
    have e2 : fI (ob (rCp e j)) 0 = 2 ↔ st = 2 := by rw [a2]; exact st_2 hst
    have m2 : fA (ob rMd) 42 (20 * e + j) = 2 ↔ st = 2 := by rw [a1]; exact st_2 hst
    by_cases c2 : st = 2
    · obtain ⟨⟨b, b8, bb1, bb2⟩, bb3⟩ := a4 (Or.inr c2)
      obtain ⟨a, a6', aa1, aa2⟩ := a5 c2
      -- the class
      obtain ⟨cost, hcost⟩ : ∃ c, c = fA (ob rMd) 44 (20 * e + j) := ⟨_, rfl⟩
      rw [← hcost] at bb3
      refine ⟨_, h.1.rm, _, h.1.rm, w_chT h.1 he hj (e2.mpr c2) ⟨_, h.1.cpA he hj, _, h.1.cpA he hj, _, h.1.rm, ?_⟩⟩
      rw [bb2, bb3]
      refine w_buyer b8 ?_
      rintro _ rfl
      have q1 := h.1.setRm (sA (ob rRm) 9 b (fA (ob rRm) 9 b + cost)) rfl
      have f0 : ∀ q : Rl, q.1 ≠ 0 → rup ob rRm (sA (ob rRm) 9 b (fA (ob rRm) 9 b + cost)) q = ob q := fun q hq => rup_k hq
      intro a14 ha14
      rintro _ rfl
      have hcp : hu (hu g (A rRm) (8, sA (ob rRm) 9 b (fA (ob rRm) 9 b + cost))) a14 (5, fo0) (A (rCp e j)) = some (3, ob (rCp e j)) := by
        have := (q1.other (x := (5, fo0)) ha14).cpA he hj
        rwa [f0 (rCp e j) (by decide : ¬ (9 : Nat) = 0)] at this
      refine ⟨_, hcp, _, hu_s, ?_⟩
      rw [aa2]
      rintro _ rfl _ rfl _ rfl
      rintro _ rfl
      have hS1 : shOK (rup ob rRm (sA (ob rRm) 9 b (fA (ob rRm) 9 b + cost))) (fA (ob rMd) 26) (fA (ob rMd) 35) ne := h.shOK
      refine cl_pay q1 hS1 h512 (Or.inl ⟨rfl, a, a6', rfl⟩) ha14 fun g' A' ob' D' φ hQ eA eD oR oO oP hφ => ?_
      rw [rup_s] at oR hφ
      have eCp := eA (rCp e j) (by decide : ¬ (9 : Nat) = 10)
      have oCp : ob' (rCp e j) = ob (rCp e j) := (oO (rCp e j) (by decide : ¬ (9 : Nat) = 0) (by decide : ¬ (9 : Nat) = 1) (fun z => absurd z (by decide : ¬ (9 : Nat) = 10))).trans (f0 (rCp e j) (by decide : ¬ (9 : Nat) = 0))
      have hj' : j < D'.2.2.2.2.1 e := by rw [eD]; exact hj
      have hc := hQ.cpA he hj'
      rw [eCp, oCp] at hc
      refine ⟨_, hc, ?_⟩
      rintro _ rfl
      refine ⟨_, hu_s, ?_⟩
      rintro _ rfl
      rw [hu_hu]
      have hQ2 := hQ.setCp he hj' (sI (sI (ob (rCp e j)) 0 3) 1 (-1))
      rw [eCp] at hQ2
      have f9 : ∀ q : Rl, q ≠ rCp e j → rup ob' (rCp e j) (sI (sI (ob (rCp e j)) 0 3) 1 (-1)) q = ob' q := fun q hq => rup_n hq
      have oo : ∀ q : Rl, q.1 ≠ 0 → q.1 ≠ 1 → q.1 ≠ 10 → ob' q = ob q := fun q h0 h1 h10 => (oO q h0 h1 (fun z => absurd z h10)).trans (f0 q h0)
      have hout := hQ2.out
      rw [eA rOut (by decide), f9 rOut (role_ne (by decide : ¬ (11 : Nat) = 9)), oo rOut (by decide) (by decide) (by decide)] at hout
      have hmd := hQ2.md
      rw [eA rMd (by decide), f9 rMd (role_ne (by decide : ¬ (12 : Nat) = 9)), oo rMd (by decide) (by decide) (by decide)] at hmd
      refine ⟨_, hout, ?_⟩
      rintro _ rfl
      refine hp 0 _ ⟨_, by rw [hu_n (fun z => h.om z.symm)]; exact hmd, m_ch h he hj (br_t (m2.mpr c2) ?_)⟩
      rintro _ rfl
      refine t_ok rfl ?_
      rw [q_ix20]
      have hin : vp_in (nI (20 * e + j)) 160 := vp_in_nI (by omega) (by decide)
      have hb : vp_in (nI b) 8 := vp_in_nI b8 (by decide)
      have hh : vp_in (nI a) 6 := vp_in_nI a6' (by decide)
      refine ⟨hin, ?_⟩
      rintro _ rfl
      rw [qn_cl (show 20 * e + j < 2147483648 by omega)]
      have r43 : fA (sA (sI (ob rMd) 0 0) 42 (20 * e + j) 3) 43 (20 * e + j) = nI b := bb1
      have r44 : fA (sA (sI (ob rMd) 0 0) 42 (20 * e + j) 3) 44 (20 * e + j) = cost := hcost.symm
      rw [r43, r44, qn_cl (show b < 2147483648 by omega)]
      refine ⟨hin, hb, hin, hb, ?_⟩
      rintro _ rfl
      have r45 : fA (sA (sA (sI (ob rMd) 0 0) 42 (20 * e + j) 3) 47 b (fA (sA (sI (ob rMd) 0 0) 42 (20 * e + j) 3) 47 b + cost)) 45 (20 * e + j) = nI a := aa1
      have r44' : fA (sA (sA (sI (ob rMd) 0 0) 42 (20 * e + j) 3) 47 b (fA (sA (sI (ob rMd) 0 0) 42 (20 * e + j) 3) 47 b + cost)) 44 (20 * e + j) = cost := hcost.symm
      rw [r45, r44', qn_cl (show a < 2147483648 by omega)]
      refine ⟨hin, hh, hin, hh, ?_⟩
      rintro _ rfl
      refine ⟨hin, ?_⟩
      have e47 : fA (sA (sI (ob rMd) 0 0) 42 (20 * e + j) 3) 47 b = fA (ob rMd) 47 b := rfl
      have e46 : fA (sA (sA (sI (ob rMd) 0 0) 42 (20 * e + j) 3) 47 b (fA (ob rMd) 47 b + cost)) 46 a = fA (ob rMd) 46 a := rfl
      rw [e47, e46]
      obtain ⟨o', ho'⟩ : ∃ o', o' = sA (sA (sA (sI (ob rMd) 0 0) 42 (20 * e + j) 3) 47 b (fA (ob rMd) 47 b + cost)) 46 a (fA (ob rMd) 46 a - cost) := ⟨_, rfl⟩
      rw [← ho']
      have hrow : ∀ k, k ≠ 42 → k ≠ 46 → k ≠ 47 → fA o' k = fA (ob rMd) k := fun k h1 h2 h3 => by rw [ho', qs_fAsA, if_neg h2, qs_fAsA, if_neg h3, qs_fAsA, if_neg h1, qs_fAsI]
      have s42 : ∀ q, fA o' 42 q = if q = 20 * e + j then 3 else fA (ob rMd) 42 q := fun q => by rw [ho']; rfl
      have s46 : ∀ q, fA o' 46 q = if q = a then fA (ob rMd) 46 a - cost else fA (ob rMd) 46 q := fun q => by rw [ho']; rfl
      have s47 : ∀ q, fA o' 47 q = if q = b then fA (ob rMd) 47 b + cost else fA (ob rMd) 47 q := fun q => by rw [ho']; rfl
      refine h.uV (E1 := E) k hQ2 ⟨eA _ (by decide), eA _ (by decide), eA _ (by decide)⟩ (Nat.le_refl _) (by rw [ho']; rfl) ?_ ?_
      · show cost.toInt64 = (fA o' 44 (20 * e + j)).toInt64
        rw [hrow 44 (by decide) (by decide) (by decide), hcost]
      · have g3 : (fun j2 => rup ob' (rCp e j) (sI (sI (ob (rCp e j)) 0 3) 1 (-1)) (rSh j2)) = fun j => ob (rSh j) := funext fun j2 => (f9 _ (role_ne (by decide : ¬ (3 : Nat) = 9))).trans (oo _ (by decide : ¬ (3 : Nat) = 0) (by decide : ¬ (3 : Nat) = 1) (by decide : ¬ (3 : Nat) = 10))
        have g4 : (fun j2 => rup ob' (rCp e j) (sI (sI (ob (rCp e j)) 0 3) 1 (-1)) (rAc j2)) = fun j => ob (rAc j) := funext fun j2 => (f9 _ (role_ne (by decide : ¬ (4 : Nat) = 9))).trans (oo _ (by decide : ¬ (4 : Nat) = 0) (by decide : ¬ (4 : Nat) = 1) (by decide : ¬ (4 : Nat) = 10))
        have g5 : (fun j2 => rup ob' (rCp e j) (sI (sI (ob (rCp e j)) 0 3) 1 (-1)) (rEd j2)) = fun j => ob (rEd j) := funext fun j2 => (f9 _ (role_ne (by decide : ¬ (5 : Nat) = 9))).trans (oo _ (by decide : ¬ (5 : Nat) = 0) (by decide : ¬ (5 : Nat) = 1) (by decide : ¬ (5 : Nat) = 10))
        have g6 : (fun j2 => rup ob' (rCp e j) (sI (sI (ob (rCp e j)) 0 3) 1 (-1)) (rWn j2)) = fun j => ob (rWn j) := funext fun j2 => (f9 _ (role_ne (by decide : ¬ (6 : Nat) = 9))).trans (oo _ (by decide : ¬ (6 : Nat) = 0) (by decide : ¬ (6 : Nat) = 1) (by decide : ¬ (6 : Nat) = 10))
        have g7 : (fun j2 => rup ob' (rCp e j) (sI (sI (ob (rCp e j)) 0 3) 1 (-1)) (rKb j2)) = fun j => ob (rKb j) := funext fun j2 => (f9 _ (role_ne (by decide : ¬ (7 : Nat) = 9))).trans (oo _ (by decide : ¬ (7 : Nat) = 0) (by decide : ¬ (7 : Nat) = 1) (by decide : ¬ (7 : Nat) = 10))
        rw [g3, g4, g5, g6, g7, f9 rRm (role_ne (by decide : ¬ (0 : Nat) = 9)), f9 rBd (role_ne (by decide : ¬ (2 : Nat) = 9)), oo rBd (by decide) (by decide) (by decide), oR, eD]
        have pN : ∀ p2, rup ob' (rCp e j) (sI (sI (ob (rCp e j)) 0 3) 1 (-1)) (rPy p2) = ob' (rPy p2) := fun p2 => f9 _ (role_ne (by decide : ¬ (10 : Nat) = 9))
        refine h.2.ed (fun k k1 _ => hrow k (by omega) (by omega) (by omega)) (by rw [ho']; rfl) (by rw [ho']; rfl) (by rw [ho']; rfl) (by rw [ho']; rfl) ?_ (fun e2 he2 => ?_) ?_ ⟨fun x hx => ?_, fun x hx => ?_, ?_⟩ ?_
        · unfold cDn
          rw [hrow 17 (by decide) (by decide) (by decide)]; exact h.dn
        · refine (h.ed he2).one (e := e) (j := j) (fun k k1 _ => hrow k (by omega) (by omega) (by omega)) (fun k hk q hq => ?_) (fun j2 hj2 => ?_) (by omega) (fun z => by subst z; exact hj) (fun z sc' _ hc => ?_)
          · rcases hk with z | z | z | z
            · subst z; rw [s42, if_neg hq]
            · rw [hrow k (by omega) (by omega) (by omega)]
            · rw [hrow k (by omega) (by omega) (by omega)]
            · rw [hrow k (by omega) (by omega) (by omega)]
          · refine (f9 (rCp e2 j2) fun z => ?_).trans (oo _ (by decide : ¬ (9 : Nat) = 0) (by decide : ¬ (9 : Nat) = 1) (by decide : ¬ (9 : Nat) = 10))
            have z1 : e2 = e := congrArg (fun r : Rl => r.2.1) z
            have z2 : j2 = j := congrArg (fun r : Rl => r.2.2) z
            exact hj2 z1 z2
          · subst z
            rw [rup_s]
            obtain ⟨st', hst', d1, d2, d3, d4, d5, d6⟩ := hc
            have : st' = 2 := (st_2 hst').mp (by rw [← d1]; exact m2.mpr c2)
            subst this
            exact ⟨3, by decide, by rw [s42, if_pos rfl]; rfl, rfl, ⟨fun z => absurd z (by decide), fun z => absurd (d3.mpr z) (by decide)⟩, fun z => by omega, fun z => by omega, fun _ => rfl⟩
        · refine h.fr.ed he (fun k k1 _ _ => hrow k (by omega) (by omega) (by omega)) (fun q _ => by rw [hrow 34 (by decide) (by decide) (by decide)]) (fun e2 j2 h1 h2 h3 => ?_)
          rw [s42, if_neg (by omega)]
        · show φ x = _
          rw [hφ x hx, s46]
          unfold pyF
          rw [if_pos (show fI (sI (sI (sI fo0 0 (-1)) 1 (nI a)) 2 (-cost)) 0 = -1 from rfl), show fI (sI (sI (sI fo0 0 (-1)) 1 (nI a)) 2 (-cost)) 1 = nI a from rfl, show fI (sI (sI (sI fo0 0 (-1)) 1 (nI a)) 2 (-cost)) 2 = -cost from rfl, qn_cl (by omega), qs_up]
          have r7 : ∀ y, fA (sA (ob rRm) 9 b (fA (ob rRm) 9 b + cost)) 7 y = fA (ob rRm) 7 y := fun y => rfl
          rw [r7, r7]
          by_cases c : x = a
          · rw [if_pos c, if_pos c, h.mo.1 a a6', Int32.sub_eq_add_neg]
          · rw [if_neg c, if_neg c]; exact h.mo.1 x hx
        · rw [s47]
          show (if x = b then fA (ob rRm) 9 b + cost else fA (ob rRm) 9 x) = _
          by_cases c : x = b
          · rw [if_pos c, if_pos c, h.mo.2.1 b b8]
          · rw [if_neg c, if_neg c]; exact h.mo.2.1 x hx
        · show fI (ob rRm) 10 = fI o' 48
          rw [ho']; exact h.mo.2.2
        · refine h.pyy.add (fun p2 hp2 => ?_) (Or.inl ?_) (hrow 26 (by decide) (by decide) (by decide)) (hrow 35 (by decide) (by decide) (by decide)) (fun x hx => ?_)
          · show rup ob' (rCp e j) _ (rPy p2) = ob (rPy p2)
            rw [pN, oO (rPy p2) (by decide : ¬ (10 : Nat) = 0) (by decide : ¬ (10 : Nat) = 1) (fun _ => by show p2 ≠ np; omega)]
            exact f0 _ (by decide : ¬ (10 : Nat) = 0)
          · show fI (rup ob' (rCp e j) _ (rPy np)) 0 = -1 ∧ _
            rw [pN, oP]
            exact ⟨rfl, a, a6', rfl⟩
          · show φ x = pyF _ _ (rup ob' (rCp e j) _ (rPy np)) _ x
            rw [pN, oP]
            exact hφ x hx
    · refine ⟨_, h.1.rm, _, h.1.rm, w_chF h.1 he hj (fun z => c2 (e2.mp z)) (Or.inr ⟨rfl, hp 2 _ ⟨_, h.md, m_ch h he hj (br_f (fun z => c2 (m2.mp z)) ?_)⟩⟩)⟩
      rintro _ rfl
      exact t_no (Or.inr (Or.inl rfl)) (h.qT k (by decide))
  · refine ⟨_, h.1.rm, _, h.1.rm, w_chN h.1 hx (Or.inl ⟨rfl, hp 1 _ ⟨_, h.md, m_chN h hx ?_⟩⟩)⟩
    rintro _ rfl
    exact t_no (Or.inl rfl) (h.qT k (by decide))
end CY
end
