section
/-! pure layer AF: freeze, the call -/
section CF
variable {g : GH} {A : Rl → Nat} {ob : Rl → FO} {D : GD} {n m ne np : Nat} {E : Nat → AB} {K : GH → Prop}
theorem IV.other (h : IV g A ob D n m ne np E) {a : Nat} {x : Nat × FO} (ha : g a = none) : IV (hu g a x) A ob D n m ne np E := ⟨h.1.other ha, h.2⟩
theorem m_frT {a p q x y c z : Int32} {o : FO} {post : Int32 → FO → Prop} (h1 : ¬ p < 0 ∧ ¬ 23 < p) (h2 : ¬ q < 0 ∧ ¬ 15 < q) (h3 : ¬ x < 1 ∧ ¬ 24 - p < x) (h4 : ¬ y < 1 ∧ ¬ 16 - q < y) (h5 : ¬ c < 1 ∧ ¬ 20 < c) (h6 : ¬ z < 0 ∧ ¬ 100000 < z) (k : wp_X8_freeze_85 a p q x y c z post 1 o) : wp_X8_freeze a p q x y c z o post :=
  m_inT h1 (b1 (m_inT h2 (b1 (m_inT h5 (b1 (m_inT h6 (b1 (b1 (m_inT h3 (b1 (m_inT h4 (b1 k))))))))))))
theorem m_frF {a p q x y c z : Int32} {o : FO} {post : Int32 → FO → Prop} (h : ¬ ((¬ p < 0 ∧ ¬ 23 < p) ∧ (¬ q < 0 ∧ ¬ 15 < q) ∧ (¬ x < 1 ∧ ¬ 24 - p < x) ∧ (¬ y < 1 ∧ ¬ 16 - q < y) ∧ (¬ c < 1 ∧ ¬ 20 < c) ∧ (¬ z < 0 ∧ ¬ 100000 < z))) (k : wp_X8_freeze_85 a p q x y c z post 0 o) : wp_X8_freeze a p q x y c z o post := by
  by_cases h1 : ¬ p < 0 ∧ ¬ 23 < p
  · by_cases h2 : ¬ q < 0 ∧ ¬ 15 < q
    · by_cases h5 : ¬ c < 1 ∧ ¬ 20 < c
      · by_cases h6 : ¬ z < 0 ∧ ¬ 100000 < z
        · by_cases h3 : ¬ x < 1 ∧ ¬ 24 - p < x
          · exact m_inT h1 (b1 (m_inT h2 (b1 (m_inT h5 (b1 (m_inT h6 (b1 (b1 (m_inT h3 (b1 (m_inF (fun h4 => h ⟨h1, h2, h3, h4, h5, h6⟩) (b0 k))))))))))))
          · exact m_inT h1 (b1 (m_inT h2 (b1 (m_inT h5 (b1 (m_inT h6 (b1 (b1 (m_inF h3 (b0 k))))))))))
        · exact m_inT h1 (b1 (m_inT h2 (b1 (m_inT h5 (b1 (m_inF h6 (b0 (b0 k))))))))
      · exact m_inT h1 (b1 (m_inT h2 (b1 (m_inF h5 (b0 (b0 k))))))
    · exact m_inT h1 (b1 (m_inF h2 (b0 (b0 k))))
  · exact m_inF h1 (b0 (b0 k))
theorem c_freeze (h : IV g A ob D n m ne np E) (k : ∀ g', NX A np g' → K g') (a p q x y cc z : Int32) {post : Int32 → GH → Prop} (hp : ∀ xx g', (∃ o, g' (A rMd) = some (9, o) ∧ wp_X8_freeze a p q x y cc z o (fun v o' => LW (A rMd) (A rOut) K xx v o' g')) → post xx g') : wp_L_freeze (A rRm) a p q x y cc z (A rOut) g post := by
  have ne8 := h.ne8
  have n40 := h.n40
  have m200 := h.m200
  have T : ∀ c : Int32, (c = 1 ∨ c = 2) → wp_X8_freeze_109 a p q x y cc z (fun v o' => LW (A rMd) (A rOut) K c v o' g) c (ob rMd) := fun c hc => by
    rintro _ rfl
    exact t_no (hc.imp id Or.inl) (h.qT k (by rcases hc with rfl | rfl <;> decide))
  by_cases hh : ∃ hd, hd < 6 ∧ a = nI hd
  · obtain ⟨hd, hh, rfl⟩ := hh
    by_cases hf : (¬ p < 0 ∧ ¬ 23 < p) ∧ (¬ q < 0 ∧ ¬ 15 < q) ∧ (¬ x < 1 ∧ ¬ 24 - p < x) ∧ (¬ y < 1 ∧ ¬ 16 - q < y) ∧ (¬ cc < 1 ∧ ¬ 20 < cc) ∧ (¬ z < 0 ∧ ¬ 100000 < z)
    · obtain ⟨h1, h2, h3, h4, h5, h6⟩ := hf
      obtain ⟨c0, r0, w, t, rfl, rfl, rfl, rfl, hc, hr, w1, w2, t1, t2⟩ := q_rect h1 h2 h3 h4
      obtain ⟨c, rfl, c1, c20⟩ : ∃ c, cc = nI c ∧ 1 ≤ c ∧ c ≤ 20 := by
        have e1 : (1 : Int32).toInt = 1 := rfl
        have e2 : (20 : Int32).toInt = 20 := by decide
        rw [q_lt, q_lt, e1, e2] at h5
        exact ⟨cc.toInt.toNat, q_nn (by omega), by omega, by omega⟩
      obtain ⟨hV, hG, hM⟩ := h.bd
      -- the reference, up to its last check
      have bad : wp_X8_freeze_144 (nI hd) (nI c0) (nI r0) (nI w) (nI t) (nI c) z (fun v o' => LW (A rMd) (A rOut) K 3 v o' g) (sI (ob rMd) 0 0) := by
        rintro _ rfl
        rw [sI2]
        exact t_no (Or.inr (Or.inr rfl)) (h.qT k (by decide))
      have start : ∀ (pst : Int32 → FO → Prop), (nI ne = 8 → wp_X8_freeze_144 (nI hd) (nI c0) (nI r0) (nI w) (nI t) (nI c) z pst (sI (ob rMd) 0 0)) → (¬ nI ne = 8 → ((∀ i, i < w * t → cellT (bL (fL (ob rRm) 6)) (abFold (ob rMd) m) (fA (ob rMd) 12) (fA (ob rMd) 13) c0 r0 w i = none) → wp_X8_freeze_144 (nI hd) (nI c0) (nI r0) (nI w) (nI t) (nI c) z pst (sI (ob rMd) 0 0)) ∧
          ((∃ i, i < w * t ∧ cellT (bL (fL (ob rRm) 6)) (abFold (ob rMd) m) (fA (ob rMd) 12) (fA (ob rMd) 13) c0 r0 w i ≠ none) → wp_X8_freeze_149 (nI hd) (nI c0) (nI r0) (nI w) (nI t) (nI c) z pst 0 (sI (ob rMd) 0 0))) → wp_X8_freeze (nI hd) (nI c0) (nI r0) (nI w) (nI t) (nI c) z (ob rMd) pst := fun pst k8 kn => by
        refine m_frT h1 h2 h3 h4 h5 h6 (m_hand1 hh (b1' (b1 ?_)))
        rintro _ rfl
        refine t_ok rfl ?_
        have e25 : fI (sI (ob rMd) 0 0) 25 = nI ne := h.n25
        rw [e25]
        refine ⟨k8, fun z8 => ?_⟩
        exact w_isEmpty (o := sI (ob rMd) 0 0) (A := abFold (ob rMd) m) (D := bL (fL (ob rRm) 6)) hM h.abb h.abw.1 h.dn w1 w2 t2 (fun hn => b1 ((kn z8).1 hn)) (fun hn => b0 ((kn z8).2 hn))
      refine ⟨_, h.1.rm, w_handT hh (w_rectT h1 h2 h3 h4 (w_rangeT h5 (w_rangeT h6 fun a5 ha => ?_)))⟩
      rintro _ rfl
      refine ⟨_, hu_s, ?_⟩
      rintro _ rfl _ rfl _ rfl _ rfl
      rintro _ rfl
      rw [hu_hu]
      obtain ⟨X, hX⟩ : ∃ X, X = sI (sI (sI (sI fo0 0 (nI c0)) 1 (nI r0)) 2 (nI w)) 3 (nI t) := ⟨_, rfl⟩
      rw [← hX]
      have x0 : fI X 0 = nI c0 := by rw [hX]; rfl
      have x1 : fI X 1 = nI r0 := by rw [hX]; rfl
      have x2 : fI X 2 = nI w := by rw [hX]; rfl
      have x3 : fI X 3 = nI t := by rw [hX]; rfl
      have hO := h.other (x := (7, X)) ha
      have hmO : hu g a5 (7, X) (A rMd) = some (9, ob rMd) := hO.md
      have bad2 : ∀ (pst : Int32 → FO → Prop), pst = (fun v o' => LW (A rMd) (A rOut) K 3 v o' (hu g a5 (7, X))) → wp_X8_freeze_144 (nI hd) (nI c0) (nI r0) (nI w) (nI t) (nI c) z pst (sI (ob rMd) 0 0) := fun pst hps => by
        subst hps
        rintro _ rfl
        rw [sI2]
        exact t_no (Or.inr (Or.inr rfl)) (hO.qT k (by decide))
      refine ⟨_, hO.1.rm, _, hO.1.l2, ?_⟩
      rw [hO.1.n2]
      by_cases hne : ne < 8
      · have n8 : ¬ nI ne = 8 := fun y => by have := q_nIi (b := 8) y (by omega) (by decide); omega
        refine ⟨fun y => absurd y (qn_le (N := 8) hne), fun _ => ⟨_, hO.1.rm, _, hO.1.rm, _, hu_s, ?_⟩⟩
        have hbd := hO.1.1.get rBd al_Bd
        rw [hO.1.p4]
        refine w_anyShown hu_s hbd x0 x1 x2 x3 hc w2 w1 t2 hV h.abb (fun hsh => b1' fun a30 hfr => ?_) (fun hno => b0' (Or.inr (Or.inr ⟨rfl, hp 3 _ ⟨_, hmO, start _ (fun y => absurd y n8) fun _ => ⟨fun _ => bad2 _ rfl, fun ⟨i, hi, y⟩ => absurd (hno i hi) y⟩⟩⟩)))
        rintro _ rfl
        -- the new edition
        have q1 := h.1.newWn (x := X) ha
        have hN := NEd.new q1 (Nat.lt_succ_self ne) (fz := nI hd) (pr := z) hfr
        rw [rup_s] at hN
        have hed := hN.1.1.get (rEd ne) (al_Ed hN.2.1.1)
        rw [rup_s, rup_s] at hed
        refine ⟨_, hed, ?_⟩
        have wi := w_issue (c := c) (post := fun g36 => ∃ o38, g36 a30 = some (4, o38) ∧ ∃ o40, g36 (A rRm) = some (8, o40) ∧ ∃ o42, g36 (fR o38 3) = some (2, o42) ∧ wp_X1_copy (fR o38 3) (fR o40 4) g36 (fun g44 => ∃ o46, g44 (A rRm) = some (8, o46) ∧ wp_X7_measureAndHold (A rRm) a30 g44 (fun g48 => ∃ o50, g48 (A rRm) = some (8, o50) ∧ ∃ o52, g48 (fR o50 2) = some (0, o52) ∧ vp_in (fI o52 2) 8 ∧ (∀ j, j < (fI o52 2).toNatClampNeg → ∃ c oo, c < 10 ∧ g48 (fR o52 j) = some (c, oo)) ∧ (∃ c oo, c < 10 ∧ g48 a30 = some (c, oo)) ∧ ∀ g55, g55 = hu g48 (fR o50 2) (0, lAdd o52 a30) →
          ∃ o58, g55 (A rRm) = some (8, o58) ∧ ∃ o60, g55 (fR o58 2) = some (0, o60) ∧ ∃ o7, g55 (A rOut) = some (10, o7) ∧ ∀ g9, g9 = hu g55 (A rOut) (10, sB o7 0 0 (fI o60 2 - 1).toInt64) → post 0 g9))) hN c20 (fun g' A3 ob3 D3 hN3 i1 i2 i3 i4 => ?_)
        · rw [rup_s] at wi
          exact wi
        · obtain ⟨hQ, ⟨d1, d2, d3⟩, ⟨p1, p2, p3⟩, l1, l2⟩ := hN3
          -- names of addresses and objects
          have A3E : A3 (rEd ne) = a30 := by rw [i1 (rEd ne) (by decide : ¬ (5 : Nat) = 9), rup_s]
          have A3o : ∀ r : Rl, r.1 ≠ 5 → r.1 ≠ 6 → r.1 ≠ 7 → r.1 ≠ 8 → r.1 ≠ 9 → A3 r = A r := fun r k5 k6 k7 k8 k9 => by
            rw [i1 r k9, rup_k (show r.1 ≠ (rEd ne).1 from k5), rup_k (show r.1 ≠ (rCl ne).1 from k8), rup_k (show r.1 ≠ (rKb ne).1 from k7), rup_k (show r.1 ≠ (rWn ne).1 from k6)]
          have o3E : ob3 (rEd ne) = ed0 a30 (nI hd) a5 z := by rw [i2 (rEd ne) (Or.inl (by decide : ¬ (5 : Nat) = 9)) (role_ne (by decide : ¬ (5 : Nat) = 8)), rup_s]
          have o3W : ob3 (rWn ne) = X := by
            rw [i2 (rWn ne) (Or.inl (by decide : ¬ (6 : Nat) = 9)) (role_ne (by decide : ¬ (6 : Nat) = 8)), rup_n (role_ne (by decide : ¬ (6 : Nat) = 5)), rup_n (role_ne (by decide : ¬ (6 : Nat) = 8)), rup_n (role_ne (by decide : ¬ (6 : Nat) = 7)), rup_s]
          have o3o : ∀ r : Rl, (r.1 ≠ 9 ∨ r.2.1 ≠ ne) → r ≠ rEd ne → r ≠ rCl ne → r ≠ rKb ne → r ≠ rWn ne → ob3 r = ob r := fun r k9 k5 k8 k7 k6 => by
            rw [i2 r k9 k8, rup_n k5, rup_n k8, rup_n k7, rup_n k6]
          have o3k : ∀ r : Rl, r.1 ≠ 9 → r.1 ≠ 5 → r.1 ≠ 8 → r.1 ≠ 7 → r.1 ≠ 6 → ob3 r = ob r := fun r k9 k5 k8 k7 k6 => o3o r (Or.inl k9) (role_ne k5) (role_ne k8) (role_ne k7) (role_ne k6)
          have gE := hQ.1.get (rEd ne) (al_Ed d1)
          rw [A3E] at gE
          have gK := hQ.1.get (rKb ne) (al_Kb d1)
          have gR := hQ.rm
          rw [A3o rRm (by decide) (by decide) (by decide) (by decide) (by decide)] at gR
          have gB := hQ.1.get rBd al_Bd
          refine ⟨_, gE, _, gR, _, by rw [p2]; exact gK, ?_⟩
          rw [p2, hQ.p4]
          refine w_copy gB gK (fun y => by
            have := hQ.1.2 rBd (rKb ne) al_Bd (al_Kb d1) y
            exact absurd (congrArg Prod.fst this) (by decide : ¬ (2 : Nat) = 7)) fun Kx kx1 kx2 => ?_
          obtain ⟨ob4, q4, r4, f4⟩ : ∃ ob4, HQ (hu g' (A3 (rKb ne)) (2, Kx)) A3 ob4 D3 n m ne np ∧ ob4 (rKb ne) = Kx ∧ ∀ r : Rl, r ≠ rKb ne → ob4 r = ob3 r := ⟨_, hQ.set (al_Kb d1) Kx (c := 2) rfl (fun y => by rcases y with y | y <;> cases y) ⟨(by decide : ¬ (7 : Nat) = 1), (by decide : ¬ (7 : Nat) = 8)⟩, rup_s, fun r hr => rup_n hr⟩
          have f4k : ∀ r : Rl, r.1 ≠ 7 → ob4 r = ob3 r := fun r hr => f4 r (role_ne hr)
          have o4B : ob4 rBd = ob rBd := (f4k rBd (by decide)).trans (o3k rBd (by decide) (by decide) (by decide) (by decide) (by decide))
          have o4R : ob4 rRm = ob rRm := (f4k rRm (by decide)).trans (o3k rRm (by decide) (by decide) (by decide) (by decide) (by decide))
          have o4E : ob4 (rEd ne) = ed0 a30 (nI hd) a5 z := (f4k (rEd ne) (by decide : ¬ (5 : Nat) = 7)).trans o3E
          have o4W : ob4 (rWn ne) = X := (f4k (rWn ne) (by decide : ¬ (6 : Nat) = 7)).trans o3W
          have eR : A3 rRm = A rRm := A3o rRm (by decide) (by decide) (by decide) (by decide) (by decide)
          have gR4 := q4.rm
          rw [eR] at gR4
          refine ⟨_, gR4, ?_⟩
          have o4Sh : ∀ j, ob4 (rSh j) = ob (rSh j) := fun j => (f4k _ (by decide : ¬ (3 : Nat) = 7)).trans (o3k _ (by decide : ¬ (3 : Nat) = 9) (by decide : ¬ (3 : Nat) = 5) (by decide : ¬ (3 : Nat) = 8) (by decide : ¬ (3 : Nat) = 7) (by decide : ¬ (3 : Nat) = 6))
          have o4Ac : ∀ j, ob4 (rAc j) = ob (rAc j) := fun j => (f4k _ (by decide : ¬ (4 : Nat) = 7)).trans (o3k _ (by decide : ¬ (4 : Nat) = 9) (by decide : ¬ (4 : Nat) = 5) (by decide : ¬ (4 : Nat) = 8) (by decide : ¬ (4 : Nat) = 7) (by decide : ¬ (4 : Nat) = 6))
          have wm := w_measure (o := ob rMd) (F := abFold (ob rMd) m) (c0 := c0) (r0 := r0) (w := w) (t := t) (post := fun g48 => ∃ o50, g48 (A rRm) = some (8, o50) ∧ ∃ o52, g48 (fR o50 2) = some (0, o52) ∧ vp_in (fI o52 2) 8 ∧ (∀ j, j < (fI o52 2).toNatClampNeg → ∃ c oo, c < 10 ∧ g48 (fR o52 j) = some (c, oo)) ∧ (∃ c oo, c < 10 ∧ g48 a30 = some (c, oo)) ∧ ∀ g55, g55 = hu g48 (fR o50 2) (0, lAdd o52 a30) →
            ∃ o58, g55 (A rRm) = some (8, o58) ∧ ∃ o60, g55 (fR o58 2) = some (0, o60) ∧ ∃ o7, g55 (A rOut) = some (10, o7) ∧ ∀ g9, g9 = hu g55 (A rOut) (10, sB o7 0 0 (fI o60 2 - 1).toInt64) → post 0 g9) q4 d1 d2 (by rw [f4k (rEd ne) (by decide : ¬ (5 : Nat) = 7)]; exact p1) (fun j hj => by rw [o4Ac]; exact h.ac.2 j hj) (fun j hj => by rw [o4Sh]; exact h.sh.2 j hj) h.sh.1 (by rw [o4W]; exact x0) (by rw [o4W]; exact x1) (by rw [o4W]; exact x2) (by rw [o4W]; exact x3) hc w2 w1 t2 (by rw [o4B]; exact hV) h.abb (fun j => by rw [o4E]; rfl) (by rw [o4E]; rfl) (fun j => by rw [o4E]; rfl) (fun xe xe1 xe2 xe3 xe4 xe5 => ?_)
          · rw [eR, A3E] at wm
            exact wm
          · rw [o4R] at xe3 xe4 xe5
            obtain ⟨T0, hT0⟩ : ∃ T0, T0 = cellT (bL (fL (ob rRm) 6)) (abFold (ob rMd) m) (fA (ob rMd) 12) (fA (ob rMd) 13) c0 r0 w := ⟨_, rfl⟩
            rw [← hT0] at xe3 xe4
            obtain ⟨ob5, q5, r5, f5⟩ : ∃ ob5, HQ (hu (hu g' (A3 (rKb ne)) (2, Kx)) (A3 (rEd ne)) (4, xe)) A3 ob5 D3 n m ne np ∧ ob5 (rEd ne) = xe ∧ ∀ r : Rl, r ≠ rEd ne → ob5 r = ob4 r := ⟨_, q4.edN d1 xe1, rup_s, fun r hr => rup_n hr⟩
            have gR5 := q5.rm
            rw [eR] at gR5
            refine ⟨_, gR5, _, q5.l2, ?_, fun j hj => ?_, ⟨4, xe, by decide, by rw [A3E]; exact hu_s⟩, ?_⟩
            · rw [q5.n2]; exact vp_in_nI hne (by decide)
            · rw [q5.n2, qn_cl (by omega)] at hj
              exact ⟨4, _, by decide, by rw [q5.2.1.2.2.2.2.1 j hj]; exact q5.edA hj⟩
            · rintro _ rfl
              have hpE : (fR (ob5 (rEd ne)) 1 = A3 (rWn ne) ∧ fR (ob5 (rEd ne)) 3 = A3 (rKb ne) ∧ fR (ob5 (rEd ne)) 8 = A3 (rCl ne)) ∧ fI (ob5 (rCl ne)) 2 = nI (D3.2.2.2.2.1 ne) ∧ ∀ i, i < D3.2.2.2.2.1 ne → fR (ob5 (rCl ne)) i = A3 (rCp ne i) := by
                rw [r5, xe1, f4k (rEd ne) (by decide : ¬ (5 : Nat) = 7), f5 (rCl ne) (role_ne (by decide : ¬ (8 : Nat) = 5)), f4k (rCl ne) (by decide : ¬ (8 : Nat) = 7), d3]
                exact ⟨⟨p1, p2, p3⟩, l1, l2⟩
              obtain ⟨ob6, q6, f6⟩ : ∃ ob6, HQ (hu (hu (hu g' (A3 (rKb ne)) (2, Kx)) (A3 (rEd ne)) (4, xe)) (fR (ob5 rRm) 2) (0, lAdd (ob5 (rLs 2)) (A3 (rEd ne)))) A3 ob6 D3 n m (ne + 1) np ∧ ∀ r : Rl, r.1 ≠ 1 → ob6 r = ob5 r := ⟨_, q5.addEd d1 d2 hne (by rw [d3]; exact c20) hpE, fun r hr => rup_k hr⟩
              rw [← A3E]
              have gR6 := q6.rm
              rw [eR] at gR6
              have o65 : ∀ r : Rl, r.1 ≠ 1 → r ≠ rEd ne → r ≠ rKb ne → ob6 r = ob3 r := fun r k1 k5 k7 => (f6 r k1).trans ((f5 r k5).trans (f4 r k7))
              have o6k : ∀ r : Rl, r.1 ≠ 1 → r.1 ≠ 9 → r.1 ≠ 5 → r.1 ≠ 8 → r.1 ≠ 7 → r.1 ≠ 6 → ob6 r = ob r := fun r k1 k9 k5 k8 k7 k6 => (o65 r k1 (role_ne k5) (role_ne k7)).trans (o3k r k9 k5 k8 k7 k6)
              have hout := q6.out
              rw [A3o rOut (by decide) (by decide) (by decide) (by decide) (by decide), o6k rOut (by decide) (by decide) (by decide) (by decide) (by decide) (by decide)] at hout
              have hmd := q6.md
              rw [A3o rMd (by decide) (by decide) (by decide) (by decide) (by decide), o6k rMd (by decide) (by decide) (by decide) (by decide) (by decide) (by decide)] at hmd
              refine ⟨_, gR6, _, q6.l2, _, hout, ?_⟩
              rw [q6.n2, nI_pred]
              rintro _ rfl
              refine hp 0 _ ⟨_, by rw [hu_n (fun y => h.om y.symm)]; exact hmd, start _ (fun y => absurd y n8) fun _ => ⟨fun hno => ?_, fun _ => ?_⟩⟩
              · obtain ⟨i, hi, y⟩ := hsh
                exact absurd (hno i hi) y
              · rintro _ rfl
                rw [sI2]
                have hv : vp_in (fI (sI (ob rMd) 0 0) 25) 8 := by
                  show vp_in (fI (ob rMd) 25) 8
                  rw [h.n25]; exact vp_in_nI hne (by decide)
                refine t_ok rfl ⟨hv, ?_⟩
                rintro _ rfl
                refine ⟨hv, ?_⟩
                rintro _ rfl
                refine ⟨hv, ?_⟩
                rintro _ rfl
                refine ⟨hv, ?_⟩
                rintro _ rfl
                refine ⟨hv, ?_⟩
                rintro _ rfl
                refine ⟨hv, ?_⟩
                rintro _ rfl
                refine ⟨hv, ?_⟩
                rintro _ rfl
                show wp_X8_keeps (fI (ob rMd) 25) (sA (sA (sA (sA (sA (sA (sA (sI (ob rMd) 0 0) 26 (fI (ob rMd) 25).toNatClampNeg (nI hd)) 27 (fI (ob rMd) 25).toNatClampNeg (nI c0)) 28 (fI (ob rMd) 25).toNatClampNeg (nI r0)) 29 (fI (ob rMd) 25).toNatClampNeg (nI w)) 30 (fI (ob rMd) 25).toNatClampNeg (nI t)) 31 (fI (ob rMd) 25).toNatClampNeg (nI c)) 32 (fI (ob rMd) 25).toNatClampNeg z) _
                rw [h.n25, qn_cl (show ne < 2147483648 by omega)]
                obtain ⟨oz, hoz⟩ : ∃ oz, oz = sA (sA (sA (sA (sA (sA (sA (sI (ob rMd) 0 0) 26 ne (nI hd)) 27 ne (nI c0)) 28 ne (nI r0)) 29 ne (nI w)) 30 ne (nI t)) 31 ne (nI c)) 32 ne z := ⟨_, rfl⟩
                rw [← hoz]
                have rz : ∀ k, k < 26 ∨ 32 < k → fA oz k = fA (ob rMd) k := fun k hk => by
                  rw [hoz, qs_fAsA, if_neg (by omega), qs_fAsA, if_neg (by omega), qs_fAsA, if_neg (by omega), qs_fAsA, if_neg (by omega), qs_fAsA, if_neg (by omega), qs_fAsA, if_neg (by omega), qs_fAsA, if_neg (by omega), qs_fAsI]
                have z26 : ∀ q, fA oz 26 q = if q = ne then nI hd else fA (ob rMd) 26 q := fun q => by rw [hoz]; rfl
                have z27 : ∀ q, fA oz 27 q = if q = ne then nI c0 else fA (ob rMd) 27 q := fun q => by rw [hoz]; rfl
                have z28 : ∀ q, fA oz 28 q = if q = ne then nI r0 else fA (ob rMd) 28 q := fun q => by rw [hoz]; rfl
                have z29 : ∀ q, fA oz 29 q = if q = ne then nI w else fA (ob rMd) 29 q := fun q => by rw [hoz]; rfl
                have z30 : ∀ q, fA oz 30 q = if q = ne then nI t else fA (ob rMd) 30 q := fun q => by rw [hoz]; rfl
                have z31 : ∀ q, fA oz 31 q = if q = ne then nI c else fA (ob rMd) 31 q := fun q => by rw [hoz]; rfl
                have z32 : ∀ q, fA oz 32 q = if q = ne then z else fA (ob rMd) 32 q := fun q => by rw [hoz]; rfl
                have iz : ∀ k, k ≠ 0 → fI oz k = fI (ob rMd) k := fun k hk => by rw [hoz, qs_fIsA, qs_fIsA, qs_fIsA, qs_fIsA, qs_fIsA, qs_fIsA, qs_fIsA, qs_fIsI, if_neg hk]
                have i0z : fI oz 0 = 0 := by rw [hoz]; rfl
                obtain ⟨fr1, fr2, fr3, fr4, fr5⟩ := h.fr ne (Nat.le_refl _) hne
                have hA2 : WFA oz n m := by
                  unfold WFA
                  rw [rz 2 (by decide), rz 3 (by decide), rz 4 (by decide), rz 5 (by decide), rz 6 (by decide), rz 7 (by decide)]; exact h.ac.1
                have hS2 : WFS oz n := by
                  unfold WFS
                  rw [rz 11 (by decide), rz 12 (by decide), rz 13 (by decide), rz 14 (by decide), rz 15 (by decide)]; exact h.sh.1
                have hbz : ABb (abFold (ob rMd) m) (fA oz 12) (fA oz 13) := by rw [rz 12 (by decide), rz 13 (by decide)]; exact h.abb
                refine m_keeps (o := oz) (n := n) (F := abFold (ob rMd) m) (Dn := bL (fL (ob rRm) 6)) hne (by rw [iz 18 (by decide), rz 19 (by decide), rz 20 (by decide), rz 21 (by decide), rz 22 (by decide), rz 23 (by decide), rz 24 (by decide)]; exact hM) hbz h.abw.1 (fun s hs => (h.abw.2 s hs).1) (fun i hi => by rw [rz 17 (by decide)]; exact h.dn i hi) (by rw [z27, if_pos rfl]) (by rw [z28, if_pos rfl]) (by rw [z29, if_pos rfl]) (by rw [z30, if_pos rfl]) w1 w2 t2 (fun j hj => by rw [rz 35 (by decide)]; exact fr3 j hj) ((iz 1 (by decide)).trans h.n1) m200 n40 hA2 hS2 fun f35 f36 f38 f39 f40 f41 k1 k2 k3 k4 k5 k6 => ?_
                rintro _ rfl
                obtain ⟨o', ho'⟩ : ∃ o', o' = sI (sAr (sAr (kp (sA oz 37 ne (fI oz 18)) f38 f39 f40 f41) 35 f35) 36 f36) 25 (fI (sAr (sAr (kp (sA oz 37 ne (fI oz 18)) f38 f39 f40 f41) 35 f35) 36 f36) 25 + 1) := ⟨_, rfl⟩
                rw [← ho']
                rw [rz 12 (by decide), rz 13 (by decide)] at k3 k5
                rw [← hT0] at k3
                have j25 : fI o' 25 = nI (ne + 1) := by
                  rw [ho']
                  show fI oz 25 + 1 = _
                  rw [iz 25 (by decide), h.n25, nI_1]
                have jI : ∀ k, k ≠ 0 → k ≠ 25 → fI o' k = fI (ob rMd) k := fun k h0 h25 => by
                  rw [ho', qs_fIsI, if_neg h25]
                  exact iz k h0
                have j0 : fI o' 0 = 0 := by rw [ho']; exact i0z
                have j35 : fA o' 35 = f35 := by rw [ho']; rfl
                have j36 : fA o' 36 = f36 := by rw [ho']; rfl
                have j37 : ∀ q, fA o' 37 q = if q = ne then fI oz 18 else fA oz 37 q := fun q => by rw [ho']; rfl
                have j38 : fA o' 38 = f38 := by rw [ho']; rfl
                have j39 : fA o' 39 = f39 := by rw [ho']; rfl
                have j40 : fA o' 40 = f40 := by rw [ho']; rfl
                have j41 : fA o' 41 = f41 := by rw [ho']; rfl
                have jr : ∀ k, k < 35 ∨ 41 < k → fA o' k = fA oz k := fun k hk => by
                  rw [ho', qs_fAsI, qs_fArA, if_neg (by omega), qs_fArA, if_neg (by omega)]
                  unfold kp
                  rw [qs_fArA, if_neg (by omega), qs_fArA, if_neg (by omega), qs_fArA, if_neg (by omega), qs_fArA, if_neg (by omega), qs_fAsA, if_neg (by omega)]
                have jr2 : ∀ k, k < 26 ∨ 41 < k → fA o' k = fA (ob rMd) k := fun k hk => by rw [jr k (by omega), rz k (by omega)]
                have jv : (fI o' 25 - 1) = nI ne := by rw [j25, nI_pred]
                rw [jv]
                have cs' : ∀ e, e < ne → D3.2.2.2.2.1 e = D.2.2.2.2.1 e := fun e he => by
                  rw [i4 e (by omega)]
                  show va_up D.2.2.2.2.1 ne 0 e = _
                  rw [qs_up, if_neg (by omega)]
                have hTs : ∀ i, i < w * t → ∀ s, T0 i = some s → s < n ∧ ∃ a, a < 6 ∧ fA (ob rMd) 11 s = nI a := fun i _ s es => by
                  rw [hT0] at es
                  have hs := (h.abw.2 s (topO_mem es).1).1
                  exact ⟨hs, (h.sh.1 s hs).1⟩
                have mANz : ∀ j, fb_ct (mAN oz T0 j) (w * t) = fb_ct (mAN (ob rMd) T0 j) (w * t) := fun j => fb_ct_cong fun i _ => by
                  unfold mAN
                  rw [rz 11 (by decide)]
                have hsum : arSum f35 ne = nI (fb_ct (cTT T0 n) (w * t)) := by
                  unfold arSum
                  rw [k3 0 (by decide), k3 1 (by decide), k3 2 (by decide), k3 3 (by decide), k3 4 (by decide), k3 5 (by decide), mANz, mANz, mANz, mANz, mANz, mANz, sum6 (w * t) hTs]
                  show nI 0 + nI _ + nI _ + nI _ + nI _ + nI _ + nI _ = _
                  rw [nI_add, nI_add, nI_add, nI_add, nI_add, nI_add]
                have hpos : 0 < fb_ct (cTT T0 n) (w * t) := by
                  obtain ⟨i, hi, y⟩ := hsh
                  have y : T0 i ≠ none := by rw [hT0]; exact y
                  refine fb_ct_pos.mpr ⟨i, hi, ?_⟩
                  unfold cTT
                  cases e : T0 i with
                  | none => exact absurd e y
                  | some s => exact decide_eq_true (hTs i hi s e).1
                have htot : fb_ct (cTT T0 n) (w * t) ≤ 384 := Nat.le_trans (fb_ct_le _ _) (q_area w2 t2)
                refine h.uV (E1 := fun e => if e = ne then abFold (ob rMd) m else E e) k q6 ⟨eR, A3o rMd (by decide) (by decide) (by decide) (by decide) (by decide), A3o rOut (by decide) (by decide) (by decide) (by decide) (by decide)⟩ (Nat.le_succ _) j0 rfl ?_
                have g3 : (fun j => ob6 (rSh j)) = fun j => ob (rSh j) := funext fun j => o6k _ (by decide : ¬ (3 : Nat) = 1) (by decide : ¬ (3 : Nat) = 9) (by decide : ¬ (3 : Nat) = 5) (by decide : ¬ (3 : Nat) = 8) (by decide : ¬ (3 : Nat) = 7) (by decide : ¬ (3 : Nat) = 6)
                have g4 : (fun j => ob6 (rAc j)) = fun j => ob (rAc j) := funext fun j => o6k _ (by decide : ¬ (4 : Nat) = 1) (by decide : ¬ (4 : Nat) = 9) (by decide : ¬ (4 : Nat) = 5) (by decide : ¬ (4 : Nat) = 8) (by decide : ¬ (4 : Nat) = 7) (by decide : ¬ (4 : Nat) = 6)
                have g10 : (fun j => ob6 (rPy j)) = fun j => ob (rPy j) := funext fun j => o6k _ (by decide : ¬ (10 : Nat) = 1) (by decide : ¬ (10 : Nat) = 9) (by decide : ¬ (10 : Nat) = 5) (by decide : ¬ (10 : Nat) = 8) (by decide : ¬ (10 : Nat) = 7) (by decide : ¬ (10 : Nat) = 6)
                rw [g3, g4, g10, o6k rRm (by decide) (by decide) (by decide) (by decide) (by decide) (by decide), o6k rBd (by decide) (by decide) (by decide) (by decide) (by decide) (by decide)]
                refine h.2.fz hne jI j25 jr2 (fun k hk q hq => ?_) (fun q hq => ?_) (fun q hq => ?_) (fun k k38 k41 q hq => ?_) (fun e he => ?_) ?_
                · by_cases c37 : k = 37
                  · subst c37; rw [j37, if_neg hq, rz 37 (by decide)]
                  · rw [jr k (by omega)]
                    have hk2 : 26 ≤ k ∧ k ≤ 34 := by omega
                    by_cases c33 : 32 < k
                    · rw [rz k (Or.inr c33)]
                    · have : k = 26 ∨ k = 27 ∨ k = 28 ∨ k = 29 ∨ k = 30 ∨ k = 31 ∨ k = 32 := by omega
                      rcases this with rfl | rfl | rfl | rfl | rfl | rfl | rfl
                      · rw [z26, if_neg hq]
                      · rw [z27, if_neg hq]
                      · rw [z28, if_neg hq]
                      · rw [z29, if_neg hq]
                      · rw [z30, if_neg hq]
                      · rw [z31, if_neg hq]
                      · rw [z32, if_neg hq]
                · rw [j35, k4 q hq, rz 35 (by decide)]
                · rw [j36, k6 q (by omega), rz 36 (by decide)]
                · have := k2 q (Or.inl hq)
                  have c4 : k = 38 ∨ k = 39 ∨ k = 40 ∨ k = 41 := by omega
                  rcases c4 with rfl | rfl | rfl | rfl
                  · rw [j38, this.1, rz 38 (by decide)]
                  · rw [j39, this.2.1, rz 39 (by decide)]
                  · rw [j40, this.2.2.1, rz 40 (by decide)]
                  · rw [j41, this.2.2.2, rz 41 (by decide)]
                · have ne1 : ∀ (q : Nat) , (q, e, 0) ≠ ((5, ne, 0) : Rl) := fun q y => by
                    have : e = ne := congrArg (fun r : Rl => r.2.1) y
                    omega
                  have nE : ∀ (a b : Nat), ((a, e, 0) : Rl) ≠ (b, ne, 0) := fun a b y => by
                    have : e = ne := congrArg (fun r : Rl => r.2.1) y
                    omega
                  refine ⟨?_, ?_, ?_, cs' e he, funext fun j => ?_⟩
                  · exact (o65 (rEd e) (by decide : ¬ (5 : Nat) = 1) (nE 5 5) (nE 5 7)).trans (o3o (rEd e) (Or.inl (by decide : ¬ (5 : Nat) = 9)) (nE 5 5) (nE 5 8) (nE 5 7) (nE 5 6))
                  · exact (o65 (rWn e) (by decide : ¬ (6 : Nat) = 1) (nE 6 5) (nE 6 7)).trans (o3o (rWn e) (Or.inl (by decide : ¬ (6 : Nat) = 9)) (nE 6 5) (nE 6 8) (nE 6 7) (nE 6 6))
                  · exact (o65 (rKb e) (by decide : ¬ (7 : Nat) = 1) (nE 7 5) (nE 7 7)).trans (o3o (rKb e) (Or.inl (by decide : ¬ (7 : Nat) = 9)) (nE 7 5) (nE 7 8) (nE 7 7) (nE 7 6))
                  · exact (o65 (rCp e j) (by decide : ¬ (9 : Nat) = 1) (role_ne (by decide : ¬ (9 : Nat) = 5)) (role_ne (by decide : ¬ (9 : Nat) = 7))).trans (o3o (rCp e j) (Or.inr (show e ≠ ne by omega)) (role_ne (by decide : ¬ (9 : Nat) = 5)) (role_ne (by decide : ¬ (9 : Nat) = 8)) (role_ne (by decide : ¬ (9 : Nat) = 7)) (role_ne (by decide : ¬ (9 : Nat) = 6)))
                · have o6E : ob6 (rEd ne) = xe := (f6 _ (by decide : ¬ (5 : Nat) = 1)).trans r5
                  have o6W : ob6 (rWn ne) = X := (o65 (rWn ne) (by decide : ¬ (6 : Nat) = 1) (role_ne (by decide : ¬ (6 : Nat) = 5)) (role_ne (by decide : ¬ (6 : Nat) = 7))).trans o3W
                  have o6K : ob6 (rKb ne) = Kx := (f6 _ (by decide : ¬ (7 : Nat) = 1)).trans ((f5 _ (role_ne (by decide : ¬ (7 : Nat) = 5))).trans r4)
                  have o6C : ∀ j, j < c → ob6 (rCp ne j) = sI (sI (sI fo0 0 0) 1 (-1)) 3 (-1) := fun j hj => (o65 (rCp ne j) (by decide : ¬ (9 : Nat) = 1) (role_ne (by decide : ¬ (9 : Nat) = 5)) (role_ne (by decide : ¬ (9 : Nat) = 7))).trans (i3 j hj)
                  rw [o6E, o6W, o6K, d3]
                  have xf : ∀ q, q ≠ 5 → fI xe q = fI (ed0 a30 (nI hd) a5 z) q := fun q hq => by rw [xe2 q hq, o4E]
                  refine ⟨⟨c0, r0, w, t, ⟨x0, x1, x2, x3⟩, ⟨?_, ?_, ?_, ?_⟩, hc, w1, w2, hr, t1, t2⟩, ⟨hd, hh, ?_, ?_⟩, ?_, ⟨fun j hj => ?_, ?_, ?_⟩, ⟨?_, Or.inl ?_⟩, fun i hi => ?_, fun i i1 i2 => ?_, ⟨⟨fun i hi => ?_, fun i hi => ?_, ?_⟩, ⟨?_, fun i hi => ?_⟩, h.abw.1, fun s hs => (h.abw.2 s hs).1, ?_⟩, ⟨c1, c20, ?_⟩, ⟨0, Nat.zero_le _, ?_, ?_, fun j hj => ?_⟩, fun j j1 j2 => ?_⟩
                  · rw [jr 27 (by decide), z27, if_pos rfl]
                  · rw [jr 28 (by decide), z28, if_pos rfl]
                  · rw [jr 29 (by decide), z29, if_pos rfl]
                  · rw [jr 30 (by decide), z30, if_pos rfl]
                  · exact xf 0 (by decide)
                  · rw [jr 26 (by decide), z26, if_pos rfl]
                  · rw [jr 32 (by decide), z32, if_pos rfl]
                    exact xf 2 (by decide)
                  · rw [xe3 j hj, j35, k3 j hj, mANz, cAN_m fun i hi s es => (hTs i hi s es).1]
                  · rw [xe4, j35, hsum]
                  · rw [xe4]
                    exact nI_nle hpos (by omega)
                  · rw [jr 33 (by decide), rz 33 (by decide), fr1]
                    exact xf 7 (by decide)
                  · rw [jr 33 (by decide), rz 33 (by decide)]; exact fr1
                  · have e7 : fI xe 7 = 0 := xf 7 (by decide)
                    rw [j36]
                    by_cases cm : i < m
                    · rw [k5 i cm, xe5 i hi, rz 7 (by decide)]
                      constructor
                      · rintro ⟨u1, s, s1, s2, s3⟩
                        refine ⟨e7, cm, u1, s, s1, seen_ct.mpr s2, ?_⟩
                        unfold nam at s3 ⊢
                        rw [rz 4 (by decide), rz 2 (by decide), rz 5 (by decide)] at s3
                        exact s3
                      · rintro ⟨-, -, u1, s, s1, s2, s3⟩
                        refine ⟨u1, s, s1, seen_ct.mp s2, ?_⟩
                        unfold nam at s3 ⊢
                        rw [rz 4 (by decide), rz 2 (by decide), rz 5 (by decide)]
                        exact s3
                    · rw [k6 _ (Or.inr (by omega)), rz 36 (by decide), fr4 i hi, xe5 i hi]
                      exact ⟨fun y => absurd rfl y, fun y => absurd y.2.1 cm⟩
                  · rw [j36, k6 _ (Or.inr (by omega)), rz 36 (by decide)]
                    exact fr4 i i2
                  · rw [kx2, o3k rBd (by decide) (by decide) (by decide) (by decide) (by decide)]
                    exact hV.1 i hi
                  · have hi40 := (h.abb i hi).1
                    have kb : ∀ q, q < 6 → fA Kx q i = fA (ob rBd) q i := fun q hq => by
                      rw [kx1 q hq i hi40, o3k rBd (by decide) (by decide) (by decide) (by decide) (by decide)]
                    rw [kb 0 (by decide), kb 1 (by decide), kb 2 (by decide), kb 3 (by decide), kb 4 (by decide), jr2 12 (by decide), jr2 13 (by decide)]
                    exact hV.2.1 i hi
                  · refine hV.2.2.imp_of_mem fun ha hb hl => ?_
                    rw [kx1 5 (by decide) _ (h.abb _ ha).1, kx1 5 (by decide) _ (h.abb _ hb).1, o3k rBd (by decide) (by decide) (by decide) (by decide) (by decide)]
                    exact hl
                  · rw [j37, if_pos rfl, iz 18 (by decide)]
                    exact hM.1
                  · rw [j38, j39, j40, j41]
                    exact k1 i hi
                  · rw [jr2 12 (by decide), jr2 13 (by decide)]; exact h.abb
                  · rw [jr 31 (by decide), z31, if_pos rfl]
                  · exact xf 9 (by decide)
                  · rw [jr 34 (by decide), rz 34 (by decide)]
                    exact ⟨fun _ => rfl, fun _ => fr2⟩
                  · show cCp (ob6 (rCp ne j)) _ _ _ _
                    rw [o6C j hj]
                    refine ⟨0, by decide, ?_, rfl, ⟨fun _ => Nat.zero_le _, fun _ => rfl⟩, fun y => by omega, fun y => by omega, fun _ => rfl⟩
                    rw [jr2 42 (by decide)]
                    exact fr5 j (by omega)
                  · rw [jr2 42 (by decide)]
                    exact fr5 j j2
      · have hne' : ne = 8 := by omega
        refine ⟨fun _ => Or.inr (Or.inr ⟨rfl, hp 3 _ ⟨_, hmO, start _ (fun _ => bad2 _ rfl) fun y => absurd (by rw [hne']; rfl) y⟩⟩), fun y => ?_⟩
        rw [hne'] at y
        exact absurd (Int32.le_refl _) y
    · refine ⟨_, h.1.rm, w_handT hh ?_⟩
      have badz : post 2 g := hp 2 _ ⟨_, h.md, m_frF hf (m_hand1 hh (b1' (b0 (T 2 (Or.inr rfl)))))⟩
      by_cases hr : (¬ p < 0 ∧ ¬ 23 < p) ∧ (¬ q < 0 ∧ ¬ 15 < q) ∧ (¬ x < 1 ∧ ¬ 24 - p < x) ∧ (¬ y < 1 ∧ ¬ 16 - q < y)
      · obtain ⟨h1, h2, h3, h4⟩ := hr
        by_cases h5 : ¬ cc < 1 ∧ ¬ 20 < cc
        · exact w_rectT h1 h2 h3 h4 (w_rangeT h5 (w_rangeF (fun h6 => hf ⟨h1, h2, h3, h4, h5, h6⟩) (Or.inr (Or.inl ⟨rfl, badz⟩))))
        · exact w_rectT h1 h2 h3 h4 (w_rangeF h5 (Or.inr (Or.inl ⟨rfl, badz⟩)))
      · exact w_rectF hr (Or.inr (Or.inl ⟨rfl, badz⟩))
  · refine ⟨_, h.1.rm, w_handF hh (Or.inl ⟨rfl, hp 1 _ ⟨_, h.md, ?_⟩⟩)⟩
    by_cases hf : (¬ p < 0 ∧ ¬ 23 < p) ∧ (¬ q < 0 ∧ ¬ 15 < q) ∧ (¬ x < 1 ∧ ¬ 24 - p < x) ∧ (¬ y < 1 ∧ ¬ 16 - q < y) ∧ (¬ cc < 1 ∧ ¬ 20 < cc) ∧ (¬ z < 0 ∧ ¬ 100000 < z)
    · obtain ⟨h1, h2, h3, h4, h5, h6⟩ := hf
      exact m_frT h1 h2 h3 h4 h5 h6 (m_hand0 hh (b0' (T 1 (Or.inl rfl))))
    · exact m_frF hf (m_hand0 hh (b0' (T 1 (Or.inl rfl))))
end CF
end
