section
/-! pure layer Z: resell and sell -/
section CZ
variable {g : GH} {A : Rl → Nat} {ob : Rl → FO} {D : GD} {n m ne np : Nat} {E : Nat → AB} {K : GH → Prop}
theorem m_sells {o : FO} {at' b : Nat} {c : Int32} {post : FO → Prop} (h1 : at' < 160) (h2 : b < 8) (k : post (sA (sA (sA (sA o 42 at' 1) 43 at' (nI b)) 44 at' c) 47 b (fA o 47 b - c))) : wp_X8_sells (nI at') (nI b) c o post := by
  have hin : vp_in (nI at') 160 := vp_in_nI h1 (by decide)
  have hb : vp_in (nI b) 8 := vp_in_nI h2 (by decide)
  refine ⟨hin, ?_⟩
  rintro _ rfl
  refine ⟨hin, ?_⟩
  rintro _ rfl
  refine ⟨hin, ?_⟩
  rintro _ rfl
  refine ⟨hb, hb, ?_⟩
  rintro _ rfl
  rw [qn_cl (show at' < 2147483648 by omega), qn_cl (show b < 2147483648 by omega)]
  exact k
theorem IV.ar0 (h : IV g A ob D n m ne np E) {e : Nat} (he : e < ne) : ¬ arSum (fA (ob rMd) 35) e = 0 := by
  obtain ⟨-, s2, s3, -⟩ := h.shOK e he
  rw [← s2]
  exact le_of_eq0 s3
theorem c_resell (h : IV g A ob D n m ne np E) (h512 : np < 512) (k : ∀ g', NX A np g' → K g') (p q x y : Int32) {post : Int32 → GH → Prop} (hp : ∀ xx g', (∃ o, g' (A rMd) = some (9, o) ∧ wp_X8_resell p q x y o (fun v o' => LW (A rMd) (A rOut) K xx v o' g')) → post xx g') : wp_L_resell (A rRm) p q x y (A rOut) g post := by
  have ne8 := h.ne8
  have T : ∀ c : Int32, (c = 1 ∨ c = 2) → wp_X8_resell_37 p q x y (fun v o' => LW (A rMd) (A rOut) K c v o' g) c (ob rMd) := fun c hc => by
    rintro _ rfl
    exact t_no (hc.imp id Or.inl) (h.qT k (by rcases hc with rfl | rfl <;> decide))
  by_cases hx : ∃ e j, e < ne ∧ j < D.2.2.2.2.1 e ∧ p = nI e ∧ q = nI j
  · obtain ⟨e, j, he, hj, rfl, rfl⟩ := hx
    by_cases hb : ∃ b, b < 8 ∧ x = nI b
    · obtain ⟨b, hb, rfl⟩ := hb
      by_cases hy : ¬ y < 0 ∧ ¬ 100000 < y
      · have c20 := h.1.c20 he
        obtain ⟨sc, st, hst, a1, a2, a3, a4, a5, a6⟩ := h.copy he hj
        have e1 : fI (ob (rCp e j)) 0 = 1 ↔ st = 1 := by rw [a2]; exact st_1 hst
        have m1 : fA (ob rMd) 42 (20 * e + j) = 1 ↔ st = 1 := by rw [a1]; exact st_1 hst
        have hin : vp_in (nI (20 * e + j)) 160 := vp_in_nI (by omega) (by decide)
        have bad : wp_X8_resell_80 (nI e) (nI j) (nI b) y (fun v o' => LW (A rMd) (A rOut) K 3 v o' g) (nI (20 * e + j)) (sI (ob rMd) 0 0) := by
          rintro _ rfl
          rw [sI2]
          exact t_no (Or.inr (Or.inr rfl)) (h.qT k (by decide))
        have start : ∀ (pst : Int32 → FO → Prop), ((¬ fA (ob rMd) 42 (20 * e + j) = 1 → wp_X8_resell_80 (nI e) (nI j) (nI b) y pst (nI (20 * e + j)) (sI (ob rMd) 0 0)) ∧ (fA (ob rMd) 42 (20 * e + j) = 1 → ((¬ fA (ob rMd) 43 (20 * e + j) = nI b → wp_X8_resell_85 (nI e) (nI j) (nI b) y pst (nI (20 * e + j)) 0 (sI (ob rMd) 0 0)) ∧ (fA (ob rMd) 43 (20 * e + j) = nI b → wp_X8_resell_80 (nI e) (nI j) (nI b) y pst (nI (20 * e + j)) (sI (ob rMd) 0 0))))) → wp_X8_resell (nI e) (nI j) (nI b) y (ob rMd) pst := fun pst w => by
          refine h.cpT he hj (b1 (m_buyer1 hb (b1' (m_inT hy (b1 ?_)))))
          rintro _ rfl
          refine t_ok rfl ?_
          rw [q_ix20]
          refine ⟨hin, ?_⟩
          rw [qn_cl (by omega)]
          exact ⟨w.1, fun z => ⟨hin, w.2 z⟩⟩
        by_cases c1 : st = 1
        · obtain ⟨⟨w, w8, w1, w2⟩, w3⟩ := a4 (Or.inl c1)
          by_cases cw : w = b
          · refine ⟨_, h.1.rm, _, h.1.rm, w_cpT h.1 he hj (w_buyerT hb (w_rangeT hy ⟨_, h.1.cpA he hj, br_t' (e1.mpr c1) ⟨_, h.1.cpA he hj, br_t' (by rw [w2, cw]) (Or.inr (Or.inr ⟨rfl, hp 3 _ ⟨_, h.md, start _ (br_t' (m1.mpr c1) (br_t' (by rw [w1, cw]) bad))⟩⟩))⟩⟩))⟩
          · have nwb : ¬ nI w = nI b := fun z => cw (q_nIi z (by omega) (by omega))
            obtain ⟨f, hf⟩ : ∃ f : Nat → Int32, f = va_up (fA (ob rRm) 9) w (fA (ob rRm) 9 w + (y - y / 5)) := ⟨_, rfl⟩
            refine ⟨_, h.1.rm, _, h.1.rm, w_cpT h.1 he hj (w_buyerT hb (w_rangeT hy ⟨_, h.1.cpA he hj, br_t' (e1.mpr c1) ⟨_, h.1.cpA he hj, br_f' (by rw [w2]; exact nwb) ⟨_, h.1.cpA he hj, _, h.1.rm, ?_⟩⟩⟩))⟩
            rw [w2]
            refine w_buyer w8 ?_
            rintro _ rfl
            obtain ⟨ob1, q1, r1, f1⟩ : ∃ ob1, HQ (hu g (A rRm) (8, sA (ob rRm) 9 w (fA (ob rRm) 9 w + (y - y / 5)))) A ob1 D n m ne np ∧ ob1 rRm = sA (ob rRm) 9 w (fA (ob rRm) 9 w + (y - y / 5)) ∧ ∀ q : Rl, q ≠ rRm → ob1 q = ob q := ⟨_, h.1.setRm (sA (ob rRm) 9 w (fA (ob rRm) 9 w + (y - y / 5))) rfl, rup_s, fun q hq => rup_n hq⟩
            have hrm1 := q1.rm
            refine ⟨_, hrm1, w_buyer hb ?_⟩
            rintro _ rfl
            obtain ⟨ob2, q2, r2, f2⟩ : ∃ ob2, HQ (hu (hu g (A rRm) (8, sA (ob rRm) 9 w (fA (ob rRm) 9 w + (y - y / 5)))) (A rRm) (8, sA (ob1 rRm) 9 b (fA (ob1 rRm) 9 b + -y))) A ob2 D n m ne np ∧ ob2 rRm = sA (ob1 rRm) 9 b (fA (ob1 rRm) 9 b + -y) ∧ ∀ q : Rl, q ≠ rRm → ob2 q = ob1 q := ⟨_, q1.setRm (sA (ob1 rRm) 9 b (fA (ob1 rRm) 9 b + -y)) rfl, rup_s, fun q hq => rup_n hq⟩
            have hc2 := q2.cpA he hj
            rw [f2 (rCp e j) (role_ne (by decide : ¬ (9 : Nat) = 0)), f1 (rCp e j) (role_ne (by decide : ¬ (9 : Nat) = 0))] at hc2
            refine ⟨_, hc2, ?_⟩
            rintro _ rfl _ rfl _ rfl
            rintro _ rfl
            obtain ⟨ob3, q3, r3, f3⟩ : ∃ ob3, HQ (hu (hu (hu g (A rRm) (8, sA (ob rRm) 9 w (fA (ob rRm) 9 w + (y - y / 5)))) (A rRm) (8, sA (ob1 rRm) 9 b (fA (ob1 rRm) 9 b + -y))) (A (rCp e j)) (3, sI (sI (sI (ob (rCp e j)) 0 1) 1 (nI b)) 2 y)) A ob3 D n m ne np ∧ ob3 (rCp e j) = sI (sI (sI (ob (rCp e j)) 0 1) 1 (nI b)) 2 y ∧ ∀ q : Rl, q ≠ rCp e j → ob3 q = ob2 q := ⟨_, q2.setCp he hj _, rup_s, fun q hq => rup_n hq⟩
            intro a30 ha30
            rintro _ rfl
            refine ⟨_, hu_s, ?_⟩
            rintro _ rfl _ rfl _ rfl
            rintro _ rfl
            have f123 : ∀ q : Rl, q ≠ rRm → q ≠ rCp e j → ob3 q = ob q := fun q a b => (f3 q b).trans ((f2 q a).trans (f1 q a))
            have hS1 : shOK ob3 (fA (ob rMd) 26) (fA (ob rMd) 35) ne := fun e' he' => by
              rw [f123 (rEd e') (role_ne (by decide : ¬ (5 : Nat) = 0)) (role_ne (by decide : ¬ (5 : Nat) = 9))]; exact h.shOK e' he'
            refine cl_pay q3 hS1 h512 (Or.inr ⟨e, he, rfl⟩) ha30 fun g' A' ob' D' φ hQ eA eD oR oO oP hφ => ?_
            have o3R : ob3 rRm = ob2 rRm := f3 rRm (role_ne (by decide : ¬ (0 : Nat) = 9))
            rw [o3R] at oR hφ
            have oo : ∀ q : Rl, q.1 ≠ 0 → q.1 ≠ 1 → q.1 ≠ 10 → q ≠ rCp e j → ob' q = ob q := fun q h0 h1 h10 h9 => (oO q h0 h1 (fun z => absurd z h10)).trans (f123 q (role_ne h0) h9)
            have hout := hQ.out
            rw [eA rOut (by decide), oo rOut (by decide) (by decide) (by decide) (role_ne (by decide : ¬ (11 : Nat) = 9))] at hout
            have hmd := hQ.md
            rw [eA rMd (by decide), oo rMd (by decide) (by decide) (by decide) (role_ne (by decide : ¬ (12 : Nat) = 9))] at hmd
            refine ⟨_, hout, ?_⟩
            rintro _ rfl
            refine hp 0 _ ⟨_, by rw [hu_n (fun z => h.om z.symm)]; exact hmd, start _ (br_t' (m1.mpr c1) (br_f' (by rw [w1]; exact nwb) ?_))⟩
            rintro _ rfl
            rw [sI2]
            refine t_ok rfl ⟨hin, ?_⟩
            rw [qn_cl (show 20 * e + j < 2147483648 by omega)]
            have e43 : fA (sI (ob rMd) 0 0) 43 (20 * e + j) = nI w := w1
            rw [e43, qn_cl (show w < 2147483648 by omega)]
            refine ⟨vp_in_nI w8 (by decide), vp_in_nI w8 (by decide), ?_⟩
            rintro _ rfl
            refine m_sells (by omega) hb ?_
            obtain ⟨o5, ho5⟩ : ∃ o5, o5 = sA (sA (sA (sA (sA (sI (ob rMd) 0 0) 47 w (fA (sI (ob rMd) 0 0) 47 w + (y - y / 5))) 42 (20 * e + j) 1) 43 (20 * e + j) (nI b)) 44 (20 * e + j) y) 47 b (fA (sA (sI (ob rMd) 0 0) 47 w (fA (sI (ob rMd) 0 0) 47 w + (y - y / 5))) 47 b - y) := ⟨_, rfl⟩
            rw [← ho5]
            have t26 : fA o5 26 = fA (ob rMd) 26 := by rw [ho5]; rfl
            have t35 : fA o5 35 = fA (ob rMd) 35 := by rw [ho5]; rfl
            have t46 : fA o5 46 = fA (ob rMd) 46 := by rw [ho5]; rfl
            obtain ⟨-, -, -, fz, z1, z2, z3⟩ := h.shOK e he
            refine m_shares (o := o5) (fz := fz) (by omega) z1 (by rw [t26]; exact z3) (by rw [t35]; exact h.ar0 he) fun ψ hψ => ?_
            rw [t26, t35, t46] at hψ
            obtain ⟨o', ho'⟩ : ∃ o', o' = sAr o5 46 ψ := ⟨_, rfl⟩
            rw [← ho']
            have hrow : ∀ k, (k < 42 ∨ k = 45 ∨ 47 < k) → fA o' k = fA (ob rMd) k := fun k hk => by
              rw [ho', qs_fArA, if_neg (by omega), ho5, qs_fAsA, if_neg (by omega), qs_fAsA, if_neg (by omega), qs_fAsA, if_neg (by omega), qs_fAsA, if_neg (by omega), qs_fAsA, if_neg (by omega), qs_fAsI]
            have s42 : ∀ q, fA o' 42 q = if q = 20 * e + j then 1 else fA (ob rMd) 42 q := fun q => by rw [ho', ho5]; rfl
            have s43 : ∀ q, fA o' 43 q = if q = 20 * e + j then nI b else fA (ob rMd) 43 q := fun q => by rw [ho', ho5]; rfl
            have s44 : ∀ q, fA o' 44 q = if q = 20 * e + j then y else fA (ob rMd) 44 q := fun q => by rw [ho', ho5]; rfl
            have s46 : fA o' 46 = ψ := by rw [ho']; rfl
            have s47 : fA o' 47 = va_up (va_up (fA (ob rMd) 47) w (fA (ob rMd) 47 w + (y - y / 5))) b (va_up (fA (ob rMd) 47) w (fA (ob rMd) 47 w + (y - y / 5)) b - y) := by rw [ho', ho5]; rfl
            refine h.uV (E1 := E) k hQ ⟨eA _ (by decide), eA _ (by decide), eA _ (by decide)⟩ (Nat.le_refl _) (by rw [ho', ho5]; rfl) rfl ?_
            have ooj : ∀ q : Rl, q.1 ≠ 0 → q.1 ≠ 1 → q.1 ≠ 10 → q.1 ≠ 9 → ob' q = ob q := fun q a b c d => oo q a b c (role_ne d)
            have g3 : (fun j2 => ob' (rSh j2)) = fun j => ob (rSh j) := funext fun j2 => ooj _ (by decide : ¬ (3 : Nat) = 0) (by decide : ¬ (3 : Nat) = 1) (by decide : ¬ (3 : Nat) = 10) (by decide : ¬ (3 : Nat) = 9)
            have g4 : (fun j2 => ob' (rAc j2)) = fun j => ob (rAc j) := funext fun j2 => ooj _ (by decide : ¬ (4 : Nat) = 0) (by decide : ¬ (4 : Nat) = 1) (by decide : ¬ (4 : Nat) = 10) (by decide : ¬ (4 : Nat) = 9)
            have g5 : (fun j2 => ob' (rEd j2)) = fun j => ob (rEd j) := funext fun j2 => ooj _ (by decide : ¬ (5 : Nat) = 0) (by decide : ¬ (5 : Nat) = 1) (by decide : ¬ (5 : Nat) = 10) (by decide : ¬ (5 : Nat) = 9)
            have g6 : (fun j2 => ob' (rWn j2)) = fun j => ob (rWn j) := funext fun j2 => ooj _ (by decide : ¬ (6 : Nat) = 0) (by decide : ¬ (6 : Nat) = 1) (by decide : ¬ (6 : Nat) = 10) (by decide : ¬ (6 : Nat) = 9)
            have g7 : (fun j2 => ob' (rKb j2)) = fun j => ob (rKb j) := funext fun j2 => ooj _ (by decide : ¬ (7 : Nat) = 0) (by decide : ¬ (7 : Nat) = 1) (by decide : ¬ (7 : Nat) = 10) (by decide : ¬ (7 : Nat) = 9)
            rw [g3, g4, g5, g6, g7, ooj rBd (by decide) (by decide) (by decide) (by decide), oR, eD]
            have c7 : ∀ i, fA (ob2 rRm) 7 i = fA (ob rRm) 7 i := fun i => by rw [r2, r1]; rfl
            have c9 : fA (ob2 rRm) 9 = va_up (va_up (fA (ob rRm) 9) w (fA (ob rRm) 9 w + (y - y / 5))) b (va_up (fA (ob rRm) 9) w (fA (ob rRm) 9 w + (y - y / 5)) b + -y) := by rw [r2, r1]; rfl
            refine h.2.ed (fun k k1 _ => hrow k (Or.inl (by omega))) (by rw [ho', ho5]; rfl) (by rw [ho', ho5]; rfl) (by rw [ho', ho5]; rfl) (by rw [ho', ho5]; rfl) ?_ (fun e2 he2 => ?_) ?_ ⟨fun i hi => ?_, fun i hi => ?_, ?_⟩ ?_
            · unfold cDn
              rw [hrow 17 (Or.inl (by decide))]
              intro i hi
              show _ ↔ bL (fL (ob2 rRm) 6) i = false
              have : fL (ob2 rRm) 6 = fL (ob rRm) 6 := by rw [r2, r1]; rfl
              rw [this]
              exact h.dn i hi
            · refine (h.ed he2).one (e := e) (j := j) (fun k k1 _ => hrow k (Or.inl k1)) (fun k hk q hq => ?_) (fun j2 hj2 => ?_) (by omega) (fun z => by subst z; exact hj) (fun z sc' _ hc => ?_)
              · rcases hk with z | z | z | z
                · subst z; rw [s42, if_neg hq]
                · subst z; rw [s43, if_neg hq]
                · subst z; rw [s44, if_neg hq]
                · rw [hrow k (Or.inr (Or.inl z))]
              · refine oo (rCp e2 j2) (by decide : ¬ (9 : Nat) = 0) (by decide : ¬ (9 : Nat) = 1) (by decide : ¬ (9 : Nat) = 10) fun z => ?_
                have z1 : e2 = e := congrArg (fun r : Rl => r.2.1) z
                have z2 : j2 = j := congrArg (fun r : Rl => r.2.2) z
                exact hj2 z1 z2
              · subst z
                have oc : ob' (rCp e2 j) = sI (sI (sI (ob (rCp e2 j)) 0 1) 1 (nI b)) 2 y := (oO (rCp e2 j) (by decide : ¬ (9 : Nat) = 0) (by decide : ¬ (9 : Nat) = 1) (fun z => absurd z (by decide : ¬ (9 : Nat) = 10))).trans r3
                show cCp (ob' (rCp e2 j)) _ _ _ _
                rw [oc]
                obtain ⟨st', hst', d1, d2, d3, d4, d5, d6⟩ := hc
                have : st' = 1 := (st_1 hst').mp (by rw [← d1]; exact m1.mpr c1)
                subst this
                refine ⟨1, by decide, by rw [s42, if_pos rfl]; rfl, rfl, d3, fun _ => ⟨⟨b, hb, by rw [s43, if_pos rfl], rfl⟩, by rw [s44, if_pos rfl]; rfl⟩, fun z => by omega, fun z => by omega⟩
            · refine h.fr.ed he (fun k k1 _ _ => hrow k (Or.inl k1)) (fun q _ => by rw [hrow 34 (Or.inl (by decide))]) (fun e2 j2 h1 h2 h3 => ?_)
              rw [s42, if_neg (by omega)]
            · show φ i = _
              rw [hφ i hi, s46, hψ i hi]
              unfold pyF
              rw [if_neg (show ¬ fI (sI (sI (sI fo0 0 (nI e)) 1 (-1)) 2 (y / 5)) 0 = -1 from oI_ne (by omega)), show fI (sI (sI (sI fo0 0 (nI e)) 1 (-1)) 2 (y / 5)) 0 = nI e from rfl, show fI (sI (sI (sI fo0 0 (nI e)) 1 (-1)) 2 (y / 5)) 2 = y / 5 from rfl, qn_cl (by omega)]
              exact shr_cong ((c7 i).trans (h.mo.1 i hi))
            · show fA (ob2 rRm) 9 i = _
              rw [c9, s47, qs_up, qs_up, qs_up, qs_up, qs_up, qs_up, h.mo.2.1 w w8, h.mo.2.1 b hb, h.mo.2.1 i hi]
              by_cases c : i = b
              · rw [if_pos c, if_pos c]
                exact (Int32.sub_eq_add_neg _ _).symm
              · rw [if_neg c, if_neg c]
            · show fI (ob2 rRm) 10 = fI o' 48
              rw [ho', ho5, r2, r1]; exact h.mo.2.2
            · refine h.pyy.add (fun p2 hp2 => ?_) (Or.inr ⟨e, he, ?_⟩) (hrow 26 (Or.inl (by decide))) (hrow 35 (Or.inl (by decide))) (fun i hi => ?_)
              · show ob' (rPy p2) = ob (rPy p2)
                rw [oO (rPy p2) (by decide : ¬ (10 : Nat) = 0) (by decide : ¬ (10 : Nat) = 1) (fun _ => by show p2 ≠ np; omega)]
                exact f123 _ (role_ne (by decide : ¬ (10 : Nat) = 0)) (role_ne (by decide : ¬ (10 : Nat) = 9))
              · show fI (ob' (rPy np)) 0 = nI e
                rw [oP]; rfl
              · show φ i = pyF _ _ (ob' (rPy np)) _ i
                rw [oP, hφ i hi]
                exact pyF_cong (ne := ne) (Or.inr ⟨e, he, rfl⟩) (fun i _ => c7 i) i hi
        · refine ⟨_, h.1.rm, _, h.1.rm, w_cpT h.1 he hj (w_buyerT hb (w_rangeT hy ⟨_, h.1.cpA he hj, br_f' (fun z => c1 (e1.mp z)) (Or.inr (Or.inr ⟨rfl, hp 3 _ ⟨_, h.md, start _ (br_f' (fun z => c1 (m1.mp z)) bad)⟩⟩))⟩))⟩
      · exact ⟨_, h.1.rm, _, h.1.rm, w_cpT h.1 he hj (w_buyerT hb (w_rangeF hy (Or.inr (Or.inl ⟨rfl, hp 2 _ ⟨_, h.md, h.cpT he hj (b1 (m_buyer1 hb (b1' (m_inF hy (b0 (T 2 (Or.inr rfl)))))))⟩⟩))))⟩
    · exact ⟨_, h.1.rm, _, h.1.rm, w_cpT h.1 he hj (w_buyerF hb (Or.inl ⟨rfl, hp 1 _ ⟨_, h.md, h.cpT he hj (b1 (m_buyer0 hb (b0' (T 1 (Or.inl rfl)))))⟩⟩))⟩
  · exact ⟨_, h.1.rm, _, h.1.rm, w_cpF h.1 hx (Or.inl ⟨rfl, hp 1 _ ⟨_, h.md, h.cpF hx (b0 (T 1 (Or.inl rfl)))⟩⟩)⟩
end CZ
end
