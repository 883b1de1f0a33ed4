section
/-! pure layer AA: sell -/
section CSE
variable {g : GH} {A : Rl → Nat} {ob : Rl → FO} {D : GD} {n m ne np : Nat} {E : Nat → AB} {K : GH → Prop}
theorem c_sell (h : IV g A ob D n m ne np E) (h512 : np < 512) (k : ∀ g', NX A np g' → K g') (p x : Int32) {post : Int32 → GH → Prop} (hp : ∀ xx g', (∃ o, g' (A rMd) = some (9, o) ∧ wp_X8_sell p x o (fun v o' => LW (A rMd) (A rOut) K xx v o' g')) → post xx g') : wp_L_sell (A rRm) p x (A rOut) g post := by
  have ne8 := h.ne8
  have T : wp_X8_sell_21 p x (fun v o' => LW (A rMd) (A rOut) K 1 v o' g) 1 (ob rMd) := by
    rintro _ rfl
    exact t_no (Or.inl rfl) (h.qT k (by decide))
  by_cases he : ∃ e, e < ne ∧ p = nI e
  · obtain ⟨e, he, rfl⟩ := he
    by_cases hb : ∃ b, b < 8 ∧ x = nI b
    · obtain ⟨b, hb, rfl⟩ := hb
      have hE := h.ed he
      obtain ⟨-, -, a3, -, ⟨a5, a5'⟩, -, -, -, ⟨c1, c20, c31⟩, ⟨sc, s1, s2, s3, s4⟩, s11⟩ := hE
      have hin8 : vp_in (nI e) 8 := vp_in_nI (by omega) (by decide)
      have hb8 : vp_in (nI b) 8 := vp_in_nI hb (by decide)
      -- the reference's search
      have start : ∀ (pst : Int32 → FO → Prop), wp_X8_sell_65 (nI e) (nI b) pst (nI sc) (sI (ob rMd) 0 0) → wp_X8_sell (nI e) (nI b) (ob rMd) pst := fun pst w => by
        refine mEdT h.n25 ne8 he (b1 (m_buyer1 hb (b1 ?_)))
        rintro _ rfl
        refine t_ok rfl ?_
        have key : ∀ d i n', sc - i = d → i ≤ sc → d < n' → wp_X8_sell_35 (nI e) (nI b) pst n' (nI i) (sI (ob rMd) 0 0) := by
          intro d
          induction d with
          | zero =>
            intro i n' hd hi hn
            obtain ⟨n', rfl⟩ : ∃ n'', n' = n'' + 1 := ⟨n' - 1, by omega⟩
            have : i = sc := by omega
            subst this
            refine ⟨hin8, ?_⟩
            rw [qn_cl (by omega)]
            refine ⟨fun _ => w, fun z => ?_⟩
            rw [q_ix20]
            have c31' : fA (sI (ob rMd) 0 0) 31 e = nI (D.2.2.2.2.1 e) := c31
            rw [c31'] at z
            have hlt : i < D.2.2.2.2.1 e := by
              rcases Nat.lt_or_ge i (D.2.2.2.2.1 e) with y | y
              · exact y
              · exact absurd (nI_le y (by omega)) z
            refine ⟨vp_in_nI (by omega) (by decide), ?_⟩
            rw [qn_cl (by omega)]
            obtain ⟨st, hst, d1, d2, d3, -⟩ := s4 i hlt
            have st0 : st = 0 := d3.mpr (Nat.le_refl _)
            refine ⟨fun _ => w, fun y => absurd ?_ y⟩
            show fA (ob rMd) 42 (20 * e + i) = 0
            rw [d1, st0]; rfl
          | succ d ih =>
            intro i n' hd hi hn
            obtain ⟨n', rfl⟩ : ∃ n'', n' = n'' + 1 := ⟨n' - 1, by omega⟩
            have hlt : i < D.2.2.2.2.1 e := by omega
            refine ⟨hin8, ?_⟩
            rw [qn_cl (by omega)]
            have c31' : fA (sI (ob rMd) 0 0) 31 e = nI (D.2.2.2.2.1 e) := c31
            rw [c31']
            refine ⟨fun z => absurd z (nI_ge hlt (by omega)), fun _ => ?_⟩
            rw [q_ix20]
            refine ⟨vp_in_nI (by omega) (by decide), ?_⟩
            rw [qn_cl (by omega)]
            obtain ⟨st, hst, d1, d2, d3, -⟩ := s4 i hlt
            have st0 : ¬ st = 0 := fun y => by have := d3.mp y; omega
            refine ⟨fun y => ?_, fun _ => ?_⟩
            · have y : fA (ob rMd) 42 (20 * e + i) = 0 := y
              rw [d1] at y
              exact absurd (q_nIi (b := 0) y (by omega) (by decide)) st0
            · rw [nI_1]
              exact ih (i + 1) n' (by omega) (by omega) (by omega)
        exact key sc 0 1000 (by omega) (Nat.zero_le _) (by omega)
      have bad : wp_X8_sell_85 (nI e) (nI b) (fun v o' => LW (A rMd) (A rOut) K 2 v o' g) (nI sc) (sI (ob rMd) 0 0) := by
        rintro _ rfl
        rw [sI2]
        exact t_no (Or.inr (Or.inl rfl)) (h.qT k (by decide))
      have s65 : ∀ (pst : Int32 → FO → Prop), ((¬ fA (ob rMd) 33 e = 0 → wp_X8_sell_85 (nI e) (nI b) pst (nI sc) (sI (ob rMd) 0 0)) ∧ (fA (ob rMd) 33 e = 0 → ((¬ nI sc = nI (D.2.2.2.2.1 e) → wp_X8_sell_90 (nI e) (nI b) pst (nI sc) 0 (sI (ob rMd) 0 0)) ∧ (nI sc = nI (D.2.2.2.2.1 e) → wp_X8_sell_85 (nI e) (nI b) pst (nI sc) (sI (ob rMd) 0 0))))) → wp_X8_sell_65 (nI e) (nI b) pst (nI sc) (sI (ob rMd) 0 0) := fun pst w => by
        refine ⟨hin8, ?_⟩
        rw [qn_cl (by omega)]
        have c31' : fA (sI (ob rMd) 0 0) 31 e = nI (D.2.2.2.2.1 e) := c31
        rw [c31']
        exact ⟨w.1, fun z => ⟨hin8, w.2 z⟩⟩
      by_cases hw : fA (ob rMd) 33 e = 0
      · have z7 : fI (ob (rEd e)) 7 = 0 := a5.trans hw
        by_cases hsc : sc < D.2.2.2.2.1 e
        · obtain ⟨pr, hpr⟩ : ∃ c, c = fA (ob rMd) 32 e := ⟨_, rfl⟩
          rw [← hpr] at a3
          have hed := h.1.edA he
          refine ⟨_, h.1.rm, _, h.1.rm, w_edT h.1 he (w_buyerT hb ⟨_, hed, _, hed, br_t' z7 ⟨_, hed, _, h.1.cl he, ?_⟩⟩)⟩
          rw [s2, h.1.nc he]
          refine ⟨fun _ => ⟨_, hed, _, hed, _, h.1.cl he, h.1.inc he hsc, _, h.1.cp he hsc, _, hed, _, h.1.cp he hsc, ?_⟩, fun z => absurd (nI_lt hsc (by omega)) z⟩
          rw [h.1.pcp he hsc, a3]
          rintro _ rfl _ rfl _ rfl
          rintro _ rfl
          obtain ⟨ob1, q1, r1, f1⟩ : ∃ ob1, HQ (hu g (A (rCp e sc)) (3, sI (sI (sI (ob (rCp e sc)) 0 1) 1 (nI b)) 2 pr)) A ob1 D n m ne np ∧ ob1 (rCp e sc) = sI (sI (sI (ob (rCp e sc)) 0 1) 1 (nI b)) 2 pr ∧ ∀ q : Rl, q ≠ rCp e sc → ob1 q = ob q := ⟨_, h.1.setCp he hsc (sI (sI (sI (ob (rCp e sc)) 0 1) 1 (nI b)) 2 pr), rup_s, fun q hq => rup_n hq⟩
          have hed1 := q1.edA he
          rw [f1 (rEd e) (role_ne (by decide : ¬ (5 : Nat) = 9))] at hed1
          refine ⟨_, hed1, _, hed1, ?_⟩
          rw [s2, nI_1]
          rintro _ rfl
          obtain ⟨ob2, q2, r2, f2⟩ : ∃ ob2, HQ (hu (hu g (A (rCp e sc)) (3, sI (sI (sI (ob (rCp e sc)) 0 1) 1 (nI b)) 2 pr)) (A (rEd e)) (4, sI (ob (rEd e)) 9 (nI (sc + 1)))) A ob2 D n m ne np ∧ ob2 (rEd e) = sI (ob (rEd e)) 9 (nI (sc + 1)) ∧ ∀ q : Rl, q ≠ rEd e → ob2 q = ob1 q := ⟨_, q1.setEd he (sI (ob (rEd e)) 9 (nI (sc + 1))) (by rw [f1 (rEd e) (role_ne (by decide : ¬ (5 : Nat) = 9))]; rfl), rup_s, fun q hq => rup_n hq⟩
          have hrm2 := q2.rm
          rw [f2 rRm (role_ne (by decide : ¬ (0 : Nat) = 5)), f1 rRm (role_ne (by decide : ¬ (0 : Nat) = 9))] at hrm2
          have hed2 := q2.edA he
          rw [r2] at hed2
          refine ⟨_, hrm2, _, hrm2, hb8, _, hed2, _, hrm2, hb8, ?_⟩
          rw [qn_cl (show b < 2147483648 by omega)]
          have pr2 : fI (sI (ob (rEd e)) 9 (nI (sc + 1))) 2 = pr := a3
          rw [pr2]
          rintro _ rfl
          obtain ⟨ob3, q3, r3, f3⟩ : ∃ ob3, HQ (hu (hu (hu g (A (rCp e sc)) (3, sI (sI (sI (ob (rCp e sc)) 0 1) 1 (nI b)) 2 pr)) (A (rEd e)) (4, sI (ob (rEd e)) 9 (nI (sc + 1)))) (A rRm) (8, sA (ob rRm) 9 b (fA (ob rRm) 9 b - pr))) A ob3 D n m ne np ∧ ob3 rRm = sA (ob rRm) 9 b (fA (ob rRm) 9 b - pr) ∧ ∀ q : Rl, q ≠ rRm → ob3 q = ob2 q := ⟨_, q2.setRm (sA (ob rRm) 9 b (fA (ob rRm) 9 b - pr)) (by rw [f2 rRm (role_ne (by decide : ¬ (0 : Nat) = 5)), f1 rRm (role_ne (by decide : ¬ (0 : Nat) = 9))]; rfl), rup_s, fun q hq => rup_n hq⟩
          have hrm3 := q3.rm
          rw [r3] at hrm3
          refine ⟨_, hrm3, _, hrm3, ?_⟩
          rintro _ rfl
          obtain ⟨ob4, q4, r4, f4⟩ : ∃ ob4, HQ (hu (hu (hu (hu g (A (rCp e sc)) (3, sI (sI (sI (ob (rCp e sc)) 0 1) 1 (nI b)) 2 pr)) (A (rEd e)) (4, sI (ob (rEd e)) 9 (nI (sc + 1)))) (A rRm) (8, sA (ob rRm) 9 b (fA (ob rRm) 9 b - pr))) (A rRm) (8, sI (sA (ob rRm) 9 b (fA (ob rRm) 9 b - pr)) 10 (fI (sA (ob rRm) 9 b (fA (ob rRm) 9 b - pr)) 10 + pr / 10))) A ob4 D n m ne np ∧ ob4 rRm = sI (sA (ob rRm) 9 b (fA (ob rRm) 9 b - pr)) 10 (fI (sA (ob rRm) 9 b (fA (ob rRm) 9 b - pr)) 10 + pr / 10) ∧ ∀ q : Rl, q ≠ rRm → ob4 q = ob3 q := ⟨_, q3.setRm (sI (sA (ob rRm) 9 b (fA (ob rRm) 9 b - pr)) 10 (fI (sA (ob rRm) 9 b (fA (ob rRm) 9 b - pr)) 10 + pr / 10)) (by rw [r3]; rfl), rup_s, fun q hq => rup_n hq⟩
          intro a60 ha60
          rintro _ rfl
          have o4E : ob4 (rEd e) = sI (ob (rEd e)) 9 (nI (sc + 1)) := (f4 (rEd e) (role_ne (by decide : ¬ (5 : Nat) = 0))).trans ((f3 (rEd e) (role_ne (by decide : ¬ (5 : Nat) = 0))).trans r2)
          have hed4 := (q4.other (x := (5, fo0)) ha60).edA he
          rw [o4E] at hed4
          refine ⟨_, hed4, _, hu_s, ?_⟩
          rw [pr2]
          rintro _ rfl _ rfl _ rfl
          rintro _ rfl
          have f1234 : ∀ q : Rl, q ≠ rRm → q ≠ rCp e sc → q ≠ rEd e → ob4 q = ob q := fun q a b c => (f4 q a).trans ((f3 q a).trans ((f2 q c).trans (f1 q b)))
          have hS1 : shOK ob4 (fA (ob rMd) 26) (fA (ob rMd) 35) ne := fun e' he' => by
            by_cases c : e' = e
            · subst c
              rw [o4E]; exact h.shOK e' he'
            · rw [f1234 (rEd e') (role_ne (by decide : ¬ (5 : Nat) = 0)) (role_ne (by decide : ¬ (5 : Nat) = 9)) (fun z => c (congrArg (fun r : Rl => r.2.1) z))]; exact h.shOK e' he'
          refine cl_pay q4 hS1 h512 (Or.inr ⟨e, he, rfl⟩) ha60 fun g' A' ob' D' φ hQ eA eD oR oO oP hφ => ?_
          rw [r4] at oR hφ
          have oo : ∀ q : Rl, q.1 ≠ 0 → q.1 ≠ 1 → q.1 ≠ 10 → q ≠ rCp e sc → q ≠ rEd e → ob' q = ob q := fun q h0 h1 h10 h9 h5 => (oO q h0 h1 (fun z => absurd z h10)).trans (f1234 q (role_ne h0) h9 h5)
          have ooj : ∀ q : Rl, q.1 ≠ 0 → q.1 ≠ 1 → q.1 ≠ 10 → q.1 ≠ 9 → q.1 ≠ 5 → ob' q = ob q := fun q a b c d f => oo q a b c (role_ne d) (role_ne f)
          have hout := hQ.out
          rw [eA rOut (by decide), ooj rOut (by decide) (by decide) (by decide) (by decide) (by decide)] at hout
          have hmd := hQ.md
          rw [eA rMd (by decide), ooj rMd (by decide) (by decide) (by decide) (by decide) (by decide)] at hmd
          refine ⟨_, hout, ?_⟩
          rintro _ rfl
          have nsc : ¬ nI sc = nI (D.2.2.2.2.1 e) := fun z => by have := q_nIi z (by omega) (by omega); omega
          refine hp 0 _ ⟨_, by rw [hu_n (fun z => h.om z.symm)]; exact hmd, start _ (s65 _ (br_t' hw (br_f' nsc ?_)))⟩
          rintro _ rfl
          rw [sI2]
          refine t_ok rfl ⟨hin8, ?_⟩
          rintro _ rfl
          rw [qn_cl (show e < 2147483648 by omega), q_ix20]
          have p32 : fA (sA (sI (ob rMd) 0 0) 34 e (vp_nar .boolean 1)) 32 e = pr := hpr.symm
          rw [p32]
          refine ⟨hin8, m_sells (by omega) hb ⟨hin8, ?_⟩⟩
          rintro _ rfl
          obtain ⟨o5, ho5⟩ : ∃ o5, o5 = sI (sA (sA (sA (sA (sA (sI (ob rMd) 0 0) 34 e (vp_nar .boolean 1)) 42 (20 * e + sc) 1) 43 (20 * e + sc) (nI b)) 44 (20 * e + sc) pr) 47 b (fA (sA (sI (ob rMd) 0 0) 34 e (vp_nar .boolean 1)) 47 b - pr)) 48 (fI (ob rMd) 48 + pr / 10) := ⟨_, rfl⟩
          have hgoal : ∀ (P : FO → FO → Prop), P (sI (sA (sA (sA (sA (sA (sI (ob rMd) 0 0) 34 e (vp_nar .boolean 1)) 42 (20 * e + sc) 1) 43 (20 * e + sc) (nI b)) 44 (20 * e + sc) pr) 47 b (fA (sA (sI (ob rMd) 0 0) 34 e (vp_nar .boolean 1)) 47 b - pr)) 48 (fI (ob rMd) 48 + pr / 10)) (ob rMd) → P o5 (ob rMd) := fun P w => by rw [ho5]; exact w
          have e48 : fI (sA (sA (sA (sA (sA (sI (ob rMd) 0 0) 34 e (vp_nar .boolean 1)) 42 (20 * e + sc) 1) 43 (20 * e + sc) (nI b)) 44 (20 * e + sc) pr) 47 b (fA (sA (sI (ob rMd) 0 0) 34 e (vp_nar .boolean 1)) 47 b - pr)) 48 = fI (ob rMd) 48 := rfl
          have e32 : fA (sA (sA (sA (sA (sA (sI (ob rMd) 0 0) 34 e (vp_nar .boolean 1)) 42 (20 * e + sc) 1) 43 (20 * e + sc) (nI b)) 44 (20 * e + sc) pr) 47 b (fA (sA (sI (ob rMd) 0 0) 34 e (vp_nar .boolean 1)) 47 b - pr)) 32 e = pr := hpr.symm
          rw [e48, e32, ← ho5]
          have f32 : fA o5 32 e = pr := by rw [ho5]; exact hpr.symm
          rw [f32]
          refine ⟨hin8, hin8, ?_⟩
          have t26 : fA o5 26 = fA (ob rMd) 26 := by rw [ho5]; rfl
          have t35 : fA o5 35 = fA (ob rMd) 35 := by rw [ho5]; rfl
          have t46 : fA o5 46 = fA (ob rMd) 46 := by rw [ho5]; rfl
          obtain ⟨-, -, -, fz, z1, z2, z3⟩ := h.shOK e he
          refine m_shares (o := o5) (fz := fz) (by omega) z1 (by rw [t26]; exact z3) (by rw [t35]; exact h.ar0 he) fun ψ hψ => ?_
          rw [t26, t35, t46] at hψ
          obtain ⟨o', ho'⟩ : ∃ o', o' = sAr o5 46 ψ := ⟨_, rfl⟩
          rw [← ho']
          have hrow : ∀ k, k ≠ 34 → (k < 42 ∨ k = 45 ∨ 47 < k) → fA o' k = fA (ob rMd) k := fun k h34 hk => by
            rw [ho', qs_fArA, if_neg (by omega), ho5, qs_fAsI, qs_fAsA, if_neg (by omega), qs_fAsA, if_neg (by omega), qs_fAsA, if_neg (by omega), qs_fAsA, if_neg (by omega), qs_fAsA, if_neg h34, qs_fAsI]
          have s34 : ∀ q, fA o' 34 q = if q = e then 1 else fA (ob rMd) 34 q := fun q => by rw [ho', ho5]; rfl
          have s42 : ∀ q, fA o' 42 q = if q = 20 * e + sc then 1 else fA (ob rMd) 42 q := fun q => by rw [ho', ho5]; rfl
          have s43 : ∀ q, fA o' 43 q = if q = 20 * e + sc then nI b else fA (ob rMd) 43 q := fun q => by rw [ho', ho5]; rfl
          have s44 : ∀ q, fA o' 44 q = if q = 20 * e + sc then pr else fA (ob rMd) 44 q := fun q => by rw [ho', ho5]; rfl
          have s46 : fA o' 46 = ψ := by rw [ho']; rfl
          have s47 : ∀ q, fA o' 47 q = if q = b then fA (ob rMd) 47 b - pr else fA (ob rMd) 47 q := fun q => by rw [ho', ho5]; rfl
          have s48 : fI o' 48 = fI (ob rMd) 48 + pr / 10 := by rw [ho', ho5]; rfl
          have c7 : ∀ i, fA (sI (sA (ob rRm) 9 b (fA (ob rRm) 9 b - pr)) 10 (fI (sA (ob rRm) 9 b (fA (ob rRm) 9 b - pr)) 10 + pr / 10)) 7 i = fA (ob rRm) 7 i := fun i => rfl
          refine h.uV (E1 := E) k hQ ⟨eA _ (by decide), eA _ (by decide), eA _ (by decide)⟩ (Nat.le_refl _) (by rw [ho', ho5]; rfl) rfl ?_
          have g3 : (fun j2 => ob' (rSh j2)) = fun j => ob (rSh j) := funext fun j2 => ooj _ (by decide : ¬ (3 : Nat) = 0) (by decide : ¬ (3 : Nat) = 1) (by decide : ¬ (3 : Nat) = 10) (by decide : ¬ (3 : Nat) = 9) (by decide : ¬ (3 : Nat) = 5)
          have g4 : (fun j2 => ob' (rAc j2)) = fun j => ob (rAc j) := funext fun j2 => ooj _ (by decide : ¬ (4 : Nat) = 0) (by decide : ¬ (4 : Nat) = 1) (by decide : ¬ (4 : Nat) = 10) (by decide : ¬ (4 : Nat) = 9) (by decide : ¬ (4 : Nat) = 5)
          have g6 : (fun j2 => ob' (rWn j2)) = fun j => ob (rWn j) := funext fun j2 => ooj _ (by decide : ¬ (6 : Nat) = 0) (by decide : ¬ (6 : Nat) = 1) (by decide : ¬ (6 : Nat) = 10) (by decide : ¬ (6 : Nat) = 9) (by decide : ¬ (6 : Nat) = 5)
          have g7 : (fun j2 => ob' (rKb j2)) = fun j => ob (rKb j) := funext fun j2 => ooj _ (by decide : ¬ (7 : Nat) = 0) (by decide : ¬ (7 : Nat) = 1) (by decide : ¬ (7 : Nat) = 10) (by decide : ¬ (7 : Nat) = 9) (by decide : ¬ (7 : Nat) = 5)
          rw [g3, g4, g6, g7, ooj rBd (by decide) (by decide) (by decide) (by decide) (by decide), oR, eD]
          have oE : ob' (rEd e) = sI (ob (rEd e)) 9 (nI (sc + 1)) := (oO (rEd e) (by decide : ¬ (5 : Nat) = 0) (by decide : ¬ (5 : Nat) = 1) (fun z => absurd z (by decide : ¬ (5 : Nat) = 10))).trans o4E
          have oC : ob' (rCp e sc) = sI (sI (sI (ob (rCp e sc)) 0 1) 1 (nI b)) 2 pr := (oO (rCp e sc) (by decide : ¬ (9 : Nat) = 0) (by decide : ¬ (9 : Nat) = 1) (fun z => absurd z (by decide : ¬ (9 : Nat) = 10))).trans ((f4 (rCp e sc) (role_ne (by decide : ¬ (9 : Nat) = 0))).trans ((f3 (rCp e sc) (role_ne (by decide : ¬ (9 : Nat) = 0))).trans ((f2 (rCp e sc) (role_ne (by decide : ¬ (9 : Nat) = 5))).trans r1)))
          have oC2 : ∀ e2 j2, ¬ (e2 = e ∧ j2 = sc) → ob' (rCp e2 j2) = ob (rCp e2 j2) := fun e2 j2 hne => oo (rCp e2 j2) (by decide : ¬ (9 : Nat) = 0) (by decide : ¬ (9 : Nat) = 1) (by decide : ¬ (9 : Nat) = 10) (fun z => hne ⟨congrArg (fun r : Rl => r.2.1) z, congrArg (fun r : Rl => r.2.2) z⟩) (role_ne (by decide : ¬ (9 : Nat) = 5))
          have oE2 : ∀ e2, e2 ≠ e → ob' (rEd e2) = ob (rEd e2) := fun e2 hne => oo (rEd e2) (by decide : ¬ (5 : Nat) = 0) (by decide : ¬ (5 : Nat) = 1) (by decide : ¬ (5 : Nat) = 10) (role_ne (by decide : ¬ (5 : Nat) = 9)) (fun z => hne (congrArg (fun r : Rl => r.2.1) z))
          have cong4 : ∀ e2 j2 sc' (cp : FO), ¬ (e2 = e ∧ j2 = sc) → j2 < 20 → cCp cp (ob rMd) (20 * e2 + j2) sc' j2 → cCp cp o' (20 * e2 + j2) sc' j2 := fun e2 j2 sc' cp hne hj2 hc => hc.cong fun k hk => by
            rcases hk with z | z | z | z
            · subst z; rw [s42, if_neg (by omega)]
            · subst z; rw [s43, if_neg (by omega)]
            · subst z; rw [s44, if_neg (by omega)]
            · rw [hrow k (by omega) (Or.inr (Or.inl z))]
          refine h.2.ed (fun k k1 _ => hrow k (by omega) (Or.inl (by omega))) (by rw [ho', ho5]; rfl) (by rw [ho', ho5]; rfl) (by rw [ho', ho5]; rfl) (by rw [ho', ho5]; rfl) ?_ (fun e2 he2 => ?_) ?_ ⟨fun i hi => ?_, fun i hi => ?_, ?_⟩ ?_
          · unfold cDn
            rw [hrow 17 (by decide) (Or.inl (by decide))]
            exact h.dn
          · have hE2 := h.ed he2
            have c20' := hE2.2.2.2.2.2.2.2.2.1.2.1
            by_cases c : e2 = e
            · subst c
              show cEd (ob' (rEd e2)) _ _ _ _ _ _ _ _ _
              rw [oE]
              refine hE2.copies (fun k hk => by rw [qs_fIsI, if_neg hk]) rfl (fun k k1 k2 k3 => hrow k k3 (Or.inl k1)) ⟨sc + 1, hsc, rfl, by rw [s34, if_pos rfl]; exact ⟨fun z => absurd z (by decide), fun z => by omega⟩, fun j2 hj2 => ?_⟩ (fun j2 j3 j4 => ?_)
              · show cCp (ob' (rCp e2 j2)) _ _ _ _
                by_cases cj : j2 = sc
                · subst cj
                  rw [oC]
                  exact ⟨1, by decide, by rw [s42, if_pos rfl]; rfl, rfl, ⟨fun z => absurd z (by decide), fun z => by omega⟩, fun _ => ⟨⟨b, hb, by rw [s43, if_pos rfl], rfl⟩, by rw [s44, if_pos rfl]; rfl⟩, fun z => by omega, fun z => by omega⟩
                · rw [oC2 e2 j2 (fun z => cj z.2)]
                  obtain ⟨st, hst, d1, d2, d3, d4⟩ := s4 j2 hj2
                  refine cong4 e2 j2 (sc + 1) _ (fun z => cj z.2) (by omega) ⟨st, hst, d1, d2, ?_, d4⟩
                  rw [d3]
                  exact ⟨fun z => Nat.lt_of_le_of_ne z (fun y => cj y.symm), fun z => Nat.le_of_succ_le z⟩
              · rw [s42, if_neg (by omega)]
                exact s11 j2 j3 j4
            · show cEd (ob' (rEd e2)) _ _ _ _ _ _ _ _ _
              rw [oE2 e2 c]
              obtain ⟨sc', t1, t2, t3, t4⟩ := hE2.2.2.2.2.2.2.2.2.2.1
              have t11 := hE2.2.2.2.2.2.2.2.2.2.2
              refine hE2.copies (fun k hk => rfl) rfl (fun k k1 k2 k3 => hrow k k3 (Or.inl k1)) ⟨sc', t1, t2, by rw [s34, if_neg c]; exact t3, fun j2 hj2 => ?_⟩ (fun j2 j3 j4 => ?_)
              · show cCp (ob' (rCp e2 j2)) _ _ _ _
                rw [oC2 e2 j2 (fun z => c z.1)]
                exact cong4 e2 j2 sc' _ (fun z => c z.1) (by omega) (t4 j2 hj2)
              · rw [s42, if_neg (by omega)]
                exact t11 j2 j3 j4
          · refine h.fr.ed he (fun k k1 k2 k3 => hrow k k3 (Or.inl k1)) (fun q hq => by rw [s34, if_neg hq]) (fun e2 j2 h1 h2 h3 => ?_)
            rw [s42, if_neg (by omega)]
          · show φ i = _
            rw [hφ i hi, s46, hψ i hi]
            unfold pyF
            rw [if_neg (show ¬ fI (sI (sI (sI fo0 0 (nI e)) 1 (-1)) 2 (pr - pr / 10)) 0 = -1 from oI_ne (by omega)), show fI (sI (sI (sI fo0 0 (nI e)) 1 (-1)) 2 (pr - pr / 10)) 0 = nI e from rfl, show fI (sI (sI (sI fo0 0 (nI e)) 1 (-1)) 2 (pr - pr / 10)) 2 = pr - pr / 10 from rfl, qn_cl (by omega)]
            exact shr_cong ((c7 i).trans (h.mo.1 i hi))
          · rw [s47]
            show (if i = b then fA (ob rRm) 9 b - pr else fA (ob rRm) 9 i) = _
            rw [h.mo.2.1 b hb, h.mo.2.1 i hi]
          · show fI (ob rRm) 10 + pr / 10 = fI o' 48
            rw [s48, h.mo.2.2]
          · refine h.pyy.add (fun p2 hp2 => ?_) (Or.inr ⟨e, he, ?_⟩) (hrow 26 (by decide) (Or.inl (by decide))) (hrow 35 (by decide) (Or.inl (by decide))) (fun i hi => ?_)
            · show ob' (rPy p2) = ob (rPy p2)
              rw [oO (rPy p2) (by decide : ¬ (10 : Nat) = 0) (by decide : ¬ (10 : Nat) = 1) (fun _ => by show p2 ≠ np; omega)]
              exact f1234 _ (role_ne (by decide : ¬ (10 : Nat) = 0)) (role_ne (by decide : ¬ (10 : Nat) = 9)) (role_ne (by decide : ¬ (10 : Nat) = 5))
            · show fI (ob' (rPy np)) 0 = nI e
              rw [oP]; rfl
            · show φ i = pyF _ _ (ob' (rPy np)) _ i
              rw [oP, hφ i hi]
              exact pyF_cong (ne := ne) (Or.inr ⟨e, he, rfl⟩) (fun i _ => c7 i) i hi
        · have hsc' : sc = D.2.2.2.2.1 e := by omega
          have hed := h.1.edA he
          refine ⟨_, h.1.rm, _, h.1.rm, w_edT h.1 he (w_buyerT hb ⟨_, hed, _, hed, br_t' z7 ⟨_, hed, _, h.1.cl he, ?_⟩⟩)⟩
          rw [s2, h.1.nc he]
          refine ⟨fun z => ?_, fun _ => Or.inr ⟨rfl, hp 2 _ ⟨_, h.md, start _ (s65 _ (br_t' hw (br_t' (by rw [hsc']) bad)))⟩⟩⟩
          rw [← hsc'] at z
          exact absurd z Int32.lt_irrefl
      · have hed := h.1.edA he
        exact ⟨_, h.1.rm, _, h.1.rm, w_edT h.1 he (w_buyerT hb ⟨_, hed, _, hed, br_f' (fun z => hw (a5.symm.trans z)) (Or.inr ⟨rfl, hp 2 _ ⟨_, h.md, start _ (s65 _ (br_f' hw bad))⟩⟩)⟩)⟩
    · exact ⟨_, h.1.rm, _, h.1.rm, w_edT h.1 he (w_buyerF hb (Or.inl ⟨rfl, hp 1 _ ⟨_, h.md, mEdT h.n25 ne8 he (b1 (m_buyer0 hb (b0 T)))⟩⟩))⟩
  · exact ⟨_, h.1.rm, _, h.1.rm, w_edF h.1 he (Or.inl ⟨rfl, hp 1 _ ⟨_, h.md, mEdF h.n25 ne8 he (b0 T)⟩⟩)⟩
end CSE
end
