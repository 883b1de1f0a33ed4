section
/-! pure layer U: withdraw, accept -/
theorem cCp.cong {cp o o' : FO} {a sc j : Nat} (h : cCp cp o a sc j) (hr : ∀ k, k = 42 ∨ k = 43 ∨ k = 44 ∨ k = 45 → fA o' k a = fA o k a) : cCp cp o' a sc j := by
  unfold cCp
  rw [hr 42 (by omega), hr 43 (by omega), hr 44 (by omega), hr 45 (by omega)]
  exact h
theorem cEd.copies {ed ed' wn kb : FO} {cp cp' : Nat → FO} {o o' : FO} {n m e : Nat} {E : AB} {c : Nat} (h : cEd ed wn kb cp o n m e E c) (hed : ∀ k, k ≠ 9 → fI ed' k = fI ed k) (heA : fA ed' = fA ed) (hr : ∀ k, k < 42 → k ≠ 17 → k ≠ 34 → fA o' k = fA o k)
    (h10 : ∃ sc, sc ≤ c ∧ fI ed' 9 = nI sc ∧ (fA o' 34 e = 0 ↔ sc = 0) ∧ ∀ j, j < c → cCp (cp' j) o' (20 * e + j) sc j) (h11 : ∀ j, c ≤ j → j < 20 → fA o' 42 (20 * e + j) = 0) : cEd ed' wn kb cp' o' n m e E c := by
  obtain ⟨a1, a2, a3, a4, a5, a6, a7, ⟨v1, v2, v3, v4, v5⟩, a9, -, -⟩ := h
  refine ⟨?_, ?_, ?_, ?_, ?_, ?_, ?_, ⟨?_, ?_, v3, v4, ?_⟩, ?_, h10, h11⟩
  · obtain ⟨c0, r0, w, t, a, b, c⟩ := a1
    exact ⟨c0, r0, w, t, a, by rw [hr 27 (by decide) (by decide) (by decide), hr 28 (by decide) (by decide) (by decide), hr 29 (by decide) (by decide) (by decide), hr 30 (by decide) (by decide) (by decide)]; exact b, c⟩
  · rw [hr 26 (by decide) (by decide) (by decide), hed 0 (by decide)]; exact a2
  · rw [hr 32 (by decide) (by decide) (by decide), hed 2 (by decide)]; exact a3
  · rw [hr 35 (by decide) (by decide) (by decide), heA, hed 5 (by decide)]; exact a4
  · rw [hr 33 (by decide) (by decide) (by decide), hed 7 (by decide)]; exact a5
  · rw [hr 36 (by decide) (by decide) (by decide), heA, hed 7 (by decide)]; exact a6
  · rw [hr 36 (by decide) (by decide) (by decide)]; exact a7
  · rw [hr 12 (by decide) (by decide) (by decide), hr 13 (by decide) (by decide) (by decide)]; exact v1
  · unfold MK
    rw [hr 37 (by decide) (by decide) (by decide), hr 38 (by decide) (by decide) (by decide), hr 39 (by decide) (by decide) (by decide), hr 40 (by decide) (by decide) (by decide), hr 41 (by decide) (by decide) (by decide)]; exact v2
  · rw [hr 12 (by decide) (by decide) (by decide), hr 13 (by decide) (by decide) (by decide)]; exact v5
  · rw [hr 31 (by decide) (by decide) (by decide)]; exact a9
/-- nothing changes but what belongs to editions, copies and money -/
theorem CT.ed {R R' B o o' : FO} {sh ac ed ed' wn kb py py' : Nat → FO} {cp cp' : Nat → Nat → FO} {n m ne np np' : Nat} {cs : Nat → Nat} {E : Nat → AB} (h : CT R B o sh ac ed wn kb py cp n m ne np cs E) (hr : ∀ k, k < 26 → k ≠ 17 → fA o' k = fA o k) (e1 : fI o' 1 = fI o 1) (e10 : fI o' 10 = fI o 10) (e25 : fI o' 25 = fI o 25) (e18 : fI o' 18 = fI o 18)
    (hd : cDn R' o') (he : ∀ e, e < ne → cEd (ed' e) (wn e) (kb e) (cp' e) o' n m e (E e) (cs e)) (hf : cFr o' ne) (hm : cMo R' o') (hp : cPy py' R' o' ne np') : CT R' B o' sh ac ed' wn kb py' cp' n m ne np' cs E := by
  obtain ⟨⟨c1, c2, c3⟩, ⟨s1, s2⟩, ⟨a1, a2⟩, hu', -, ⟨b1, b2, b3⟩, -, -, -, -⟩ := h
  have ef : abFold o' m = abFold o m := abFold_cong fun k _ => by
    rw [hr 2 (by decide) (by decide), hr 4 (by decide) (by decide), hr 5 (by decide) (by decide), hr 6 (by decide) (by decide), hr 7 (by decide) (by decide), hr 14 (by decide) (by decide), hr 15 (by decide) (by decide), hr 16 (by decide) (by decide)]
    exact ⟨rfl, rfl, rfl, rfl, rfl, rfl, rfl, rfl⟩
  refine ⟨⟨e1.trans c1, e10.trans c2, e25.trans c3⟩, ⟨?_, fun j hj => ?_⟩, ⟨?_, fun j hj => ?_⟩, fun h1 hh1 => ?_, hd, ⟨?_, ?_, ?_⟩, he, hf, hm, hp⟩
  · unfold WFS
    rw [hr 11 (by decide) (by decide), hr 12 (by decide) (by decide), hr 13 (by decide) (by decide), hr 14 (by decide) (by decide), hr 15 (by decide) (by decide)]; exact s1
  · unfold shF
    rw [hr 11 (by decide) (by decide), hr 12 (by decide) (by decide), hr 13 (by decide) (by decide), hr 14 (by decide) (by decide), hr 15 (by decide) (by decide), hr 16 (by decide) (by decide)]; exact s2 j hj
  · unfold WFA
    rw [hr 2 (by decide) (by decide), hr 3 (by decide) (by decide), hr 4 (by decide) (by decide), hr 5 (by decide) (by decide), hr 6 (by decide) (by decide), hr 7 (by decide) (by decide)]; exact a1
  · unfold acF
    rw [hr 2 (by decide) (by decide), hr 3 (by decide) (by decide), hr 4 (by decide) (by decide), hr 5 (by decide) (by decide), hr 6 (by decide) (by decide), hr 7 (by decide) (by decide)]; exact a2 j hj
  · obtain ⟨u, st, hh2⟩ := hu' h1 hh1
    refine ⟨u, st, ?_⟩
    unfold cUh at hh2 ⊢
    rw [hr 3 (by decide) (by decide), hr 7 (by decide) (by decide), hr 8 (by decide) (by decide), hr 9 (by decide) (by decide)]
    exact hh2
  · rw [ef, hr 12 (by decide) (by decide), hr 13 (by decide) (by decide)]; exact b1
  · rw [ef]; exact b2
  · rw [ef, e18, hr 19 (by decide) (by decide), hr 20 (by decide) (by decide), hr 21 (by decide) (by decide), hr 22 (by decide) (by decide), hr 23 (by decide) (by decide), hr 24 (by decide) (by decide)]; exact b3
theorem w_countHeld {o : FO} {post : Int32 → Prop} (h : post (nI (fb_ct (fun k => decide (fI o 7 = 0 ∧ ¬ fA o 6 k = 0)) 200))) : wp_X3_countHeld o post := by
  refine lq1 (fun n i x => wp_X3_countHeld_4 o post n x i) (fun i x => x = nI (fb_ct (fun k => decide (fI o 7 = 0 ∧ ¬ fA o 6 k = 0)) i)) 200 (by decide) ?_ ?_ 0 0 (by decide) rfl
  · rintro n x rfl
    exact ⟨fun _ => h, fun z => absurd (Int32.le_refl _) z⟩
  · rintro n i x hi rfl kk
    refine ⟨fun z => absurd z (qn_le (N := 200) hi), fun _ => w_holding hi (fun y => b1 (kk _ ?_)) (fun y => b0 (kk _ ?_))⟩
    · rw [fb_ct_succ, decide_eq_true y, nI_1]; rfl
    · rw [fb_ct_succ, decide_eq_false y]; rfl
section CW
variable {g : GH} {A : Rl → Nat} {ob : Rl → FO} {D : GD} {n m ne np : Nat} {E : Nat → AB} {K : GH → Prop}
theorem m_unhold {o : FO} {e : Nat} {post : Int32 → FO → Prop} (h1 : fI o 1 = nI m) (m200 : m ≤ 200) (he : e < 8) (K : ∀ f, (∀ j, j < m → f (200 * e + j) = 0) → (∀ q, q < 200 * e ∨ 200 * e + m ≤ q → f q = fA o 36 q) → post (nI (fb_ct (fun k => decide (¬ fA o 36 (200 * e + k) = 0)) m)) (sA (sAr o 36 f) 33 e 1)) : wp_X8_withdraw_66 (nI e) post 1000 0 0 o := by
  refine lq2 (fun n' i x y => wp_X8_withdraw_66 (nI e) post n' x i y) (fun i x y => x = nI (fb_ct (fun k => decide (¬ fA o 36 (200 * e + k) = 0)) i) ∧ ∃ f, y = sAr o 36 f ∧ (∀ j, j < i → f (200 * e + j) = 0) ∧ ∀ q, q < 200 * e ∨ 200 * e + i ≤ q → f q = fA o 36 q) m (by omega) ?_ ?_ 0 0 o (by omega) ⟨rfl, fA o 36, (sAr_id o 36).symm, fun j hj => by omega, fun q _ => rfl⟩
  · rintro n' x y ⟨rfl, f, rfl, f1, f2⟩
    have e1 : fI (sAr o 36 f) 1 = nI m := h1
    refine ⟨fun _ => ⟨vp_in_nI he (by decide), ?_⟩, fun z => absurd (show fI (sAr o 36 f) 1 ≤ nI m by rw [e1]; exact Int32.le_refl _) z⟩
    rintro _ rfl
    rw [qn_cl (by omega)]
    exact K f f1 f2
  · rintro n' i x y hi ⟨rfl, f, rfl, f1, f2⟩ kk
    have e1 : fI (sAr o 36 f) 1 = nI m := h1
    refine ⟨fun z => absurd z (by rw [e1]; exact nI_ge hi (by omega)), fun _ => ?_⟩
    rw [q_ix200]
    have hin : vp_in (nI (200 * e + i)) 1600 := vp_in_nI (by omega) (by decide)
    refine ⟨hin, ?_⟩
    rw [qn_cl (by omega)]
    have ev : fA (sAr o 36 f) 36 (200 * e + i) = fA o 36 (200 * e + i) := f2 _ (Or.inr (Nat.le_refl _))
    rw [ev]
    have fin : ∀ v : Int32, nI (fb_ct (fun k => decide (¬ fA o 36 (200 * e + k) = 0)) i) + v = nI (fb_ct (fun k => decide (¬ fA o 36 (200 * e + k) = 0)) (i + 1)) → wp_X8_withdraw_95 (nI e) post (fun x2 x3 o => wp_X8_withdraw_66 (nI e) post n' x2 x3 o) (nI i) (nI (fb_ct (fun k => decide (¬ fA o 36 (200 * e + k) = 0)) i)) v (sAr o 36 f) := fun v hv => by
      unfold wp_X8_withdraw_95
      rw [q_ix200]
      refine ⟨hin, ?_⟩
      rintro _ rfl
      rw [qn_cl (by omega), sAr_sA, hv]
      refine kk _ _ ⟨rfl, _, rfl, fun j hj => ?_, fun q hq => ?_⟩
      · rw [qs_up]
        by_cases c : j = i
        · rw [if_pos (by rw [c])]; rfl
        · rw [if_neg (by omega)]; exact f1 j (by omega)
      · rw [qs_up, if_neg (by omega)]; exact f2 q (by omega)
    refine ⟨fun z => fin 0 ?_, fun z => fin 1 ?_⟩
    · rw [fb_ct_succ, decide_eq_false (fun y => y z)]; exact Int32.add_zero _
    · rw [fb_ct_succ, decide_eq_true z, nI_1]; rfl
theorem c_withdraw (h : IV g A ob D n m ne np E) (k : ∀ g', NX A np g' → K g') (p : Int32) {post : Int32 → GH → Prop} (hp : ∀ xx g', (∃ o, g' (A rMd) = some (9, o) ∧ wp_X8_withdraw p o (fun v o' => LW (A rMd) (A rOut) K xx v o' g')) → post xx g') : wp_L_withdraw (A rRm) p (A rOut) g post := by
  have ne8 := h.ne8
  have m200 := h.m200
  by_cases he : ∃ e, e < ne ∧ p = nI e
  · obtain ⟨e, he, rfl⟩ := he
    have hin : vp_in (nI e) 8 := vp_in_nI (by omega) (by decide)
    have hE := h.ed he
    obtain ⟨a1, a2, a3, a4, ⟨a5, a5'⟩, a6, a7, a8, a9, ⟨sc, s1, s2, s3, s4⟩, a11⟩ := hE
    have bad : wp_X8_withdraw_45 (nI e) (fun v o' => LW (A rMd) (A rOut) K 2 v o' g) (sI (ob rMd) 0 0) := by
      rintro _ rfl
      rw [sI2]
      exact t_no (Or.inr (Or.inl rfl)) (h.qT k (by decide))
    have start : ∀ (pst : Int32 → FO → Prop), ((¬ fA (ob rMd) 33 e = 0 → wp_X8_withdraw_45 (nI e) pst (sI (ob rMd) 0 0)) ∧ (fA (ob rMd) 33 e = 0 → ((fA (ob rMd) 34 e = 0 → wp_X8_withdraw_50 (nI e) pst 0 (sI (ob rMd) 0 0)) ∧ (¬ fA (ob rMd) 34 e = 0 → wp_X8_withdraw_45 (nI e) pst (sI (ob rMd) 0 0))))) → wp_X8_withdraw (nI e) (ob rMd) pst := fun pst w => by
      refine mEdT h.n25 ne8 he (b1 ?_)
      rintro _ rfl
      refine t_ok rfl ⟨hin, ?_⟩
      rw [qn_cl (by omega)]
      exact ⟨w.1, fun z => ⟨hin, w.2 z⟩⟩
    refine ⟨_, h.1.rm, _, h.1.rm, w_edT h.1 he ⟨_, h.1.edA he, fun z => Or.inr ⟨rfl, hp 2 _ ⟨_, h.md, start _ (br_f' (by rw [← a5]; exact z) bad)⟩⟩, fun z => ⟨_, h.1.edA he, ?_⟩⟩⟩
    have z33 : fA (ob rMd) 33 e = 0 := by rw [← a5]; exact z
    rw [s2]
    refine ⟨fun z2 => ?_, fun z2 => Or.inr ⟨rfl, hp 2 _ ⟨_, h.md, start _ (br_t' z33 (br_f (fun y => z2 ?_) bad))⟩⟩⟩
    · have c20 := a9.2.1
      have hsc : sc = 0 := by
        rcases Nat.eq_zero_or_pos sc with c | c
        · exact c
        · exact absurd z2 (nI_nle c (by omega))
      have z34 : fA (ob rMd) 34 e = 0 := s3.mpr hsc
      refine ⟨_, h.1.edA he, w_countHeld ⟨_, h.1.edA he, ?_⟩⟩
      rintro _ rfl
      have q1 := h.1.setEd he (sI (ob (rEd e)) 7 1) rfl
      have f5 : ∀ q : Rl, q ≠ rEd e → rup ob (rEd e) (sI (ob (rEd e)) 7 1) q = ob q := fun q hq => rup_n hq
      have hout := q1.out
      rw [f5 rOut (role_ne (by decide : ¬ (11 : Nat) = 5))] at hout
      have hmd := q1.md
      rw [f5 rMd (role_ne (by decide : ¬ (12 : Nat) = 5))] at hmd
      refine ⟨_, hout, ?_⟩
      rintro _ rfl
      refine hp 0 _ ⟨_, by rw [hu_n (fun z => h.om z.symm)]; exact hmd, start _ (br_t' z33 (br_t z34 ?_))⟩
      rintro _ rfl
      rw [sI2]
      refine t_ok rfl (m_unhold (o := sI (ob rMd) 0 0) h.n1 m200 (by omega) fun f f1 f2 => ?_)
      have hcnt : fb_ct (fun k => decide (fI (ob (rEd e)) 7 = 0 ∧ ¬ fA (ob (rEd e)) 6 k = 0)) 200 = fb_ct (fun k => decide (¬ fA (sI (ob rMd) 0 0) 36 (200 * e + k) = 0)) m := by
        have e1 : fb_ct (fun k => decide (fI (ob (rEd e)) 7 = 0 ∧ ¬ fA (ob (rEd e)) 6 k = 0)) 200 = fb_ct (fun k => decide (¬ fA (sI (ob rMd) 0 0) 36 (200 * e + k) = 0)) 200 := fb_ct_cong fun k hk => decide_eq_decide.mpr (a6 k hk).symm
        rw [e1]
        refine fb_ct_ext m200 fun k k1 k2 => decide_eq_false fun y => y ?_
        exact a7 k k1 k2
      refine h.uV (E1 := E) k q1 ⟨rfl, rfl, rfl⟩ (Nat.le_succ _) rfl (congrArg (fun z => (nI z).toInt64) hcnt) ?_
      have g3 : (fun j => rup ob (rEd e) (sI (ob (rEd e)) 7 1) (rSh j)) = fun j => ob (rSh j) := funext fun j => f5 _ (role_ne (by decide : ¬ (3 : Nat) = 5))
      have g4 : (fun j => rup ob (rEd e) (sI (ob (rEd e)) 7 1) (rAc j)) = fun j => ob (rAc j) := funext fun j => f5 _ (role_ne (by decide : ¬ (4 : Nat) = 5))
      have g6 : (fun j => rup ob (rEd e) (sI (ob (rEd e)) 7 1) (rWn j)) = fun j => ob (rWn j) := funext fun j => f5 _ (role_ne (by decide : ¬ (6 : Nat) = 5))
      have g7 : (fun j => rup ob (rEd e) (sI (ob (rEd e)) 7 1) (rKb j)) = fun j => ob (rKb j) := funext fun j => f5 _ (role_ne (by decide : ¬ (7 : Nat) = 5))
      have g10 : (fun j => rup ob (rEd e) (sI (ob (rEd e)) 7 1) (rPy j)) = fun j => ob (rPy j) := funext fun j => f5 _ (role_ne (by decide : ¬ (10 : Nat) = 5))
      have g9 : (fun e2 j => rup ob (rEd e) (sI (ob (rEd e)) 7 1) (rCp e2 j)) = fun e2 j => ob (rCp e2 j) := funext fun e2 => funext fun j => f5 _ (role_ne (by decide : ¬ (9 : Nat) = 5))
      rw [g3, g4, g6, g7, g10, g9, f5 rRm (role_ne (by decide : ¬ (0 : Nat) = 5)), f5 rBd (role_ne (by decide : ¬ (2 : Nat) = 5))]
      have hrow : ∀ j, j ≠ 33 → j ≠ 36 → fA (sA (sAr (sI (ob rMd) 0 0) 36 f) 33 e 1) j = fA (ob rMd) j := fun j j1 j2 => by
        rw [qs_fAsA, if_neg j1, qs_fArA, if_neg j2, qs_fAsI]
      have r33 : ∀ j, fA (sA (sAr (sI (ob rMd) 0 0) 36 f) 33 e 1) 33 j = if j = e then 1 else fA (ob rMd) 33 j := fun j => rfl
      have r36 : fA (sA (sAr (sI (ob rMd) 0 0) 36 f) 33 e 1) 36 = f := rfl
      have z36 : ∀ j, j < 200 → f (200 * e + j) = 0 := fun j hj => by
        by_cases c : j < m
        · exact f1 j c
        · rw [f2 _ (Or.inr (by omega))]
          exact a7 j (by omega) hj
      have o36 : ∀ e2 j, e2 ≠ e → j < 200 → f (200 * e2 + j) = fA (ob rMd) 36 (200 * e2 + j) := fun e2 j hne hj => f2 _ (by omega)
      refine h.2.ed (fun j j1 j2 => hrow j (by omega) (by omega)) rfl rfl rfl rfl ?_ (fun e2 he2 => ?_) ?_ ?_ ?_
      · unfold cDn
        rw [hrow 17 (by decide) (by decide)]; exact h.dn
      · obtain ⟨b1', b2', b3', b4', ⟨b5, b5'⟩, b6, b7, ⟨v1, v2, v3, v4, v5⟩, b9, b10, b11⟩ := h.ed he2
        refine ⟨?_, ?_, ?_, ?_, ?_, ?_, ?_, ⟨?_, ?_, v3, v4, ?_⟩, ?_, ?_, ?_⟩
        · unfold cWn at b1' ⊢
          rw [hrow 27 (by decide) (by decide), hrow 28 (by decide) (by decide), hrow 29 (by decide) (by decide), hrow 30 (by decide) (by decide)]; exact b1'
        · rw [hrow 26 (by decide) (by decide)]
          by_cases c : e2 = e
          · subst c; rw [rup_s]; exact b2'
          · rw [rup_j (show (rEd e2).2.1 ≠ (rEd e).2.1 from c)]; exact b2'
        · rw [hrow 32 (by decide) (by decide)]
          by_cases c : e2 = e
          · subst c; rw [rup_s]; exact b3'
          · rw [rup_j (show (rEd e2).2.1 ≠ (rEd e).2.1 from c)]; exact b3'
        · rw [hrow 35 (by decide) (by decide)]
          by_cases c : e2 = e
          · subst c; rw [rup_s]; exact b4'
          · rw [rup_j (show (rEd e2).2.1 ≠ (rEd e).2.1 from c)]; exact b4'
        · rw [r33]
          by_cases c : e2 = e
          · subst c; rw [rup_s, if_pos rfl]; exact ⟨rfl, Or.inr rfl⟩
          · rw [rup_j (show (rEd e2).2.1 ≠ (rEd e).2.1 from c), if_neg c]; exact ⟨b5, b5'⟩
        · rw [r36]
          by_cases c : e2 = e
          · subst c
            intro j hj
            rw [rup_s, z36 j hj]
            exact ⟨fun y => absurd rfl y, fun y => absurd (show (1 : Int32) = 0 from y.1) (by decide)⟩
          · intro j hj
            rw [rup_j (show (rEd e2).2.1 ≠ (rEd e).2.1 from c), o36 e2 j c hj]; exact b6 j hj
        · rw [r36]
          intro j j1 j2
          by_cases c : e2 = e
          · subst c; exact z36 j j2
          · rw [o36 e2 j c j2]; exact b7 j j1 j2
        · rw [hrow 12 (by decide) (by decide), hrow 13 (by decide) (by decide)]; exact v1
        · unfold MK
          rw [hrow 37 (by decide) (by decide), hrow 38 (by decide) (by decide), hrow 39 (by decide) (by decide), hrow 40 (by decide) (by decide), hrow 41 (by decide) (by decide)]; exact v2
        · rw [hrow 12 (by decide) (by decide), hrow 13 (by decide) (by decide)]; exact v5
        · rw [hrow 31 (by decide) (by decide)]; exact b9
        · rw [hrow 34 (by decide) (by decide)]
          obtain ⟨sc', t1, t2, t3, t4⟩ := b10
          refine ⟨sc', t1, ?_, t3, fun j hj => (t4 j hj).cong fun q hq => by rw [hrow q (by omega) (by omega)]⟩
          by_cases c : e2 = e
          · subst c; rw [rup_s]; exact t2
          · rw [rup_j (show (rEd e2).2.1 ≠ (rEd e).2.1 from c)]; exact t2
        · rw [hrow 42 (by decide) (by decide)]; exact b11
      · intro e2 h1 h2
        obtain ⟨x1, x2, x3, x4, x5⟩ := h.fr e2 h1 h2
        have c : ¬ e2 = e := by omega
        refine ⟨by rw [r33, if_neg c]; exact x1, by rw [hrow 34 (by decide) (by decide)]; exact x2, by rw [hrow 35 (by decide) (by decide)]; exact x3, fun j hj => by rw [r36, o36 e2 j c hj]; exact x4 j hj, by rw [hrow 42 (by decide) (by decide)]; exact x5⟩
      · unfold cMo
        rw [hrow 46 (by decide) (by decide), hrow 47 (by decide) (by decide)]; exact h.mo
      · unfold cPy
        rw [hrow 26 (by decide) (by decide), hrow 35 (by decide) (by decide)]; exact h.pyy
    · have hs0 := s3.mp y
      rw [hs0]
      exact Int32.le_refl _
  · refine ⟨_, h.1.rm, _, h.1.rm, w_edF h.1 he (Or.inl ⟨rfl, hp 1 _ ⟨_, h.md, mEdF h.n25 ne8 he (b0 ?_)⟩⟩)⟩
    rintro _ rfl
    exact t_no (Or.inl rfl) (h.qT k (by decide))
end CW
end
