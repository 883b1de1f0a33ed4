section
/-! pure layer N: calls that ask of editions and money -/
section CN
variable {g : GH} {A : Rl → Nat} {ob : Rl → FO} {D : GD} {n m ne np : Nat} {E : Nat → AB} {K : GH → Prop}
theorem IV.wnA (h : IV g A ob D n m ne np E) {e : Nat} (he : e < ne) : g (A (rWn e)) = some (7, ob (rWn e)) := h.1.1.get _ (h.1.alWn he)
theorem oI_ne {s : Nat} (hs : s < 1000) : ¬ nI s = -1 := fun y => by
  have := congrArg Int32.toInt y
  rw [q_nI (by omega), q_m1] at this
  omega
theorem c_viewed (h : IV g A ob D n m ne np E) (k : ∀ g', NX A np g' → K g') (p q r : Int32) {post : Int32 → GH → Prop} (hp : ∀ x g', (∃ o, g' (A rMd) = some (9, o) ∧ wp_X8_viewed p q r o (fun v o' => LW (A rMd) (A rOut) K x v o' g')) → post x g') : wp_L_viewed (A rRm) p q r (A rOut) g post := by
  have ne8 := h.ne8
  by_cases he : ∃ e, e < ne ∧ p = nI e
  · obtain ⟨e, he, rfl⟩ := he
    have hin : vp_in (nI e) 8 := vp_in_nI (by omega) (by decide)
    obtain ⟨⟨c0, r0, w, t, ⟨w0, w1, w2, w3⟩, ⟨x0, x1, x2, x3⟩, g1, g2, g3, g4, g5, g6⟩, -, -, -, -, -, -, ⟨hV, hK, hnd, hn, hb⟩, -⟩ := h.ed he
    by_cases hs : (∃ c, c < w ∧ q = nI c) ∧ ∃ y, y < t ∧ r = nI y
    · obtain ⟨⟨c, hc, rfl⟩, y, hy, rfl⟩ := hs
      have hw := h.wnA he
      refine ⟨_, h.1.rm, _, h.1.rm, w_edT h.1 he ⟨_, h.1.edA he, _, h.1.wn he, _, h.1.wn he, ?_⟩⟩
      rw [w2, w3]
      refine w_cellT hc (by omega) hy (by omega) ⟨_, h.1.edA he, _, h.1.wn he, _, h.1.wn he, _, h.1.rm, _, h.1.kb he, ?_⟩
      rw [w0, w1, nI_add, nI_add]
      refine w_uppermost hV (fun j hj => (hb j hj).1) ?_
      have model : ∀ (oo : FO) (v : Int32), (∀ post : Int32 → FO → Prop, post v (sI (ob rMd) 0 0) → wp_X8_viewedAt (nI e) (nI (c0 + c)) (nI (r0 + y)) (sI (ob rMd) 0 0) (fun r21 => ((¬ r21 = -1 → vp_in r21 320 ∧ post (fA (ob rMd) 41 r21.toNatClampNeg) (sI (ob rMd) 0 0)) ∧ (r21 = -1 → post 0 (sI (ob rMd) 0 0))))) → oo = sB (ob rOut) 0 0 v.toInt64 → post 0 (hu g (A rOut) (10, oo)) := fun oo v hv hoo => by
        subst hoo
        refine hp 0 _ ⟨_, h.mdo _, mEdT h.n25 ne8 he (b1 (mEdT h.n25 ne8 he (b1 ⟨hin, ?_⟩)))⟩
        rw [qn_cl (by omega)]
        refine m_in0T x2 (by omega) hc (b1 ⟨hin, m_in0T x3 (by omega) hy (b1 (b1 ?_))⟩)
        rintro _ rfl
        refine t_ok rfl ⟨hin, hin, ?_⟩
        rw [qn_cl (by omega)]
        show wp_X8_viewedAt (nI e) (fA (ob rMd) 27 e + nI c) (fA (ob rMd) 28 e + nI y) (sI (ob rMd) 0 0) _
        rw [x0, x1, nI_add, nI_add]
        exact hv (fun v' o' => LW (A rMd) (A rOut) K 0 v' o' (hu g (A rOut) (10, sB (ob rOut) 0 0 v.toInt64))) (h.qV k rfl)
      cases et : topO (visS (bL (fL (ob rRm) 6)) (E e) (fA (ob rMd) 12) (fA (ob rMd) 13) (nI (c0 + c)) (nI (r0 + y))) (aO (E e)) with
      | none =>
        refine ⟨fun z => absurd rfl z, fun _ => ⟨_, h.out, ?_⟩⟩
        rintro _ rfl
        refine model _ 0 (fun post hpo => ?_) rfl
        refine w_viewedAt (o := sI (ob rMd) 0 0) (E := E e) (D := bL (fL (ob rRm) 6)) (by omega) hK hb hnd h.dn (by omega) (by omega) (fun _ => ⟨fun z => absurd rfl z, fun _ => hpo⟩) (fun i hi hs => ?_)
        have hs : topO (visS (bL (fL (ob rRm) 6)) (E e) (fA (ob rMd) 12) (fA (ob rMd) 13) (nI (c0 + c)) (nI (r0 + y))) (aO (E e)) = some ((aO (E e)).getD i 0) := hs
        rw [et] at hs; cases hs
      | some s =>
        have hm := (topO_mem et).1
        have hs40 := (hb s hm).1
        refine ⟨fun _ => ⟨_, h.1.edA he, _, h.1.kb he, _, h.1.kb he, vp_in_nI hs40 (by decide), _, h.out, ?_⟩, fun z => absurd z (oI_ne (by omega))⟩
        show ∀ g7, g7 = hu g (A rOut) (10, sB (ob rOut) 0 0 (fA (ob (rKb e)) 4 (nI s).toNatClampNeg).toInt64) → post 0 g7
        rw [qn_cl (by omega), (hV.2.1 s hm).2.2.2.2]
        rintro _ rfl
        refine model _ (aK (E e) s) (fun post hpo => ?_) rfl
        refine w_viewedAt (o := sI (ob rMd) 0 0) (E := E e) (D := bL (fL (ob rRm) 6)) (by omega) hK hb hnd h.dn (by omega) (by omega) (fun z => ?_) (fun i hi hs => ?_)
        · have z : topO (visS (bL (fL (ob rRm) 6)) (E e) (fA (ob rMd) 12) (fA (ob rMd) 13) (nI (c0 + c)) (nI (r0 + y))) (aO (E e)) = none := z
          rw [et] at z; cases z
        · have hs : topO (visS (bL (fL (ob rRm) 6)) (E e) (fA (ob rMd) 12) (fA (ob rMd) 13) (nI (c0 + c)) (nI (r0 + y))) (aO (E e)) = some ((aO (E e)).getD i 0) := hs
          rw [et] at hs
          have hs : s = (aO (E e)).getD i 0 := Option.some.inj hs
          have hlen : (aO (E e)).length ≤ 40 := nd_len hnd fun k hk => (hb k hk).1
          refine ⟨fun _ => ⟨vp_in_nI (by omega) (by decide), ?_⟩, fun z => absurd z (oI_ne (by omega))⟩
          rw [qn_cl (by omega), (hK.2 i hi).2.2.2, ← hs]
          exact hpo
    · refine ⟨_, h.1.rm, _, h.1.rm, w_edT h.1 he ⟨_, h.1.edA he, _, h.1.wn he, _, h.1.wn he, ?_⟩⟩
      rw [w2, w3]
      refine w_cellF (by omega) (by omega) hs ⟨rfl, hp 1 _ ⟨_, h.md, mEdT h.n25 ne8 he (b1 (mEdT h.n25 ne8 he (b1 ⟨hin, ?_⟩)))⟩⟩
      rw [qn_cl (by omega)]
      have bad : wp_X8_viewed_75 (nI e) q r (fun v o' => LW (A rMd) (A rOut) K 1 v o' g) 1 (ob rMd) := by
        rintro _ rfl
        exact t_no (Or.inl rfl) (h.qT k (by decide))
      by_cases hc : ∃ c, c < w ∧ q = nI c
      · obtain ⟨c, hc, rfl⟩ := hc
        exact m_in0T x2 (by omega) hc (b1 ⟨hin, m_in0F x3 (by omega) (fun z => hs ⟨⟨c, hc, rfl⟩, z⟩) (b0 (b0 bad))⟩)
      · exact m_in0F x2 (by omega) hc (b0 (b0 bad))
  · refine ⟨_, h.1.rm, _, h.1.rm, w_edF h.1 he ⟨rfl, hp 1 _ ⟨_, h.md, mEdF h.n25 ne8 he (b0 (mEdF h.n25 ne8 he (b0 (b0 ?_))))⟩⟩⟩
    rintro _ rfl
    exact t_no (Or.inl rfl) (h.qT k (by decide))
theorem c_area (h : IV g A ob D n m ne np E) (k : ∀ g', NX A np g' → K g') (p q : Int32) {post : Int32 → GH → Prop} (hp : ∀ x g', (∃ o, g' (A rMd) = some (9, o) ∧ wp_X8_area p q o (fun v o' => LW (A rMd) (A rOut) K x v o' g')) → post x g') : wp_L_area (A rRm) p q (A rOut) g post := by
  have ne8 := h.ne8
  by_cases he : ∃ e, e < ne ∧ p = nI e
  · obtain ⟨e, he, rfl⟩ := he
    obtain ⟨-, -, -, ⟨ha, -⟩, -⟩ := h.ed he
    by_cases hs : ∃ y, y < 6 ∧ q = nI y
    · obtain ⟨y, hy, rfl⟩ := hs
      refine ⟨_, h.1.rm, _, h.1.rm, w_edT h.1 he (w_handT hy ⟨_, h.1.edA he, _, h.1.edA he, vp_in_nI hy (by decide), _, h.out, ?_⟩)⟩
      rw [qn_cl (by omega), ha y hy]
      rintro _ rfl
      refine hp 0 _ ⟨_, h.mdo _, mEdT h.n25 ne8 he (b1 (m_hand1 hy (b1 ?_)))⟩
      rintro _ rfl
      refine t_ok rfl ?_
      rw [q_ix6]
      refine ⟨vp_in_nI (by omega) (by decide), ?_⟩
      rw [qn_cl (by omega)]
      exact h.qV k rfl
    · refine ⟨_, h.1.rm, _, h.1.rm, w_edT h.1 he (w_handF hs ⟨rfl, hp 1 _ ⟨_, h.md, mEdT h.n25 ne8 he (b1 (m_hand0 hs (b0 ?_)))⟩⟩)⟩
      rintro _ rfl
      exact t_no (Or.inl rfl) (h.qT k (by decide))
  · refine ⟨_, h.1.rm, _, h.1.rm, w_edF h.1 he ⟨rfl, hp 1 _ ⟨_, h.md, mEdF h.n25 ne8 he (b0 ?_)⟩⟩⟩
    rintro _ rfl
    exact t_no (Or.inl rfl) (h.qT k (by decide))
theorem IV.c31 (h : IV g A ob D n m ne np E) {e : Nat} (he : e < ne) : fA (ob rMd) 31 e = nI (D.2.2.2.2.1 e) := (h.ed he).2.2.2.2.2.2.2.2.1.2.2
theorem IV.copy (h : IV g A ob D n m ne np E) {e j : Nat} (he : e < ne) (hj : j < D.2.2.2.2.1 e) : ∃ sc, cCp (ob (rCp e j)) (ob rMd) (20 * e + j) sc j := by
  obtain ⟨sc, -, -, -, hc⟩ := (h.ed he).2.2.2.2.2.2.2.2.2.1
  exact ⟨sc, hc j hj⟩
theorem c_copyState (h : IV g A ob D n m ne np E) (k : ∀ g', NX A np g' → K g') (p q : Int32) {post : Int32 → GH → Prop} (hp : ∀ x g', (∃ o, g' (A rMd) = some (9, o) ∧ wp_X8_copyState p q o (fun v o' => LW (A rMd) (A rOut) K x v o' g')) → post x g') : wp_L_copyState (A rRm) p q (A rOut) g post := by
  have ne8 := h.ne8
  by_cases he : ∃ e j, e < ne ∧ j < D.2.2.2.2.1 e ∧ p = nI e ∧ q = nI j
  · obtain ⟨e, j, he, hj, rfl, rfl⟩ := he
    have c20 := h.1.c20 he
    obtain ⟨sc, st, hst, a1, a2, -⟩ := h.copy he hj
    refine ⟨_, h.1.rm, _, h.1.rm, w_cpT h.1 he hj ⟨_, h.1.cpA he hj, _, h.out, ?_⟩⟩
    rw [a2]
    rintro _ rfl
    refine hp 0 _ ⟨_, h.mdo _, mCpT h.n25 ne8 he (h.c31 he) c20 hj (b1 ?_)⟩
    rintro _ rfl
    refine t_ok rfl ?_
    rw [q_ix20]
    refine ⟨vp_in_nI (by omega) (by decide), ?_⟩
    rw [qn_cl (by omega)]
    exact h.qV k (congrArg Int32.toInt64 a1.symm)
  · refine ⟨_, h.1.rm, _, h.1.rm, w_cpF h.1 he ⟨rfl, hp 1 _ ⟨_, h.md, mCpF (cs := D.2.2.2.2.1) h.n25 ne8 (fun e he => ⟨h.c31 he, h.1.c20 he⟩) he (b0 ?_)⟩⟩⟩
    rintro _ rfl
    exact t_no (Or.inl rfl) (h.qT k (by decide))
theorem c_owner (h : IV g A ob D n m ne np E) (k : ∀ g', NX A np g' → K g') (p q : Int32) {post : Int32 → GH → Prop} (hp : ∀ x g', (∃ o, g' (A rMd) = some (9, o) ∧ wp_X8_owner p q o (fun v o' => LW (A rMd) (A rOut) K x v o' g')) → post x g') : wp_L_owner (A rRm) p q (A rOut) g post := by
  have ne8 := h.ne8
  by_cases he : ∃ e j, e < ne ∧ j < D.2.2.2.2.1 e ∧ p = nI e ∧ q = nI j
  · obtain ⟨e, j, he, hj, rfl, rfl⟩ := he
    have c20 := h.1.c20 he
    obtain ⟨sc, st, hst, a1, a2, -, a4, -, a6⟩ := h.copy he hj
    refine ⟨_, h.1.rm, _, h.1.rm, w_cpT h.1 he hj ⟨_, h.1.cpA he hj, _, h.out, ?_⟩⟩
    rintro _ rfl
    refine hp 0 _ ⟨_, h.mdo _, mCpT h.n25 ne8 he (h.c31 he) c20 hj (b1 ?_)⟩
    rintro _ rfl
    refine t_ok rfl ?_
    rw [q_ix20]
    have hin : vp_in (nI (20 * e + j)) 160 := vp_in_nI (by omega) (by decide)
    refine ⟨hin, ?_⟩
    rw [qn_cl (by omega)]
    have e42 : fA (sI (ob rMd) 0 0) 42 (20 * e + j) = nI st := a1
    rw [e42]
    have val : (st = 1 ∨ st = 2) → fI (ob (rCp e j)) 1 = fA (ob rMd) 43 (20 * e + j) := fun z => by
      obtain ⟨⟨b, -, b1, b2⟩, -⟩ := a4 z
      rw [b1, b2]
    match st, hst with
    | 0, _ =>
      refine br_f (by decide) ⟨hin, br_f' (by decide) ?_⟩
      exact h.qV k (congrArg Int32.toInt64 (a6 (Or.inl rfl)))
    | 1, _ =>
      refine br_t rfl ⟨hin, ?_⟩
      rw [qn_cl (by omega)]
      exact h.qV k (congrArg Int32.toInt64 (val (Or.inl rfl)))
    | 2, _ =>
      refine br_f (by decide) ⟨hin, br_t' rfl ⟨hin, ?_⟩⟩
      rw [qn_cl (by omega)]
      exact h.qV k (congrArg Int32.toInt64 (val (Or.inr rfl)))
    | 3, _ =>
      refine br_f (by decide) ⟨hin, br_f' (by decide) ?_⟩
      exact h.qV k (congrArg Int32.toInt64 (a6 (Or.inr rfl)))
    | st + 4, h => omega
  · refine ⟨_, h.1.rm, _, h.1.rm, w_cpF h.1 he ⟨rfl, hp 1 _ ⟨_, h.md, mCpF (cs := D.2.2.2.2.1) h.n25 ne8 (fun e he => ⟨h.c31 he, h.1.c20 he⟩) he (b0 ?_)⟩⟩⟩
    rintro _ rfl
    exact t_no (Or.inl rfl) (h.qT k (by decide))
theorem c_money (h : IV g A ob D n m ne np E) (k : ∀ g', NX A np g' → K g') (p : Int32) {post : Int32 → GH → Prop} (hp : ∀ x g', (∃ o, g' (A rMd) = some (9, o) ∧ wp_X8_money p o (fun v o' => LW (A rMd) (A rOut) K x v o' g')) → post x g') : wp_L_money (A rRm) p (A rOut) g post := by
  by_cases hs : ∃ y, y < 6 ∧ p = nI y
  · obtain ⟨y, hy, rfl⟩ := hs
    refine ⟨_, h.1.rm, w_handT hy ⟨vp_in_nI hy (by decide), _, h.out, ?_⟩⟩
    rw [qn_cl (by omega), h.mo.1 y hy]
    rintro _ rfl
    refine hp 0 _ ⟨_, h.mdo _, m_hand1 hy (b1 ?_)⟩
    rintro _ rfl
    refine t_ok rfl ⟨vp_in_nI hy (by decide), ?_⟩
    rw [qn_cl (by omega)]
    exact h.qV k rfl
  · refine ⟨_, h.1.rm, w_handF hs ⟨rfl, hp 1 _ ⟨_, h.md, m_hand0 hs (b0 ?_)⟩⟩⟩
    rintro _ rfl
    exact t_no (Or.inl rfl) (h.qT k (by decide))
theorem c_purse (h : IV g A ob D n m ne np E) (k : ∀ g', NX A np g' → K g') (p : Int32) {post : Int32 → GH → Prop} (hp : ∀ x g', (∃ o, g' (A rMd) = some (9, o) ∧ wp_X8_purse p o (fun v o' => LW (A rMd) (A rOut) K x v o' g')) → post x g') : wp_L_purse (A rRm) p (A rOut) g post := by
  by_cases hs : ∃ y, y < 8 ∧ p = nI y
  · obtain ⟨y, hy, rfl⟩ := hs
    refine ⟨_, h.1.rm, w_buyerT hy ⟨vp_in_nI hy (by decide), _, h.out, ?_⟩⟩
    rw [qn_cl (by omega), h.mo.2.1 y hy]
    rintro _ rfl
    refine hp 0 _ ⟨_, h.mdo _, m_buyer1 hy (b1 ?_)⟩
    rintro _ rfl
    refine t_ok rfl ⟨vp_in_nI hy (by decide), ?_⟩
    rw [qn_cl (by omega)]
    exact h.qV k rfl
  · refine ⟨_, h.1.rm, w_buyerF hs ⟨rfl, hp 1 _ ⟨_, h.md, m_buyer0 hs (b0 ?_)⟩⟩⟩
    rintro _ rfl
    exact t_no (Or.inl rfl) (h.qT k (by decide))
end CN
end
