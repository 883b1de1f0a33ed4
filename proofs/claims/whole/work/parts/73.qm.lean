section
/-! pure layer M: calls that ask -/
theorem w_holding {k : Nat} (hk : k < 200) {o : FO} {post : Int32 → Prop} (h1 : fI o 7 = 0 ∧ ¬ fA o 6 k = 0 → post 1) (h0 : ¬ (fI o 7 = 0 ∧ ¬ fA o 6 k = 0) → post 0) : wp_X3_isHolding (nI k) o post :=
  ⟨fun z => h0 fun y => z y.1, fun z => ⟨fun y => absurd y (nI_pos (by omega)), fun _ => ⟨fun y => absurd y (qn_le (N := 200) hk), fun _ => ⟨vp_in_nI hk (by decide), by
    rw [qn_cl (by omega)]
    exact ⟨fun y => h0 fun x => x.2 y, fun y => h1 ⟨z, y⟩⟩⟩⟩⟩⟩
theorem w_holderOf {o : FO} {ne k : Nat} {post : Int32 → Prop} (hn : fI o 25 = nI ne) (ne8 : ne ≤ 8) (hk : k < 200) (h0 : (∀ e, e < ne → fA o 36 (200 * e + k) = 0) → post (-1))
    (h1 : ∀ e, e < ne → ¬ fA o 36 (200 * e + k) = 0 → (∀ j, j < e → fA o 36 (200 * j + k) = 0) → post (nI e)) : wp_X8_holderOf (nI k) o post := by
  have key : ∀ i n x, i ≤ ne → i < n → ((x = -1 ∧ ∀ e, i ≤ e → e < ne → fA o 36 (200 * e + k) = 0) ∨ ∃ e, i ≤ e ∧ e < ne ∧ ¬ fA o 36 (200 * e + k) = 0 ∧ x = nI e ∧ ∀ j, i ≤ j → j < e → fA o 36 (200 * j + k) = 0) → wp_X8_holderOf_9 (nI k) o post n x (nI i - 1) := by
    intro i
    induction i with
    | zero =>
      intro n x hi hn2 hI
      obtain ⟨n, rfl⟩ : ∃ n', n = n' + 1 := ⟨n - 1, by omega⟩
      refine ⟨fun _ => ?_, fun z => absurd (by decide : nI 0 - 1 < 0) z⟩
      rcases hI with ⟨rfl, h⟩ | ⟨e, -, he, h2, rfl, h3⟩
      · exact h0 fun e he => h e (Nat.zero_le _) he
      · exact h1 e he h2 fun j hj => h3 j (Nat.zero_le _) hj
    | succ i ih =>
      intro n x hi hn2 hI
      obtain ⟨n, rfl⟩ : ∃ n', n = n' + 1 := ⟨n - 1, by omega⟩
      rw [nI_pred]
      refine ⟨fun z => absurd z (nI_pos (by omega)), fun _ => ?_⟩
      rw [q_ix200]
      refine ⟨vp_in_nI (by omega) (by decide), ?_⟩
      rw [qn_cl (by omega)]
      refine ⟨fun z => ?_, fun z => ?_⟩
      · show wp_X8_holderOf_9 (nI k) o post n x (nI i + (-1))
        rw [qn_n1]
        refine ih n x (by omega) (by omega) ?_
        rcases hI with ⟨rfl, h⟩ | ⟨e, he0, he, h2, rfl, h3⟩
        · refine Or.inl ⟨rfl, fun e h1 h2 => ?_⟩
          by_cases c : e = i
          · subst c; exact z
          · exact h e (by omega) h2
        · refine Or.inr ⟨e, by omega, he, h2, rfl, fun j j1 j2 => ?_⟩
          by_cases c : j = i
          · subst c; exact z
          · exact h3 j (by omega) j2
      · show wp_X8_holderOf_9 (nI k) o post n (nI i) (nI i + (-1))
        rw [qn_n1]
        exact ih n (nI i) (by omega) (by omega) (Or.inr ⟨i, Nat.le_refl _, by omega, z, rfl, fun j j1 j2 => by omega⟩)
  unfold wp_X8_holderOf
  rw [hn]
  exact key ne 1000 (-1) (Nat.le_refl _) (by omega) (Or.inl ⟨rfl, fun e h1 h2 => by omega⟩)
section CQ
variable {g : GH} {A : Rl → Nat} {ob : Rl → FO} {D : GD} {n m ne np : Nat} {E : Nat → AB} {K : GH → Prop}
theorem w_lowest (h : IV g A ob D n m ne np E) {k : Nat} (hk : k < 200) {post : Int32 → Prop} (h0 : (∀ e, e < ne → fA (ob rMd) 36 (200 * e + k) = 0) → post (-1))
    (h1 : ∀ e, e < ne → ¬ fA (ob rMd) 36 (200 * e + k) = 0 → (∀ j, j < e → fA (ob rMd) 36 (200 * j + k) = 0) → post (nI e)) : wp_X7_lowestHolder (A rRm) (nI k) g post := by
  have ne8 := h.ne8
  refine lq0 (fun n' i => wp_X7_lowestHolder_2 (A rRm) (nI k) g post n' i) (fun i => ∀ j, j < i → fA (ob rMd) 36 (200 * j + k) = 0) ne (by omega) ?_ ?_ 0 (by omega) (fun j hj => by omega)
  · intro n' hI
    refine ⟨_, h.1.rm, _, h.1.l2, ?_⟩
    rw [h.1.n2]
    exact ⟨fun _ => h0 hI, fun z => absurd (Int32.le_refl _) z⟩
  · intro n' e he hI kk
    have hh := (h.ed he).2.2.2.2.2.1 k hk
    refine ⟨_, h.1.rm, _, h.1.l2, ?_⟩
    rw [h.1.n2]
    refine ⟨fun z => absurd z (nI_ge he (by omega)), fun _ => ⟨_, h.1.rm, _, h.1.l2, h.1.in2 he, _, h.1.ed he, _, h.1.ed he, ?_⟩⟩
    refine w_holding hk (fun y => b1 (h1 e he (hh.mpr y) hI)) (fun y => b0 (kk fun j hj => ?_))
    by_cases c : j = e
    · subst c; exact Classical.byContradiction fun z => y (hh.mp z)
    · exact hI j (by omega)
theorem c_acts (h : IV g A ob D n m ne np E) (k : ∀ g', NX A np g' → K g') : ∃ o, g (A rRm) = some (8, o) ∧ wp_X7_acts (A rRm) g (fun r => ∃ o, g (A rMd) = some (9, o) ∧ wp_X8_acts o (fun v o' => ∀ g2, g2 = hu g (A rMd) (9, o') → ((r = v → K g2) ∧ (¬ r = v → False)))) := by
  refine ⟨_, h.1.rm, _, h.1.rm, _, h.1.l1, _, h.md, ?_⟩
  rintro _ rfl _ rfl
  exact ⟨fun _ => k _ (h.t 0).nx, fun z => z (h.1.n1.trans h.n1.symm)⟩
theorem c_shapes (h : IV g A ob D n m ne np E) (k : ∀ g', NX A np g' → K g') : ∃ o, g (A rRm) = some (8, o) ∧ wp_X7_shapes (A rRm) g (fun r => ∃ o, g (A rMd) = some (9, o) ∧ wp_X8_shapes o (fun v o' => ∀ g2, g2 = hu g (A rMd) (9, o') → ((r = v → K g2) ∧ (¬ r = v → False)))) := by
  refine ⟨_, h.1.rm, _, h.1.rm, _, h.1.l0, _, h.md, ?_⟩
  rintro _ rfl _ rfl
  exact ⟨fun _ => k _ (h.t 0).nx, fun z => z (h.1.n0.trans h.n10.symm)⟩
theorem c_there (h : IV g A ob D n m ne np E) (k : ∀ g', NX A np g' → K g') : ∃ o, g (A rRm) = some (8, o) ∧ wp_X7_there (A rRm) g (fun r => ∃ o, g (A rMd) = some (9, o) ∧ wp_X8_there o (fun v o' => ∀ g2, g2 = hu g (A rMd) (9, o') → (((lg_cmp r v) = 0 → K g2) ∧ (¬ (lg_cmp r v) = 0 → False)))) := by
  obtain ⟨hV, hG, hM⟩ := h.bd
  refine ⟨_, h.1.rm, _, h.1.rm, _, h.1.bd, _, h.md, w_there h.n10 h.n40 hM.2.2.1 fun x hx => ?_⟩
  rintro _ rfl
  refine ⟨fun _ => k _ (h.t 0).nx, fun z => z (qcmp.mpr (bL_ext fun j hj => ?_))⟩
  rw [hV.1 j hj, hx j hj]
  by_cases c : j ∈ aO (abFold (ob rMd) m)
  · have := (h.abw.2 j c).1
    simp [c, this]
  · simp [c]
theorem c_house (h : IV g A ob D n m ne np E) (k : ∀ g', NX A np g' → K g') : ∃ o, g (A rRm) = some (8, o) ∧ wp_X7_house o (fun r => ∃ o, g (A rMd) = some (9, o) ∧ wp_X8_house o (fun v o' => ∀ g2, g2 = hu g (A rMd) (9, o') → ((r = v → K g2) ∧ (¬ r = v → False)))) := by
  refine ⟨_, h.1.rm, _, h.md, ?_⟩
  rintro _ rfl _ rfl
  exact ⟨fun _ => k _ (h.t 0).nx, fun z => z h.mo.2.2⟩
theorem c_isLive (h : IV g A ob D n m ne np E) (k : ∀ g', NX A np g' → K g') (p : Int32) {post : Int32 → GH → Prop} (hp : ∀ r g', (∃ o, g' (A rMd) = some (9, o) ∧ wp_X8_isLive p o (fun v o' => LWB (A rMd) (A rOut) K r v o' g')) → post r g') : wp_L_isLive (A rRm) p (A rOut) g post := by
  have m200 := h.m200
  by_cases hs : ∃ s, s < m ∧ p = nI s
  · obtain ⟨s, hs, rfl⟩ := hs
    have ha := h.ac.2 s hs
    have e5 : fI (ob (rAc s)) 5 = fA (ob rMd) 7 s := ha.2.2.2.2.2
    have e01 := (h.ac.1 s hs).2.2.2.1
    have hin : vp_in (nI s) 200 := vp_in_nI (by omega) (by decide)
    refine ⟨_, h.1.rm, _, h.1.rm, w_actT h.1 hs ⟨_, h.1.acA hs, ?_⟩⟩
    rw [e5]
    refine ⟨qn_b01 e01, fun z => ⟨_, h.out, ?_⟩, fun z => ⟨_, h.out, ?_⟩⟩
    · rintro _ rfl
      refine hp 0 _ ⟨_, h.mdo _, mAcT h.n1 m200 hs (b1 ?_)⟩
      rintro _ rfl
      refine ⟨fun y => absurd rfl y, fun _ => ⟨hin, ?_⟩⟩
      rw [qn_cl (by omega)]
      refine ⟨fun _ => ?_, fun y => absurd z y⟩
      have h2 := (h.o (sB (ob rOut) 0 0 0)).t 0
      rw [rup_om] at h2
      exact lw_vB rfl h.om hu_s (fun _ => rfl) (fun y => absurd rfl y) (k _ h2.nx)
    · rintro _ rfl
      refine hp 0 _ ⟨_, h.mdo _, mAcT h.n1 m200 hs (b1 ?_)⟩
      rintro _ rfl
      refine ⟨fun y => absurd rfl y, fun _ => ⟨hin, ?_⟩⟩
      rw [qn_cl (by omega)]
      refine ⟨fun y => absurd y z, fun _ => ?_⟩
      have h2 := (h.o (sB (ob rOut) 0 0 1)).t 0
      rw [rup_om] at h2
      exact lw_vB rfl h.om hu_s (fun y => absurd y (by decide)) (fun _ => rfl) (k _ h2.nx)
  · refine ⟨_, h.1.rm, _, h.1.rm, w_actF h.1 hs ⟨rfl, hp 1 _ ⟨_, h.md, mAcF h.n1 m200 hs (b0 ?_)⟩⟩⟩
    rintro _ rfl
    exact ⟨fun _ => lw_tB rfl (by decide) (k _ (h.t 1).nx), fun z => absurd (show (1 : Int32) = 0 from z) (by decide)⟩
theorem c_holder (h : IV g A ob D n m ne np E) (k : ∀ g', NX A np g' → K g') (p : Int32) {post : Int32 → GH → Prop} (hp : ∀ r g', (∃ o, g' (A rMd) = some (9, o) ∧ wp_X8_holder p o (fun v o' => LW (A rMd) (A rOut) K r v o' g')) → post r g') : wp_L_holder (A rRm) p (A rOut) g post := by
  have m200 := h.m200
  by_cases hs : ∃ s, s < m ∧ p = nI s
  · obtain ⟨s, hs, rfl⟩ := hs
    have fin : ∀ v : Int32, (∀ post : Int32 → Prop, post v → wp_X8_holderOf (nI s) (sI (ob rMd) 0 0) post) → post 0 (hu g (A rOut) (10, sB (ob rOut) 0 0 v.toInt64)) := fun v hv => by
      refine hp 0 _ ⟨_, h.mdo _, mAcT h.n1 m200 hs (b1 ?_)⟩
      rintro _ rfl
      exact t_ok rfl (hv _ (h.qV k rfl))
    refine ⟨_, h.1.rm, _, h.1.rm, w_actT h.1 hs ⟨_, h.1.rm, w_lowest h (by omega) (fun h0 => ⟨_, h.out, ?_⟩) (fun e he h1 h2 => ⟨_, h.out, ?_⟩)⟩⟩
    · rintro _ rfl
      exact fin (-1) fun post hpo => w_holderOf (o := sI (ob rMd) 0 0) h.n25 h.ne8 (by omega) (fun _ => hpo) (fun e he h1 _ => absurd (h0 e he) h1)
    · rintro _ rfl
      refine fin (nI e) fun post hpo => w_holderOf (o := sI (ob rMd) 0 0) h.n25 h.ne8 (by omega) (fun h0 => absurd (h0 e he) h1) (fun e' he' h1' h2' => ?_)
      have : e' = e := by
        rcases Nat.lt_trichotomy e' e with c | c | c
        · exact absurd (h2 e' c) h1'
        · exact c
        · exact absurd (h2' e c) h1
      rw [this]; exact hpo
  · refine ⟨_, h.1.rm, _, h.1.rm, w_actF h.1 hs ⟨rfl, hp 1 _ ⟨_, h.md, mAcF h.n1 m200 hs (b0 ?_)⟩⟩⟩
    rintro _ rfl
    exact t_no (Or.inl rfl) (h.qT k (by decide))
theorem c_place (h : IV g A ob D n m ne np E) (k : ∀ g', NX A np g' → K g') (p : Int32) {post : Int32 → GH → Prop} (hp : ∀ r g', (∃ o, g' (A rMd) = some (9, o) ∧ wp_X8_place p o (fun v o' => LW (A rMd) (A rOut) K r v o' g')) → post r g') : wp_L_place (A rRm) p (A rOut) g post := by
  have n40 := h.n40
  by_cases hs : ∃ s, s < n ∧ p = nI s
  · obtain ⟨s, hs, rfl⟩ := hs
    obtain ⟨hV, hG, hM⟩ := h.bd
    have hin : vp_in (nI s) 40 := vp_in_nI (by omega) (by decide)
    have e20 : fA (ob rMd) 20 s = if s ∈ aO (abFold (ob rMd) m) then 1 else 0 := hM.2.2.1 s (by omega)
    by_cases hi : s ∈ aO (abFold (ob rMd) m)
    · rw [if_pos hi] at e20
      obtain ⟨c0, c1, -⟩ := hV.2.1 s hi
      obtain ⟨x0, x1, -⟩ := hM.2.2.2.1 s hi
      refine ⟨_, h.1.rm, _, h.1.rm, w_shapeT h.1 hs ⟨_, h.1.rm, _, h.1.bd, w_hasT (by omega) hV hi (b1' ⟨_, h.1.rm, _, h.1.bd, _, h.1.bd, hin, _, h.1.rm, _, h.1.bd, _, h.1.bd, hin, _, h.out, ?_⟩)⟩⟩
      rw [qn_cl (by omega), c0, c1]
      rintro _ rfl
      refine hp 0 _ ⟨_, h.mdo _, mShT h.n10 n40 hs (b1 ?_)⟩
      rintro _ rfl
      refine t_ok rfl ⟨hin, ?_⟩
      rw [qn_cl (by omega)]
      refine ⟨fun z => absurd (e20.symm.trans z) (by decide), fun _ => ?_⟩
      rintro _ rfl
      rw [sI2]
      refine t_ok rfl ⟨hin, hin, ?_⟩
      rw [qn_cl (by omega)]
      refine h.qV k ?_
      show (10000 * aR (abFold (ob rMd) m) s + aC (abFold (ob rMd) m) s).toInt64 = (10000 * fA (ob rMd) 22 s + fA (ob rMd) 21 s).toInt64
      rw [x0, x1]
    · rw [if_neg hi] at e20
      refine ⟨_, h.1.rm, _, h.1.rm, w_shapeT h.1 hs ⟨_, h.1.rm, _, h.1.bd, w_hasF (by omega) hV hi (b0' (Or.inr ⟨rfl, hp 2 _ ⟨_, h.md, mShT h.n10 n40 hs (b1 ?_)⟩⟩))⟩⟩
      rintro _ rfl
      refine t_ok rfl ⟨hin, ?_⟩
      rw [qn_cl (by omega)]
      refine ⟨fun _ => ?_, fun z => absurd e20 z⟩
      rintro _ rfl
      rw [sI2]
      exact t_no (Or.inr (Or.inl rfl)) (h.qT k (by decide))
  · refine ⟨_, h.1.rm, _, h.1.rm, w_shapeF h.1 hs (Or.inl ⟨rfl, hp 1 _ ⟨_, h.md, mShF h.n10 n40 hs (b0 ?_)⟩⟩)⟩
    rintro _ rfl
    exact t_no (Or.inl rfl) (h.qT k (by decide))
theorem c_colour (h : IV g A ob D n m ne np E) (k : ∀ g', NX A np g' → K g') (p : Int32) {post : Int32 → GH → Prop} (hp : ∀ r g', (∃ o, g' (A rMd) = some (9, o) ∧ wp_X8_colour p o (fun v o' => LW (A rMd) (A rOut) K r v o' g')) → post r g') : wp_L_colour (A rRm) p (A rOut) g post := by
  have n40 := h.n40
  by_cases hs : ∃ s, s < n ∧ p = nI s
  · obtain ⟨s, hs, rfl⟩ := hs
    obtain ⟨hV, hG, hM⟩ := h.bd
    have hin : vp_in (nI s) 40 := vp_in_nI (by omega) (by decide)
    have e20 : fA (ob rMd) 20 s = if s ∈ aO (abFold (ob rMd) m) then 1 else 0 := hM.2.2.1 s (by omega)
    by_cases hi : s ∈ aO (abFold (ob rMd) m)
    · rw [if_pos hi] at e20
      obtain ⟨-, -, -, -, c4⟩ := hV.2.1 s hi
      obtain ⟨-, -, x2⟩ := hM.2.2.2.1 s hi
      refine ⟨_, h.1.rm, _, h.1.rm, w_shapeT h.1 hs ⟨_, h.1.rm, _, h.1.bd, w_hasT (by omega) hV hi (b1 ⟨_, h.1.rm, _, h.1.bd, _, h.1.bd, hin, _, h.out, ?_⟩)⟩⟩
      rw [qn_cl (by omega), c4]
      rintro _ rfl
      refine hp 0 _ ⟨_, h.mdo _, mShT h.n10 n40 hs (b1 ?_)⟩
      rintro _ rfl
      refine ⟨fun z => absurd (show (0 : Int32) < 0 from z) (by decide), fun _ => ⟨hin, ?_⟩⟩
      rw [qn_cl (by omega)]
      exact ⟨fun _ => ⟨hin, h.qV k (congrArg Int32.toInt64 x2.symm)⟩, fun z => absurd (e20.symm.trans z) (by decide)⟩
    · rw [if_neg hi] at e20
      refine ⟨_, h.1.rm, _, h.1.rm, w_shapeT h.1 hs ⟨_, h.1.rm, _, h.1.bd, w_hasF (by omega) hV hi (b0 ⟨_, h.out, ?_⟩)⟩⟩
      rintro _ rfl
      refine hp 0 _ ⟨_, h.mdo _, mShT h.n10 n40 hs (b1 ?_)⟩
      rintro _ rfl
      refine ⟨fun z => absurd (show (0 : Int32) < 0 from z) (by decide), fun _ => ⟨hin, ?_⟩⟩
      rw [qn_cl (by omega)]
      exact ⟨fun z => absurd e20 z, fun _ => h.qV k rfl⟩
  · refine ⟨_, h.1.rm, _, h.1.rm, w_shapeF h.1 hs ⟨rfl, hp 1 _ ⟨_, h.md, mShF h.n10 n40 hs (b0 ?_)⟩⟩⟩
    rintro _ rfl
    exact ⟨fun _ => h.qT k (by decide), fun z => absurd (show (0 : Int32) < 1 by decide) z⟩
theorem c_above (h : IV g A ob D n m ne np E) (k : ∀ g', NX A np g' → K g') (p : Int32) {post : Int32 → GH → Prop} (hp : ∀ r g', (∃ o, g' (A rMd) = some (9, o) ∧ wp_X8_above p o (fun v o' => LW (A rMd) (A rOut) K r v o' g')) → post r g') : wp_L_above (A rRm) p (A rOut) g post := by
  have n40 := h.n40
  by_cases hs : ∃ s, s < n ∧ p = nI s
  · obtain ⟨s, hs, rfl⟩ := hs
    obtain ⟨hV, hG, hM⟩ := h.bd
    have hO : ∀ j, j ∈ aO (abFold (ob rMd) m) → j < 40 := fun j hj => (h.abb j hj).1
    have hM' : MR (fI (sI (ob rMd) 0 0) 18) (fA (sI (ob rMd) 0 0) 19) (fA (sI (ob rMd) 0 0) 20) (fA (sI (ob rMd) 0 0) 21) (fA (sI (ob rMd) 0 0) 22) (fA (sI (ob rMd) 0 0) 23) (fA (sI (ob rMd) 0 0) 24) (abFold (ob rMd) m) := hM
    by_cases hi : s ∈ aO (abFold (ob rMd) m)
    · refine ⟨_, h.1.rm, _, h.1.rm, w_shapeT h.1 hs ⟨_, h.1.rm, _, h.1.bd, w_hasT (by omega) hV hi (b1 ⟨_, h.1.rm, _, h.1.bd, w_countBelow (by omega) hV ⟨_, h.out, ?_⟩⟩)⟩⟩
      rintro _ rfl
      refine hp 0 _ ⟨_, h.mdo _, mShT h.n10 n40 hs (b1 ?_)⟩
      rintro _ rfl
      refine w_aboveAt (o := sI (ob rMd) 0 0) (A := abFold (ob rMd) m) rfl hM' hO h.abw.1 (by omega) (fun i hi2 e => ?_) (fun z => absurd hi z)
      refine h.qV k ?_
      have := below_ct hV.2.2 h.abw.1 hO hi2
      rw [e] at this
      show Int32.toInt64 _ = _
      rw [this]
    · refine ⟨_, h.1.rm, _, h.1.rm, w_shapeT h.1 hs ⟨_, h.1.rm, _, h.1.bd, w_hasF (by omega) hV hi (b0 ⟨_, h.out, ?_⟩)⟩⟩
      rintro _ rfl
      refine hp 0 _ ⟨_, h.mdo _, mShT h.n10 n40 hs (b1 ?_)⟩
      rintro _ rfl
      refine w_aboveAt (o := sI (ob rMd) 0 0) (A := abFold (ob rMd) m) rfl hM' hO h.abw.1 (by omega) (fun i hi2 e => absurd (e ▸ gD_mem hi2) hi) (fun _ => h.qV k rfl)
  · refine ⟨_, h.1.rm, _, h.1.rm, w_shapeF h.1 hs ⟨rfl, hp 1 _ ⟨_, h.md, mShF h.n10 n40 hs (b0 ?_)⟩⟩⟩
    rintro _ rfl
    exact ⟨fun _ => h.qT k (by decide), fun _ => ⟨fun _ => h.qT k (by decide), fun z => absurd (show (1 : Int32) = 0 from z) (by decide)⟩⟩
theorem c_group (h : IV g A ob D n m ne np E) (k : ∀ g', NX A np g' → K g') (p : Int32) {post : Int32 → GH → Prop} (hp : ∀ r g', (∃ o, g' (A rMd) = some (9, o) ∧ wp_X8_group p o (fun v o' => LWL (A rMd) (A rOut) K r v o' g')) → post r g') : wp_L_group (A rRm) p (A rOut) g post := by
  have n40 := h.n40
  by_cases hs : ∃ s, s < n ∧ p = nI s
  · obtain ⟨s, hs, rfl⟩ := hs
    obtain ⟨hV, hG, hM⟩ := h.bd
    have hin : vp_in (nI s) 40 := vp_in_nI (by omega) (by decide)
    have hM' : MR (fI (sI (ob rMd) 0 0) 18) (fA (sI (ob rMd) 0 0) 19) (fA (sI (ob rMd) 0 0) 20) (fA (sI (ob rMd) 0 0) 21) (fA (sI (ob rMd) 0 0) 22) (fA (sI (ob rMd) 0 0) 23) (fA (sI (ob rMd) 0 0) 24) (abFold (ob rMd) m) := hM
    by_cases hi : s ∈ aO (abFold (ob rMd) m)
    · refine ⟨_, h.1.rm, _, h.1.rm, w_shapeT h.1 hs ⟨_, h.1.rm, _, h.1.bd, w_hasT (by omega) hV hi (b1 ⟨_, h.1.rm, _, h.1.bd, _, h.1.bd, hin, _, h.out, ?_⟩)⟩⟩
      rw [qn_cl (by omega)]
      rintro _ rfl
      refine hp 0 _ ⟨_, h.mdo _, mShT h.n10 n40 hs (b1 ?_)⟩
      rintro _ rfl
      refine w_groupSet (o := sI (ob rMd) 0 0) (A := abFold (ob rMd) m) h.n10 n40 rfl hM' hs (fun _ x hx => ?_) (fun z => absurd hi z)
      refine h.qVL k (bL_ext fun j hj => ?_)
      rw [hx j hj]
      show bL (fB (ob rBd) 6 s) j = _
      rw [hG.1 s hi j hj]
      by_cases c : j ∈ aO (abFold (ob rMd) m)
      · have := (h.abw.2 j c).1
        simp [c, this]
      · simp [c]
    · refine ⟨_, h.1.rm, _, h.1.rm, w_shapeT h.1 hs ⟨_, h.1.rm, _, h.1.bd, w_hasF (by omega) hV hi (b0 ⟨_, h.out, ?_⟩)⟩⟩
      rintro _ rfl
      refine hp 0 _ ⟨_, h.mdo _, mShT h.n10 n40 hs (b1 ?_)⟩
      rintro _ rfl
      exact w_groupSet (o := sI (ob rMd) 0 0) (A := abFold (ob rMd) m) h.n10 n40 rfl hM' hs (fun z => absurd z hi) (fun _ => h.qVL k rfl)
  · refine ⟨_, h.1.rm, _, h.1.rm, w_shapeF h.1 hs ⟨rfl, hp 1 _ ⟨_, h.md, mShF h.n10 n40 hs (b0 ?_)⟩⟩⟩
    rintro _ rfl
    exact ⟨fun _ => h.qTL k (by decide), fun _ => ⟨fun _ => h.qTL k (by decide), fun z => absurd (show (1 : Int32) = 0 from z) (by decide)⟩⟩
theorem m_cellF {p q : Int32} {w h : Nat} {P : Prop} {post : Int32 → Prop} (hw : 0 < w ∧ w < 1000) (hh : 0 < h ∧ h < 1000) (hp : ¬ ((∃ c, c < w ∧ p = nI c) ∧ ∃ r, r < h ∧ q = nI r)) (k : P) (k2 : post 0) :
    wp_X8_isIn p 0 (nI (w - 1)) (fun r1 => ((r1 = 0 → P) ∧ (¬ r1 = 0 → wp_X8_isIn q 0 (nI (h - 1)) post))) := by
  by_cases hc : ∃ c, c < w ∧ p = nI c
  · exact m_inT ((q_rng hw.1 (by omega)).mpr hc) (b1 (m_inF (fun z => hp ⟨hc, (q_rng hh.1 (by omega)).mp z⟩) k2))
  · exact m_inF (fun z => hc ((q_rng hw.1 (by omega)).mp z)) (b0 k)
theorem m_cellT {c r : Nat} {w h : Nat} {P : Prop} {post : Int32 → Prop} (hc : c < w) (hw : w < 1000) (hr : r < h) (hh : h < 1000) (k2 : post 1) :
    wp_X8_isIn (nI c) 0 (nI (w - 1)) (fun r1 => ((r1 = 0 → P) ∧ (¬ r1 = 0 → wp_X8_isIn (nI r) 0 (nI (h - 1)) post))) :=
  m_inT ((q_rng (by omega) (by omega)).mpr ⟨c, hc, rfl⟩) (b1 (m_inT ((q_rng (by omega) (by omega)).mpr ⟨r, hr, rfl⟩) k2))
theorem c_seen (h : IV g A ob D n m ne np E) (k : ∀ g', NX A np g' → K g') (p q : Int32) {post : Int32 → GH → Prop} (hp : ∀ r g', (∃ o, g' (A rMd) = some (9, o) ∧ wp_X8_seen p q o (fun v o' => LW (A rMd) (A rOut) K r v o' g')) → post r g') : wp_L_seen (A rRm) p q (A rOut) g post := by
  by_cases hs : (∃ c, c < 24 ∧ p = nI c) ∧ ∃ r, r < 16 ∧ q = nI r
  · obtain ⟨⟨c, hc, rfl⟩, r, hr, rfl⟩ := hs
    obtain ⟨hV, hG, hM⟩ := h.bd
    refine ⟨_, h.1.rm, w_cellT (w := 24) (h := 16) hc (by decide) hr (by decide) ⟨_, h.1.rm, _, h.1.rm, _, h.1.bd, w_uppermost hV (fun j hj => (h.abb j hj).1) ⟨_, h.out, ?_⟩⟩⟩
    rintro _ rfl
    refine hp 0 _ ⟨_, h.mdo _, m_cellT (w := 24) (h := 16) hc (by decide) hr (by decide) (b1 ?_)⟩
    rintro _ rfl
    refine t_ok rfl ?_
    exact w_seenAt (o := sI (ob rMd) 0 0) (D := bL (fL (ob rRm) 6)) (A := abFold (ob rMd) m) hM h.abb h.abw.1 h.dn (by omega) (by omega) (h.qV k rfl)
  · refine ⟨_, h.1.rm, w_cellF (w := 24) (h := 16) (by decide) (by decide) hs ⟨rfl, hp 1 _ ⟨_, h.md, m_cellF (w := 24) (h := 16) (by decide) (by decide) hs ?_ (b0 ?_)⟩⟩⟩
    · rintro _ rfl
      exact t_no (Or.inl rfl) (h.qT k (by decide))
    · rintro _ rfl
      exact t_no (Or.inl rfl) (h.qT k (by decide))
theorem IV.setSp (h : IV g A ob D n m ne np E) (x : FO) : IV (hu g (A rSp) (2, x)) A (rup ob rSp x) D n m ne np E :=
  ⟨h.1.set al_Sp x (c := 2) rfl (fun z => by rcases z with z | z <;> cases z) ⟨by decide, by decide⟩, h.2⟩
theorem c_seenAnew (h : IV g A ob D n m ne np E) (k : ∀ g', NX A np g' → K g') (p q : Int32) {post : Int32 → GH → Prop} (hp : ∀ r g', (∃ o, g' (A rMd) = some (9, o) ∧ wp_X8_seenAnew p q o (fun v o' => LW (A rMd) (A rOut) K r v o' g')) → post r g') : wp_L_seenAnew (A rRm) p q (A rOut) g post := by
  by_cases hs : (∃ c, c < 24 ∧ p = nI c) ∧ ∃ r, r < 16 ∧ q = nI r
  · obtain ⟨⟨c, hc, rfl⟩, r, hr, rfl⟩ := hs
    obtain ⟨hV, hG, hM⟩ := h.bd
    refine ⟨_, h.1.rm, w_cellT (w := 24) (h := 16) hc (by decide) hr (by decide) ⟨_, h.1.rm, _, h.1.rm, ?_⟩⟩
    rw [h.1.p5]
    refine w_doAll h.1 (Or.inr rfl) h.ac.2 h.sh.2 h.ac.1 h.sh.1 fun x hx1 hx2 => ?_
    have h' := h.setSp x
    have e1 : rup ob rSp x rRm = ob rRm := rup_k (by decide)
    have hrm := h'.1.rm
    have hsp := h'.1.sp
    rw [rup_s] at hsp
    have hout : hu g (A rSp) (2, x) (A rOut) = some (10, ob rOut) := by
      have := h'.out
      rwa [rup_k (show rOut.1 ≠ rSp.1 from (by decide : ¬ (11 : Nat) = 2))] at this
    have hmd : rup ob rSp x rMd = ob rMd := rup_k (by decide)
    refine ⟨_, hrm, _, hrm, _, hsp, ?_⟩
    rw [e1]
    refine w_uppermost hx1 (fun j hj => (h.abb j hj).1) ⟨_, hout, ?_⟩
    rintro _ rfl
    have hm2 := h'.mdo (sB (ob rOut) 0 0 (oI (topO (visS (bL (fL (ob rRm) 6)) (abFold (ob rMd) m) (fA (ob rMd) 12) (fA (ob rMd) 13) (nI c) (nI r)) (aO (abFold (ob rMd) m)))).toInt64)
    rw [hmd] at hm2
    refine hp 0 _ ⟨_, hm2, m_cellT (w := 24) (h := 16) hc (by decide) hr (by decide) (b1 ?_)⟩
    rintro _ rfl
    refine t_ok rfl ?_
    refine w_seenAt (o := sI (ob rMd) 0 0) (D := bL (fL (ob rRm) 6)) (A := abFold (ob rMd) m) hM h.abb h.abw.1 h.dn (by omega) (by omega) ?_
    have := h'.qV k (v := oI (topO (visS (bL (fL (ob rRm) 6)) (abFold (ob rMd) m) (fA (ob rMd) 12) (fA (ob rMd) 13) (nI c) (nI r)) (aO (abFold (ob rMd) m)))) (x := sB (ob rOut) 0 0 (oI (topO (visS (bL (fL (ob rRm) 6)) (abFold (ob rMd) m) (fA (ob rMd) 12) (fA (ob rMd) 13) (nI c) (nI r)) (aO (abFold (ob rMd) m)))).toInt64) rfl
    rw [hmd] at this
    exact this
  · refine ⟨_, h.1.rm, w_cellF (w := 24) (h := 16) (by decide) (by decide) hs ⟨rfl, hp 1 _ ⟨_, h.md, m_cellF (w := 24) (h := 16) (by decide) (by decide) hs ?_ (b0 ?_)⟩⟩⟩
    · rintro _ rfl
      exact t_no (Or.inl rfl) (h.qT k (by decide))
    · rintro _ rfl
      exact t_no (Or.inl rfl) (h.qT k (by decide))
end CQ
end
