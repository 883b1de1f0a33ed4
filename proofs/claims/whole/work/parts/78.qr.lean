section
/-! pure layer R: move, paint, layer, join, part, drop -/
theorem tl_S {o : FO} {m hd : Nat} {kd s x y : Int32} : abFold (tl o m hd kd s x y) (m + 1) = abStep (tl o m hd kd s x y) m (abFold o m) := by
  show (if fA (tl o m hd kd s x y) 7 m = 0 then _ else _) = _
  rw [tl_7, if_pos rfl, if_neg (by decide), tl_fold]
theorem fold_t {o : FO} {m : Nat} {c : Int32} : abFold (sI o 0 c) m = abFold o m := abFold_cong fun k _ => ⟨rfl, rfl, rfl, rfl, rfl, rfl, rfl, rfl⟩
theorem ct_group {ob : FO} {F : AB} {t n s b : Nat} (hG : CG ob F t) (hw : ABW n F b) (n40 : n ≤ 40) (hi : s ∈ aO F) : fb_ct (bL (fB ob 6 s)) 64 = fb_ct (fun k => decide (k ∈ aO F ∧ aL F k = aL F s)) n := by
  rw [fb_ct_cong fun k hk => hG.1 s hi k hk]
  exact fb_ct_ext (by omega) fun k h1 _ => decide_eq_false fun z => by have := (hw.2 k z.1).1; omega
theorem ct_there {ob : FO} {F : AB} {W H : Nat → Int32} {n b : Nat} (hV : CV ob F W H) (hw : ABW n F b) (n40 : n ≤ 40) : fb_ct (bL (fL ob 7)) 64 = (aO F).length := by
  rw [fb_ct_cong fun k hk => hV.1 k hk]
  exact fb_ct_list hw.1 fun k hk => by have := (hw.2 k hk).1; omega
section CR
variable {g : GH} {A : Rl → Nat} {ob : Rl → FO} {D : GD} {n m ne np : Nat} {E : Nat → AB} {K : GH → Prop}
theorem c_move (h : IV g A ob D n m ne np E) (k : ∀ g', NX A np g' → K g') (p q x y : Int32) {post : Int32 → GH → Prop} (hp : ∀ xx g', (∃ o, g' (A rMd) = some (9, o) ∧ wp_X8_move p q x y o (fun v o' => LW (A rMd) (A rOut) K xx v o' g')) → post xx g') : wp_L_move (A rRm) p q x y (A rOut) g post := by
  obtain ⟨hV, hG, hM⟩ := h.bd
  have n40 := h.n40
  have m200 := h.m200
  have T : ∀ c : Int32, (c = 1 ∨ c = 2) → wp_X8_move_48 p q x y (fun v o' => LW (A rMd) (A rOut) K c v o' g) c (ob rMd) := fun c hc => by
    rintro _ rfl
    exact t_no (hc.imp id Or.inl) (h.qT k (by rcases hc with rfl | rfl <;> decide))
  by_cases hh : ∃ hd, hd < 6 ∧ p = nI hd
  · obtain ⟨hd, hh, rfl⟩ := hh
    by_cases hs : ∃ s, s < n ∧ q = nI s
    · obtain ⟨s, hs, rfl⟩ := hs
      have e20 : fA (ob rMd) 20 s = if s ∈ aO (abFold (ob rMd) m) then 1 else 0 := hM.2.2.1 s (by omega)
      have e17 := h.dn s (by omega)
      by_cases hx : ¬ x < -24 ∧ ¬ 24 < x
      · by_cases hy : ¬ y < -16 ∧ ¬ 16 < y
        · by_cases hc : s ∈ aO (abFold (ob rMd) m) ∧ bL (fL (ob rRm) 6) s = false ∧ m < 200
          · have rx : (-24 ≤ x.toInt ∧ x.toInt ≤ 24) ∧ (-16 ≤ y.toInt ∧ y.toInt ≤ 16) := by
              rw [q_lt, q_lt] at hx hy
              have a1 : (-24 : Int32).toInt = -24 := by decide
              have a2 : (-16 : Int32).toInt = -16 := by decide
              have a3 : (16 : Int32).toInt = 16 := by decide
              have a4 := q_24
              omega
            refine ⟨_, h.1.rm, w_handT hh ⟨_, h.1.rm, w_shapeT h.1 hs (w_rangeT hx (w_rangeT hy ⟨_, h.1.rm, w_canT h.1 hV (by omega) hc fun a8 ha => ?_⟩))⟩⟩
            refine cl_tell (o0 := sI (ob rMd) 0 0) (x := x) (y := y) h.1 (h.2.thr 0) ha hh hc.2.2 ⟨s, hs, rfl⟩ ⟨1, by decide, rfl⟩ (fun _ => rx) (fun z => absurd z (by decide)) (fun z => absurd z (by decide)) (fun _ => rfl) (fun _ => rfl) fun g' A' ob' D' hQ eA eO hA cV cG hCT => ?_
            have hrm := hQ.rm
            rw [eA.1] at hrm
            have hout := hQ.out
            rw [eA.2.2, eO.2.2] at hout
            have hmd := hQ.md
            rw [eA.2.1, eO.2.1] at hmd
            have hmo : ∀ xo, hu g' (A rOut) (10, xo) (A rMd) = some (9, ob rMd) := fun xo => by rw [hu_n (fun z => h.om z.symm)]; exact hmd
            have hw' := (abFold_ok (m := m + 1) (by omega) n40 hA (WFS_tl h.sh.1) (m + 1) (Nat.le_refl _)).1
            have eF : aO (abFold (tl (sI (ob rMd) 0 0) m hd 1 (nI s) x y) (m + 1)) = aO (abFold (ob rMd) m) := by
              rw [tl_S, fold_t, abS_1 (s := s) (by rw [tl_2, if_pos rfl]; rfl) (by rw [tl_4, if_pos rfl]) (by omega) hc.1]
              rfl
            have hi' : s ∈ aO (abFold (tl (sI (ob rMd) 0 0) m hd 1 (nI s) x y) (m + 1)) := by rw [eF]; exact hc.1
            refine ⟨_, hrm, _, hQ.bd, w_groupSize (by omega) cV hi' ⟨_, hout, ?_⟩⟩
            rintro _ rfl
            refine hp 0 _ ⟨_, hmo _, m_hand1 hh (b1 (mShT h.n10 n40 hs (b1' (m_inT hx (b1 (m_inT hy (b1 ?_)))))))⟩
            rintro _ rfl
            refine t_ok rfl (mCanT (o := sI (ob rMd) 0 0) (F := abFold (ob rMd) m) (b := bL (fL (ob rRm) 6) s) (by omega) e20 e17 h.n1 hc (b1 ?_))
            rintro _ rfl
            rw [sI2]
            refine t_ok rfl (w_tells (o := sI (ob rMd) 0 0) (n := n) h.n1 hc.2.2 hh h.n10 n40 hA h.sh.1 (h20_of hM.2.2.1 h.abw) fun q g19 g20 g21 g22 g23 g24 hM' => ?_)
            refine w_inGroup (o := brd (tl (sI (ob rMd) 0 0) m hd 1 (nI s) x y) q g19 g20 g21 g22 g23 g24) (n := n) h.n10 n40 hM' hi' hs ?_
            exact h.uV k hQ eA (Nat.le_succ _) rfl (congrArg (fun z => (nI z).toInt64) (ct_group cG hw' n40 hi')) (hCT _ _ _ _ _ _ _ hM')
          · refine ⟨_, h.1.rm, w_handT hh ⟨_, h.1.rm, w_shapeT h.1 hs (w_rangeT hx (w_rangeT hy ⟨_, h.1.rm, w_canF h.1 hV (by omega) hc (Or.inr (Or.inr ⟨rfl, hp 3 _ ⟨_, h.md, m_hand1 hh (b1 (mShT h.n10 n40 hs (b1' (m_inT hx (b1 (m_inT hy (b1 ?_)))))))⟩⟩))⟩))⟩⟩
            rintro _ rfl
            refine t_ok rfl (mCanF (o := sI (ob rMd) 0 0) (F := abFold (ob rMd) m) (b := bL (fL (ob rRm) 6) s) (by omega) e20 e17 h.n1 m200 hc (b0 ?_))
            rintro _ rfl
            rw [sI2]
            exact t_no (Or.inr (Or.inr rfl)) (h.qT k (by decide))
        · exact ⟨_, h.1.rm, w_handT hh ⟨_, h.1.rm, w_shapeT h.1 hs (w_rangeT hx (w_rangeF hy (Or.inr (Or.inl ⟨rfl, hp 2 _ ⟨_, h.md, m_hand1 hh (b1 (mShT h.n10 n40 hs (b1' (m_inT hx (b1 (m_inF hy (b0 (T 2 (Or.inr rfl)))))))))⟩⟩))))⟩⟩
      · exact ⟨_, h.1.rm, w_handT hh ⟨_, h.1.rm, w_shapeT h.1 hs (w_rangeF hx (Or.inr (Or.inl ⟨rfl, hp 2 _ ⟨_, h.md, m_hand1 hh (b1 (mShT h.n10 n40 hs (b1' (m_inF hx (b0 (T 2 (Or.inr rfl)))))))⟩⟩)))⟩⟩
    · exact ⟨_, h.1.rm, w_handT hh ⟨_, h.1.rm, w_shapeF h.1 hs (Or.inl ⟨rfl, hp 1 _ ⟨_, h.md, m_hand1 hh (b1 (mShF h.n10 n40 hs (b0' (T 1 (Or.inl rfl)))))⟩⟩)⟩⟩
  · exact ⟨_, h.1.rm, w_handF hh (Or.inl ⟨rfl, hp 1 _ ⟨_, h.md, m_hand0 hh (b0 (T 1 (Or.inl rfl)))⟩⟩)⟩
theorem c_paint (h : IV g A ob D n m ne np E) (k : ∀ g', NX A np g' → K g') (p q x : Int32) {post : Int32 → GH → Prop} (hp : ∀ xx g', (∃ o, g' (A rMd) = some (9, o) ∧ wp_X8_paint p q x o (fun v o' => LW (A rMd) (A rOut) K xx v o' g')) → post xx g') : wp_L_paint (A rRm) p q x (A rOut) g post := by
  obtain ⟨hV, hG, hM⟩ := h.bd
  have n40 := h.n40
  have m200 := h.m200
  have T : ∀ c : Int32, (c = 1 ∨ c = 2) → wp_X8_paint_35 p q x (fun v o' => LW (A rMd) (A rOut) K c v o' g) c (ob rMd) := fun c hc => by
    rintro _ rfl
    exact t_no (hc.imp id Or.inl) (h.qT k (by rcases hc with rfl | rfl <;> decide))
  by_cases hh : ∃ hd, hd < 6 ∧ p = nI hd
  · obtain ⟨hd, hh, rfl⟩ := hh
    by_cases hs : ∃ s, s < n ∧ q = nI s
    · obtain ⟨s, hs, rfl⟩ := hs
      have e20 : fA (ob rMd) 20 s = if s ∈ aO (abFold (ob rMd) m) then 1 else 0 := hM.2.2.1 s (by omega)
      have e17 := h.dn s (by omega)
      have hin : vp_in (nI s) 40 := vp_in_nI (by omega) (by decide)
      by_cases hx : ¬ x < 1 ∧ ¬ 9 < x
      · by_cases hc : s ∈ aO (abFold (ob rMd) m) ∧ bL (fL (ob rRm) 6) s = false ∧ m < 200
        · obtain ⟨-, -, -, -, c4⟩ := hV.2.1 s hc.1
          obtain ⟨-, -, x2⟩ := hM.2.2.2.1 s hc.1
          refine ⟨_, h.1.rm, w_handT hh ⟨_, h.1.rm, w_shapeT h.1 hs (w_rangeT hx ⟨_, h.1.rm, w_canT h.1 hV (by omega) hc ⟨_, h.1.rm, _, h.1.bd, _, h.1.bd, hin, fun a8 ha => ?_⟩⟩)⟩⟩
          refine cl_tell (o0 := sI (ob rMd) 0 0) (x := x) (y := 0) h.1 (h.2.thr 0) ha hh hc.2.2 ⟨s, hs, rfl⟩ ⟨2, by decide, rfl⟩ (fun z => absurd z (by decide)) (fun z => absurd z (by decide)) (fun z => absurd z (by decide)) (fun _ => rfl) (fun z => absurd z (by decide)) fun g' A' ob' D' hQ eA eO hA cV cG hCT => ?_
          have hrm := hQ.rm
          rw [eA.1] at hrm
          have hout := hQ.out
          rw [eA.2.2, eO.2.2] at hout
          have hmd := hQ.md
          rw [eA.2.1, eO.2.1] at hmd
          have hmo : ∀ xo, hu g' (A rOut) (10, xo) (A rMd) = some (9, ob rMd) := fun xo => by rw [hu_n (fun z => h.om z.symm)]; exact hmd
          have hw' := (abFold_ok (m := m + 1) (by omega) n40 hA (WFS_tl h.sh.1) (m + 1) (Nat.le_refl _)).1
          refine ⟨_, hout, ?_⟩
          rintro _ rfl
          refine hp 0 _ ⟨_, hmo _, m_hand1 hh (b1 (mShT h.n10 n40 hs (b1' (m_inT hx (b1 ?_)))))⟩
          rintro _ rfl
          refine t_ok rfl (mCanT (o := sI (ob rMd) 0 0) (F := abFold (ob rMd) m) (b := bL (fL (ob rRm) 6) s) (by omega) e20 e17 h.n1 hc (b1 ?_))
          rintro _ rfl
          rw [sI2]
          refine t_ok rfl ⟨hin, w_tells (o := sI (ob rMd) 0 0) (n := n) h.n1 hc.2.2 hh h.n10 n40 hA h.sh.1 (h20_of hM.2.2.1 h.abw) fun q g19 g20 g21 g22 g23 g24 hM' => ?_⟩
          refine h.uV k hQ eA (Nat.le_succ _) rfl ?_ (hCT _ _ _ _ _ _ _ hM')
          show (fA (ob rBd) 4 (nI s).toNatClampNeg).toInt64 = (fA (ob rMd) 23 (nI s).toNatClampNeg).toInt64
          rw [qn_cl (by omega), c4, x2]
        · refine ⟨_, h.1.rm, w_handT hh ⟨_, h.1.rm, w_shapeT h.1 hs (w_rangeT hx ⟨_, h.1.rm, w_canF h.1 hV (by omega) hc (Or.inr (Or.inr ⟨rfl, hp 3 _ ⟨_, h.md, m_hand1 hh (b1 (mShT h.n10 n40 hs (b1' (m_inT hx (b1 ?_)))))⟩⟩))⟩)⟩⟩
          rintro _ rfl
          refine t_ok rfl (mCanF (o := sI (ob rMd) 0 0) (F := abFold (ob rMd) m) (b := bL (fL (ob rRm) 6) s) (by omega) e20 e17 h.n1 m200 hc (b0 ?_))
          rintro _ rfl
          rw [sI2]
          exact t_no (Or.inr (Or.inr rfl)) (h.qT k (by decide))
      · exact ⟨_, h.1.rm, w_handT hh ⟨_, h.1.rm, w_shapeT h.1 hs (w_rangeF hx (Or.inr (Or.inl ⟨rfl, hp 2 _ ⟨_, h.md, m_hand1 hh (b1 (mShT h.n10 n40 hs (b1' (m_inF hx (b0 (T 2 (Or.inr rfl)))))))⟩⟩)))⟩⟩
    · exact ⟨_, h.1.rm, w_handT hh ⟨_, h.1.rm, w_shapeF h.1 hs (Or.inl ⟨rfl, hp 1 _ ⟨_, h.md, m_hand1 hh (b1 (mShF h.n10 n40 hs (b0' (T 1 (Or.inl rfl)))))⟩⟩)⟩⟩
  · exact ⟨_, h.1.rm, w_handF hh (Or.inl ⟨rfl, hp 1 _ ⟨_, h.md, m_hand0 hh (b0 (T 1 (Or.inl rfl)))⟩⟩)⟩
/-- what an act that names a hand and a shape alone throws -/
theorem m_names1 (h : IV g A ob D n m ne np E) {p q : Int32} {post : Int32 → Prop} (hx : ¬ ((∃ hd, hd < 6 ∧ p = nI hd) ∧ ∃ s, s < n ∧ q = nI s)) (k : post 1) : wp_X8_names p q (ob rMd) post := by
  by_cases hh : ∃ hd, hd < 6 ∧ p = nI hd
  · obtain ⟨hd, hh, rfl⟩ := hh
    exact m_hand1 hh (b1 (mShF h.n10 h.n40 (fun z => hx ⟨⟨hd, hh, rfl⟩, z⟩) (b0' k)))
  · exact m_hand0 hh (b0 k)
theorem m_names2 (h : IV g A ob D n m ne np E) {hd s : Nat} {post : Int32 → Prop} (hh : hd < 6) (hs : s < n) (hc : ¬ (s ∈ aO (abFold (ob rMd) m) ∧ bL (fL (ob rRm) 6) s = false ∧ m < 200)) (k : post 2) : wp_X8_names (nI hd) (nI s) (ob rMd) post := by
  have n40 := h.n40
  exact m_hand1 hh (b1 (mShT h.n10 n40 hs (b1' (mCanF (F := abFold (ob rMd) m) (b := bL (fL (ob rRm) 6) s) (by omega) (h.bd.2.2.2.2.1 s (by omega)) (h.dn s (by omega)) h.n1 h.m200 hc (b0 k)))))
theorem m_names0 (h : IV g A ob D n m ne np E) {hd s : Nat} {post : Int32 → Prop} (hh : hd < 6) (hs : s < n) (hc : s ∈ aO (abFold (ob rMd) m) ∧ bL (fL (ob rRm) 6) s = false ∧ m < 200) (k : post 0) : wp_X8_names (nI hd) (nI s) (ob rMd) post := by
  have n40 := h.n40
  exact m_hand1 hh (b1 (mShT h.n10 n40 hs (b1' (mCanT (F := abFold (ob rMd) m) (b := bL (fL (ob rRm) 6) s) (by omega) (h.bd.2.2.2.2.1 s (by omega)) (h.dn s (by omega)) h.n1 hc (b1 k)))))
/-- the class: hand and shape -/
theorem c_names (h : IV g A ob D n m ne np E) {p q : Int32} {P : Prop} {px : String → Prop} (k1 : ¬ ((∃ hd, hd < 6 ∧ p = nI hd) ∧ ∃ s, s < n ∧ q = nI s) → px "java/lang/IndexOutOfBoundsException") (k2 : ∀ hd s, hd < 6 → s < n → p = nI hd → q = nI s → ¬ (s ∈ aO (abFold (ob rMd) m) ∧ bL (fL (ob rRm) 6) s = false ∧ m < 200) → px "java/lang/IllegalStateException")
    (k0 : ∀ hd s, hd < 6 → s < n → p = nI hd → q = nI s → (s ∈ aO (abFold (ob rMd) m) ∧ bL (fL (ob rRm) 6) s = false ∧ m < 200) → P) :
    wp_X7_checkHand p (∃ o2, g (A rRm) = some (8, o2) ∧ wp_X7_checkShape (A rRm) q g (∃ o5, g (A rRm) = some (8, o5) ∧ wp_X7_checkCanAct (A rRm) q g P px) px) px := by
  have n40 := h.n40
  by_cases hh : ∃ hd, hd < 6 ∧ p = nI hd
  · obtain ⟨hd, hh, rfl⟩ := hh
    by_cases hs : ∃ s, s < n ∧ q = nI s
    · obtain ⟨s, hs, rfl⟩ := hs
      by_cases hc : s ∈ aO (abFold (ob rMd) m) ∧ bL (fL (ob rRm) 6) s = false ∧ m < 200
      · exact w_handT hh ⟨_, h.1.rm, w_shapeT h.1 hs ⟨_, h.1.rm, w_canT h.1 h.bd.1 (by omega) hc (k0 hd s hh hs rfl rfl hc)⟩⟩
      · exact w_handT hh ⟨_, h.1.rm, w_shapeT h.1 hs ⟨_, h.1.rm, w_canF h.1 h.bd.1 (by omega) hc (k2 hd s hh hs rfl rfl hc)⟩⟩
    · exact w_handT hh ⟨_, h.1.rm, w_shapeF h.1 hs (k1 fun z => hs z.2)⟩
  · exact w_handF hh (k1 fun z => hh z.1)
theorem c_drop (h : IV g A ob D n m ne np E) (k : ∀ g', NX A np g' → K g') (p q : Int32) {post : Int32 → GH → Prop} (hp : ∀ xx g', (∃ o, g' (A rMd) = some (9, o) ∧ wp_X8_drop p q o (fun v o' => LW (A rMd) (A rOut) K xx v o' g')) → post xx g') : wp_L_drop (A rRm) p q (A rOut) g post := by
  obtain ⟨hV, hG, hM⟩ := h.bd
  have n40 := h.n40
  have m200 := h.m200
  refine ⟨_, h.1.rm, c_names h (fun hx => Or.inl ⟨rfl, hp 1 _ ⟨_, h.md, m_names1 h hx ?_⟩⟩) (fun hd s hh hs ep eq hc => Or.inr ⟨rfl, hp 2 _ ⟨_, h.md, ?_⟩⟩) (fun hd s hh hs ep eq hc => ?_)⟩
  · rintro _ rfl
    exact t_no (Or.inl rfl) (h.qT k (by decide))
  · subst ep eq
    refine m_names2 h hh hs hc ?_
    rintro _ rfl
    exact t_no (Or.inr (Or.inl rfl)) (h.qT k (by decide))
  · subst ep eq
    intro a8 ha
    refine cl_tell (o0 := sI (ob rMd) 0 0) (x := 0) (y := 0) h.1 (h.2.thr 0) ha hh hc.2.2 ⟨s, hs, rfl⟩ ⟨7, by decide, rfl⟩ (fun z => absurd z (by decide)) (fun z => absurd z (by decide)) (fun z => absurd z (by decide)) (fun z => absurd z (by decide)) (fun z => absurd z (by decide)) fun g' A' ob' D' hQ eA eO hA cV cG hCT => ?_
    have hrm := hQ.rm
    rw [eA.1] at hrm
    have hout := hQ.out
    rw [eA.2.2, eO.2.2] at hout
    have hmd := hQ.md
    rw [eA.2.1, eO.2.1] at hmd
    have hmo : ∀ xo, hu g' (A rOut) (10, xo) (A rMd) = some (9, ob rMd) := fun xo => by rw [hu_n (fun z => h.om z.symm)]; exact hmd
    have hw' := (abFold_ok (m := m + 1) (by omega) n40 hA (WFS_tl h.sh.1) (m + 1) (Nat.le_refl _)).1
    refine ⟨_, hrm, _, hQ.bd, q_bc ⟨_, hout, ?_⟩⟩
    rintro _ rfl
    refine hp 0 _ ⟨_, hmo _, m_names0 h hh hs hc ?_⟩
    rintro _ rfl
    refine t_ok rfl (w_tells (o := sI (ob rMd) 0 0) (n := n) h.n1 hc.2.2 hh h.n10 n40 hA h.sh.1 (h20_of hM.2.2.1 h.abw) fun q g19 g20 g21 g22 g23 g24 hM' => ?_)
    refine h.uV k hQ eA (Nat.le_succ _) rfl ?_ (hCT _ _ _ _ _ _ _ hM')
    show (nI _).toInt64 = Int32.toInt64 q
    rw [hM'.1, ct_there cV hw' n40]
theorem c_layer (h : IV g A ob D n m ne np E) (k : ∀ g', NX A np g' → K g') (p q x : Int32) {post : Int32 → GH → Prop} (hp : ∀ xx g', (∃ o, g' (A rMd) = some (9, o) ∧ wp_X8_layer p q x o (fun v o' => LW (A rMd) (A rOut) K xx v o' g')) → post xx g') : wp_L_layer (A rRm) p q x (A rOut) g post := by
  obtain ⟨hV, hG, hM⟩ := h.bd
  have n40 := h.n40
  have m200 := h.m200
  refine ⟨_, h.1.rm, c_names h (fun hx => Or.inl ⟨rfl, hp 1 _ ⟨_, h.md, m_names1 h hx ?_⟩⟩) (fun hd s hh hs ep eq hc => Or.inr ⟨rfl, hp 2 _ ⟨_, h.md, ?_⟩⟩) (fun hd s hh hs ep eq hc => ?_)⟩
  · rintro _ rfl
    exact t_no (Or.inl rfl) (h.qT k (by decide))
  · subst ep eq
    refine m_names2 h hh hs hc ?_
    rintro _ rfl
    exact t_no (Or.inr (Or.inl rfl)) (h.qT k (by decide))
  · subst ep eq
    intro a8 ha g9 e9
    refine ⟨fun hx => ?_, fun hx => ?_⟩
    · revert g9
      refine cl_tell (o0 := sI (ob rMd) 0 0) (x := 0) (y := 0) h.1 (h.2.thr 0) ha hh hc.2.2 ⟨s, hs, rfl⟩ ⟨4, by decide, rfl⟩ (fun z => absurd z (by decide)) (fun z => absurd z (by decide)) (fun z => absurd z (by decide)) (fun z => absurd z (by decide)) (fun z => absurd z (by decide)) fun g' A' ob' D' hQ eA eO hA cV cG hCT => ?_
      have hrm := hQ.rm
      rw [eA.1] at hrm
      have hout := hQ.out
      rw [eA.2.2, eO.2.2] at hout
      have hmd := hQ.md
      rw [eA.2.1, eO.2.1] at hmd
      have hmo : ∀ xo, hu g' (A rOut) (10, xo) (A rMd) = some (9, ob rMd) := fun xo => by rw [hu_n (fun z => h.om z.symm)]; exact hmd
      have hw' := (abFold_ok (m := m + 1) (by omega) n40 hA (WFS_tl h.sh.1) (m + 1) (Nat.le_refl _)).1
      refine ⟨_, hrm, _, hQ.bd, q_bc ⟨_, hout, ?_⟩⟩
      rintro _ rfl
      refine hp 0 _ ⟨_, hmo _, m_names0 h hh hs hc ?_⟩
      rintro _ rfl
      refine t_ok rfl ?_
      refine br_t hx (w_tells (o := sI (ob rMd) 0 0) (n := n) h.n1 hc.2.2 hh h.n10 n40 hA h.sh.1 (h20_of hM.2.2.1 h.abw) fun q g19 g20 g21 g22 g23 g24 hM' => ?_)
      refine h.uV k hQ eA (Nat.le_succ _) rfl ?_ (hCT _ _ _ _ _ _ _ hM')
      show (nI _).toInt64 = Int32.toInt64 q
      rw [hM'.1, ct_there cV hw' n40]
    · revert g9
      refine cl_tell (o0 := sI (ob rMd) 0 0) (x := 0) (y := 0) h.1 (h.2.thr 0) ha hh hc.2.2 ⟨s, hs, rfl⟩ ⟨3, by decide, rfl⟩ (fun z => absurd z (by decide)) (fun z => absurd z (by decide)) (fun z => absurd z (by decide)) (fun z => absurd z (by decide)) (fun z => absurd z (by decide)) fun g' A' ob' D' hQ eA eO hA cV cG hCT => ?_
      have hrm := hQ.rm
      rw [eA.1] at hrm
      have hout := hQ.out
      rw [eA.2.2, eO.2.2] at hout
      have hmd := hQ.md
      rw [eA.2.1, eO.2.1] at hmd
      have hmo : ∀ xo, hu g' (A rOut) (10, xo) (A rMd) = some (9, ob rMd) := fun xo => by rw [hu_n (fun z => h.om z.symm)]; exact hmd
      have hw' := (abFold_ok (m := m + 1) (by omega) n40 hA (WFS_tl h.sh.1) (m + 1) (Nat.le_refl _)).1
      refine ⟨_, hrm, _, hQ.bd, q_bc ⟨_, hout, ?_⟩⟩
      rintro _ rfl
      refine hp 0 _ ⟨_, hmo _, m_names0 h hh hs hc ?_⟩
      rintro _ rfl
      refine t_ok rfl ?_
      refine br_f hx (w_tells (o := sI (ob rMd) 0 0) (n := n) h.n1 hc.2.2 hh h.n10 n40 hA h.sh.1 (h20_of hM.2.2.1 h.abw) fun q g19 g20 g21 g22 g23 g24 hM' => ?_)
      refine h.uV k hQ eA (Nat.le_succ _) rfl ?_ (hCT _ _ _ _ _ _ _ hM')
      show (nI _).toInt64 = Int32.toInt64 q
      rw [hM'.1, ct_there cV hw' n40]
theorem c_part (h : IV g A ob D n m ne np E) (k : ∀ g', NX A np g' → K g') (p q : Int32) {post : Int32 → GH → Prop} (hp : ∀ xx g', (∃ o, g' (A rMd) = some (9, o) ∧ wp_X8_part p q o (fun v o' => LW (A rMd) (A rOut) K xx v o' g')) → post xx g') : wp_L_part (A rRm) p q (A rOut) g post := by
  obtain ⟨hV, hG, hM⟩ := h.bd
  have n40 := h.n40
  have m200 := h.m200
  refine ⟨_, h.1.rm, c_names h (fun hx => Or.inl ⟨rfl, hp 1 _ ⟨_, h.md, m_names1 h hx ?_⟩⟩) (fun hd s hh hs ep eq hc => Or.inr ⟨rfl, hp 2 _ ⟨_, h.md, ?_⟩⟩) (fun hd s hh hs ep eq hc => ?_)⟩
  · rintro _ rfl
    exact t_no (Or.inl rfl) (h.qT k (by decide))
  · subst ep eq
    refine m_names2 h hh hs hc ?_
    rintro _ rfl
    exact t_no (Or.inr (Or.inl rfl)) (h.qT k (by decide))
  · subst ep eq
    refine ⟨_, h.1.rm, _, h.1.bd, w_groupSize (by omega) hV hc.1 fun a8 ha => ?_⟩
    refine cl_tell (o0 := sI (ob rMd) 0 0) (x := 0) (y := 0) h.1 (h.2.thr 0) ha hh hc.2.2 ⟨s, hs, rfl⟩ ⟨6, by decide, rfl⟩ (fun z => absurd z (by decide)) (fun z => absurd z (by decide)) (fun z => absurd z (by decide)) (fun z => absurd z (by decide)) (fun z => absurd z (by decide)) fun g' A' ob' D' hQ eA eO hA cV cG hCT => ?_
    have hrm := hQ.rm
    rw [eA.1] at hrm
    have hout := hQ.out
    rw [eA.2.2, eO.2.2] at hout
    have hmd := hQ.md
    rw [eA.2.1, eO.2.1] at hmd
    have hmo : ∀ xo, hu g' (A rOut) (10, xo) (A rMd) = some (9, ob rMd) := fun xo => by rw [hu_n (fun z => h.om z.symm)]; exact hmd
    have hw' := (abFold_ok (m := m + 1) (by omega) n40 hA (WFS_tl h.sh.1) (m + 1) (Nat.le_refl _)).1
    refine ⟨_, hout, ?_⟩
    rintro _ rfl
    refine hp 0 _ ⟨_, hmo _, m_names0 h hh hs hc ?_⟩
    rintro _ rfl
    refine t_ok rfl (w_inGroup (o := sI (ob rMd) 0 0) (n := n) h.n10 n40 hM hc.1 hs ?_)
    refine w_tells (o := sI (ob rMd) 0 0) (n := n) h.n1 hc.2.2 hh h.n10 n40 hA h.sh.1 (h20_of hM.2.2.1 h.abw) fun q g19 g20 g21 g22 g23 g24 hM' => ?_
    exact h.uV k hQ eA (Nat.le_succ _) rfl (congrArg (fun z => (nI z - 1).toInt64) (ct_group hG h.abw n40 hc.1)) (hCT _ _ _ _ _ _ _ hM')
theorem c_join (h : IV g A ob D n m ne np E) (k : ∀ g', NX A np g' → K g') (p q r : Int32) {post : Int32 → GH → Prop} (hp : ∀ xx g', (∃ o, g' (A rMd) = some (9, o) ∧ wp_X8_join p q r o (fun v o' => LW (A rMd) (A rOut) K xx v o' g')) → post xx g') : wp_L_join (A rRm) p q r (A rOut) g post := by
  obtain ⟨hV, hG, hM⟩ := h.bd
  have n40 := h.n40
  have m200 := h.m200
  have T : ∀ c : Int32, (c = 1 ∨ c = 2) → wp_X8_join_38 p q r (fun v o' => LW (A rMd) (A rOut) K c v o' g) c (ob rMd) := fun c hc => by
    rintro _ rfl
    exact t_no (hc.imp id Or.inl) (h.qT k (by rcases hc with rfl | rfl <;> decide))
  by_cases hh : ∃ hd, hd < 6 ∧ p = nI hd
  · obtain ⟨hd, hh, rfl⟩ := hh
    by_cases hs : ∃ s, s < n ∧ q = nI s
    · obtain ⟨s, hs, rfl⟩ := hs
      by_cases ht : ∃ t, t < n ∧ r = nI t
      · obtain ⟨t, ht, rfl⟩ := ht
        have e20 : fA (ob rMd) 20 s = if s ∈ aO (abFold (ob rMd) m) then 1 else 0 := hM.2.2.1 s (by omega)
        have e17 := h.dn s (by omega)
        have f20 : fA (ob rMd) 20 t = if t ∈ aO (abFold (ob rMd) m) then 1 else 0 := hM.2.2.1 t (by omega)
        have f17 := h.dn t (by omega)
        by_cases hst : nI s = nI t
        · exact ⟨_, h.1.rm, w_handT hh ⟨_, h.1.rm, w_shapeT h.1 hs ⟨_, h.1.rm, w_shapeT h.1 ht (br_t' hst (Or.inr (Or.inl ⟨rfl, hp 2 _ ⟨_, h.md, m_hand1 hh (b1 (mShT h.n10 n40 hs (b1 (mShT h.n10 n40 ht (b1' (br_t' hst (T 2 (Or.inr rfl))))))))⟩⟩)))⟩⟩⟩
        · have hst2 : ¬ s = t := fun z => hst (by rw [z])
          by_cases hc : s ∈ aO (abFold (ob rMd) m) ∧ bL (fL (ob rRm) 6) s = false ∧ m < 200
          · by_cases hc2 : t ∈ aO (abFold (ob rMd) m) ∧ bL (fL (ob rRm) 6) t = false ∧ m < 200
            · refine ⟨_, h.1.rm, w_handT hh ⟨_, h.1.rm, w_shapeT h.1 hs ⟨_, h.1.rm, w_shapeT h.1 ht (br_f' hst ⟨_, h.1.rm, w_canT h.1 hV (by omega) hc ⟨_, h.1.rm, w_canT h.1 hV (by omega) hc2 fun a8 ha => ?_⟩⟩)⟩⟩⟩
              refine cl_tell (o0 := sI (ob rMd) 0 0) (x := nI t) (y := 0) h.1 (h.2.thr 0) ha hh hc.2.2 ⟨s, hs, rfl⟩ ⟨5, by decide, rfl⟩ (fun z => absurd z (by decide)) (fun _ => ⟨t, ht, rfl, fun z => hst z.symm⟩) (fun z => absurd z (by decide)) (fun _ => rfl) (fun z => absurd z (by decide)) fun g' A' ob' D' hQ eA eO hA cV cG hCT => ?_
              have hrm := hQ.rm
              rw [eA.1] at hrm
              have hout := hQ.out
              rw [eA.2.2, eO.2.2] at hout
              have hmd := hQ.md
              rw [eA.2.1, eO.2.1] at hmd
              have hmo : ∀ xo, hu g' (A rOut) (10, xo) (A rMd) = some (9, ob rMd) := fun xo => by rw [hu_n (fun z => h.om z.symm)]; exact hmd
              have hw' := (abFold_ok (m := m + 1) (by omega) n40 hA (WFS_tl h.sh.1) (m + 1) (Nat.le_refl _)).1
              have eF : aO (abFold (tl (sI (ob rMd) 0 0) m hd 5 (nI s) (nI t) 0) (m + 1)) = aO (abFold (ob rMd) m) := by
                rw [tl_S, fold_t, abS_5 (s := s) (t := t) (by rw [tl_2, if_pos rfl]; rfl) (by rw [tl_4, if_pos rfl]) (by omega) (by rw [tl_5, if_pos rfl]) (by omega) hc.1 hc2.1]
                rfl
              have hi' : s ∈ aO (abFold (tl (sI (ob rMd) 0 0) m hd 5 (nI s) (nI t) 0) (m + 1)) := by rw [eF]; exact hc.1
              refine ⟨_, hrm, _, hQ.bd, w_groupSize (by omega) cV hi' ⟨_, hout, ?_⟩⟩
              rintro _ rfl
              refine hp 0 _ ⟨_, hmo _, m_hand1 hh (b1 (mShT h.n10 n40 hs (b1 (mShT h.n10 n40 ht (b1' (br_f' hst ?_))))))⟩
              rintro _ rfl
              refine t_ok rfl (mCanT (o := sI (ob rMd) 0 0) (F := abFold (ob rMd) m) (b := bL (fL (ob rRm) 6) s) (by omega) e20 e17 h.n1 hc (b1 (mCanT (o := sI (ob rMd) 0 0) (F := abFold (ob rMd) m) (b := bL (fL (ob rRm) 6) t) (by omega) f20 f17 h.n1 hc2 (b1 ?_))))
              rintro _ rfl
              rw [sI2]
              refine t_ok rfl (w_tells (o := sI (ob rMd) 0 0) (n := n) h.n1 hc.2.2 hh h.n10 n40 hA h.sh.1 (h20_of hM.2.2.1 h.abw) fun q g19 g20 g21 g22 g23 g24 hM' => ?_)
              refine w_inGroup (o := brd (tl (sI (ob rMd) 0 0) m hd 5 (nI s) (nI t) 0) q g19 g20 g21 g22 g23 g24) (n := n) h.n10 n40 hM' hi' hs ?_
              exact h.uV k hQ eA (Nat.le_succ _) rfl (congrArg (fun z => (nI z).toInt64) (ct_group cG hw' n40 hi')) (hCT _ _ _ _ _ _ _ hM')
            · refine ⟨_, h.1.rm, w_handT hh ⟨_, h.1.rm, w_shapeT h.1 hs ⟨_, h.1.rm, w_shapeT h.1 ht (br_f' hst ⟨_, h.1.rm, w_canT h.1 hV (by omega) hc ⟨_, h.1.rm, w_canF h.1 hV (by omega) hc2 (Or.inr (Or.inr ⟨rfl, hp 3 _ ⟨_, h.md, m_hand1 hh (b1 (mShT h.n10 n40 hs (b1 (mShT h.n10 n40 ht (b1' (br_f' hst ?_))))))⟩⟩))⟩⟩)⟩⟩⟩
              rintro _ rfl
              refine t_ok rfl (mCanT (o := sI (ob rMd) 0 0) (F := abFold (ob rMd) m) (b := bL (fL (ob rRm) 6) s) (by omega) e20 e17 h.n1 hc (b1 (mCanF (o := sI (ob rMd) 0 0) (F := abFold (ob rMd) m) (b := bL (fL (ob rRm) 6) t) (by omega) f20 f17 h.n1 m200 hc2 (b0 ?_))))
              rintro _ rfl
              rw [sI2]
              exact t_no (Or.inr (Or.inr rfl)) (h.qT k (by decide))
          · refine ⟨_, h.1.rm, w_handT hh ⟨_, h.1.rm, w_shapeT h.1 hs ⟨_, h.1.rm, w_shapeT h.1 ht (br_f' hst ⟨_, h.1.rm, w_canF h.1 hV (by omega) hc (Or.inr (Or.inr ⟨rfl, hp 3 _ ⟨_, h.md, m_hand1 hh (b1 (mShT h.n10 n40 hs (b1 (mShT h.n10 n40 ht (b1' (br_f' hst ?_))))))⟩⟩))⟩)⟩⟩⟩
            rintro _ rfl
            refine t_ok rfl (mCanF (o := sI (ob rMd) 0 0) (F := abFold (ob rMd) m) (b := bL (fL (ob rRm) 6) s) (by omega) e20 e17 h.n1 m200 hc (b0 ?_))
            rintro _ rfl
            rw [sI2]
            exact t_no (Or.inr (Or.inr rfl)) (h.qT k (by decide))
      · exact ⟨_, h.1.rm, w_handT hh ⟨_, h.1.rm, w_shapeT h.1 hs ⟨_, h.1.rm, w_shapeF h.1 ht (Or.inl ⟨rfl, hp 1 _ ⟨_, h.md, m_hand1 hh (b1 (mShT h.n10 n40 hs (b1 (mShF h.n10 n40 ht (b0' (T 1 (Or.inl rfl)))))))⟩⟩)⟩⟩⟩
    · exact ⟨_, h.1.rm, w_handT hh ⟨_, h.1.rm, w_shapeF h.1 hs (Or.inl ⟨rfl, hp 1 _ ⟨_, h.md, m_hand1 hh (b1 (mShF h.n10 n40 hs (b0 (T 1 (Or.inl rfl)))))⟩⟩)⟩⟩
  · exact ⟨_, h.1.rm, w_handF hh (Or.inl ⟨rfl, hp 1 _ ⟨_, h.md, m_hand0 hh (b0 (T 1 (Or.inl rfl)))⟩⟩)⟩
end CR
end
