section
/-! pure layer V: one copy changes; accept; takeDown -/
theorem cEd.one {ed wn kb : FO} {cp cp' : Nat → FO} {o o' : FO} {n m e e2 j : Nat} {E : AB} {c : Nat} (h : cEd ed wn kb cp o n m e2 E c) (hr : ∀ k, k < 42 → k ≠ 17 → fA o' k = fA o k) (hq : ∀ k, k = 42 ∨ k = 43 ∨ k = 44 ∨ k = 45 → ∀ q, q ≠ 20 * e + j → fA o' k q = fA o k q)
    (hcp : ∀ j2, (e2 = e → j2 ≠ j) → cp' j2 = cp j2) (j20 : j < 20) (hjc : e2 = e → j < c) (hnew : e2 = e → ∀ sc, fI ed 9 = nI sc → cCp (cp j) o (20 * e + j) sc j → cCp (cp' j) o' (20 * e + j) sc j) : cEd ed wn kb cp' o' n m e2 E c := by
  have c20 := h.2.2.2.2.2.2.2.2.1.2.1
  obtain ⟨sc, s1, s2, s3, s4⟩ := h.2.2.2.2.2.2.2.2.2.1
  have h11 := h.2.2.2.2.2.2.2.2.2.2
  refine h.copies (fun _ _ => rfl) rfl (fun k k1 k2 _ => hr k k1 k2) ⟨sc, s1, s2, by rw [hr 34 (by decide) (by decide)]; exact s3, fun j2 hj2 => ?_⟩ (fun j2 j3 j4 => ?_)
  · by_cases ce : e2 = e
    · subst ce
      by_cases cj : j2 = j
      · subst cj; exact hnew rfl sc s2 (s4 j2 hj2)
      · rw [hcp j2 (fun _ => cj)]
        exact (s4 j2 hj2).cong fun k hk => hq k hk _ (by omega)
    · rw [hcp j2 (fun z => absurd z ce)]
      exact (s4 j2 hj2).cong fun k hk => hq k hk _ (by omega)
  · rw [hq 42 (Or.inl rfl) _ (fun z => ?_)]
    · exact h11 j2 j3 j4
    · by_cases ce : e2 = e
      · have := hjc ce
        subst ce; omega
      · omega
theorem cFr.ed {o o' : FO} {ne e : Nat} (h : cFr o ne) (he : e < ne) (hr : ∀ k, k < 42 → k ≠ 17 → k ≠ 34 → fA o' k = fA o k) (h34 : ∀ q, q ≠ e → fA o' 34 q = fA o 34 q) (h42 : ∀ e2 j, ne ≤ e2 → e2 < 8 → j < 20 → fA o' 42 (20 * e2 + j) = fA o 42 (20 * e2 + j)) : cFr o' ne := fun e2 h1 h2 => by
  obtain ⟨x1, x2, x3, x4, x5⟩ := h e2 h1 h2
  exact ⟨by rw [hr 33 (by decide) (by decide) (by decide)]; exact x1, by rw [h34 e2 (by omega)]; exact x2, by rw [hr 35 (by decide) (by decide) (by decide)]; exact x3, by rw [hr 36 (by decide) (by decide) (by decide)]; exact x4, fun j hj => by rw [h42 e2 j h1 h2 hj]; exact x5 j hj⟩
section CX
variable {g : GH} {A : Rl → Nat} {ob : Rl → FO} {D : GD} {n m ne np : Nat} {E : Nat → AB} {K : GH → Prop}
theorem w_chT {e j : Nat} {post : Nat → Prop} {px : String → Prop} (h : HQ g A ob D n m ne np) (he : e < ne) (hj : j < D.2.2.2.2.1 e) (h2 : fI (ob (rCp e j)) 0 = 2) (k : post (A (rCp e j))) : wp_X7_checkedChangedCopy (A rRm) (nI e) (nI j) g post px :=
  ⟨_, h.rm, w_cpT h he hj ⟨_, h.cpA he hj, br_t h2 k⟩⟩
theorem w_chF {e j : Nat} {post : Nat → Prop} {px : String → Prop} (h : HQ g A ob D n m ne np) (he : e < ne) (hj : j < D.2.2.2.2.1 e) (h2 : ¬ fI (ob (rCp e j)) 0 = 2) (k : px "java/lang/IllegalStateException") : wp_X7_checkedChangedCopy (A rRm) (nI e) (nI j) g post px :=
  ⟨_, h.rm, w_cpT h he hj ⟨_, h.cpA he hj, br_f h2 k⟩⟩
theorem w_chN {p q : Int32} {post : Nat → Prop} {px : String → Prop} (h : HQ g A ob D n m ne np) (hp : ¬ ∃ e j, e < ne ∧ j < D.2.2.2.2.1 e ∧ p = nI e ∧ q = nI j) (k : px "java/lang/IndexOutOfBoundsException") : wp_X7_checkedChangedCopy (A rRm) p q g post px :=
  ⟨_, h.rm, w_cpF h hp k⟩
theorem IV.cpF (h : IV g A ob D n m ne np E) {p q : Int32} {post : Int32 → Prop} (hp : ¬ ∃ e j, e < ne ∧ j < D.2.2.2.2.1 e ∧ p = nI e ∧ q = nI j) (k : post 0) : wp_X8_isCopy p q (ob rMd) post :=
  mCpF (cs := D.2.2.2.2.1) h.n25 h.ne8 (fun e he => ⟨h.c31 he, h.1.c20 he⟩) hp k
theorem IV.cpT (h : IV g A ob D n m ne np E) {e j : Nat} {post : Int32 → Prop} (he : e < ne) (hj : j < D.2.2.2.2.1 e) (k : post 1) : wp_X8_isCopy (nI e) (nI j) (ob rMd) post :=
  mCpT h.n25 h.ne8 he (h.c31 he) (h.1.c20 he) hj k
theorem m_ch (h : IV g A ob D n m ne np E) {e j : Nat} {post : Int32 → Prop} (he : e < ne) (hj : j < D.2.2.2.2.1 e) (k : (fA (ob rMd) 42 (20 * e + j) = 2 → post 0) ∧ (¬ fA (ob rMd) 42 (20 * e + j) = 2 → post 2)) : wp_X8_changed (nI e) (nI j) (ob rMd) post := by
  have ne8 := h.ne8
  have c20 := h.1.c20 he
  refine h.cpT he hj (b1' ?_)
  rw [q_ix20]
  refine ⟨vp_in_nI (by omega) (by decide), ?_⟩
  rw [qn_cl (by omega)]
  exact ⟨k.2, k.1⟩
theorem m_chN (h : IV g A ob D n m ne np E) {p q : Int32} {post : Int32 → Prop} (hp : ¬ ∃ e j, e < ne ∧ j < D.2.2.2.2.1 e ∧ p = nI e ∧ q = nI j) (k : post 1) : wp_X8_changed p q (ob rMd) post := h.cpF hp (b0' k)
theorem st_cases {st : Nat} (h : st < 4) : st = 0 ∨ st = 1 ∨ st = 2 ∨ st = 3 := by omega
theorem st_2 {st : Nat} (h : st < 4) : nI st = 2 ↔ st = 2 := by
  constructor
  · intro z
    exact q_nIi (b := 2) z (by omega) (by decide)
  · rintro rfl; rfl
theorem st_1 {st : Nat} (h : st < 4) : nI st = 1 ↔ st = 1 := by
  constructor
  · intro z
    exact q_nIi (b := 1) z (by omega) (by decide)
  · rintro rfl; rfl
theorem c_accept (h : IV g A ob D n m ne np E) (k : ∀ g', NX A np g' → K g') (p q : Int32) {post : Int32 → GH → Prop} (hp : ∀ xx g', (∃ o, g' (A rMd) = some (9, o) ∧ wp_X8_accept p q o (fun v o' => LW (A rMd) (A rOut) K xx v o' g')) → post xx g') : wp_L_accept (A rRm) p q (A rOut) g post := by
  have ne8 := h.ne8
  by_cases hx : ∃ e j, e < ne ∧ j < D.2.2.2.2.1 e ∧ p = nI e ∧ q = nI j
  · obtain ⟨e, j, he, hj, rfl, rfl⟩ := hx
    have c20 := h.1.c20 he
    obtain ⟨sc, st, hst, a1, a2, a3, a4, a5, a6⟩ := h.copy he hj
    have e2 : fI (ob (rCp e j)) 0 = 2 ↔ st = 2 := by rw [a2]; exact st_2 hst
    have m2 : fA (ob rMd) 42 (20 * e + j) = 2 ↔ st = 2 := by rw [a1]; exact st_2 hst
    by_cases c2 : st = 2
    · have q1 := h.1.setCp he hj (sI (ob (rCp e j)) 0 1)
      have f9 : ∀ q : Rl, q.1 ≠ 9 → rup ob (rCp e j) (sI (ob (rCp e j)) 0 1) q = ob q := fun q hq => rup_k hq
      refine ⟨_, h.1.rm, _, h.1.rm, w_chT h.1 he hj (e2.mpr c2) ⟨_, h.1.cpA he hj, ?_⟩⟩
      rintro _ rfl
      have hout := q1.out
      rw [f9 rOut (by decide)] at hout
      have hmd := q1.md
      rw [f9 rMd (by decide)] at hmd
      refine ⟨_, hu_s, _, hout, ?_⟩
      rintro _ rfl
      refine hp 0 _ ⟨_, by rw [hu_n (fun z => h.om z.symm)]; exact hmd, m_ch h he hj (br_t (m2.mpr c2) ?_)⟩
      rintro _ rfl
      refine t_ok rfl ?_
      rw [q_ix20]
      have hin : vp_in (nI (20 * e + j)) 160 := vp_in_nI (by omega) (by decide)
      refine ⟨hin, ?_⟩
      rintro _ rfl
      refine ⟨hin, ?_⟩
      rw [qn_cl (by omega)]
      obtain ⟨⟨b, b8, bb1, bb2⟩, bb3⟩ := a4 (Or.inr c2)
      have hrow : ∀ k, k ≠ 42 → fA (sA (sI (ob rMd) 0 0) 42 (20 * e + j) 1) k = fA (ob rMd) k := fun k hk => by rw [qs_fAsA, if_neg hk, qs_fAsI]
      have r42 : ∀ q, fA (sA (sI (ob rMd) 0 0) 42 (20 * e + j) 1) 42 q = if q = 20 * e + j then 1 else fA (ob rMd) 42 q := fun q => rfl
      refine h.uV (E1 := E) k q1 ⟨rfl, rfl, rfl⟩ (Nat.le_succ _) rfl ?_ ?_
      · show (fI (ob (rCp e j)) 1).toInt64 = (fA (ob rMd) 43 (20 * e + j)).toInt64
        rw [bb1, bb2]
      · have g3 : (fun j2 => rup ob (rCp e j) (sI (ob (rCp e j)) 0 1) (rSh j2)) = fun j => ob (rSh j) := funext fun j => f9 _ (by decide : ¬ (3 : Nat) = 9)
        have g4 : (fun j2 => rup ob (rCp e j) (sI (ob (rCp e j)) 0 1) (rAc j2)) = fun j => ob (rAc j) := funext fun j => f9 _ (by decide : ¬ (4 : Nat) = 9)
        have g5 : (fun j2 => rup ob (rCp e j) (sI (ob (rCp e j)) 0 1) (rEd j2)) = fun j => ob (rEd j) := funext fun j => f9 _ (by decide : ¬ (5 : Nat) = 9)
        have g6 : (fun j2 => rup ob (rCp e j) (sI (ob (rCp e j)) 0 1) (rWn j2)) = fun j => ob (rWn j) := funext fun j => f9 _ (by decide : ¬ (6 : Nat) = 9)
        have g7 : (fun j2 => rup ob (rCp e j) (sI (ob (rCp e j)) 0 1) (rKb j2)) = fun j => ob (rKb j) := funext fun j => f9 _ (by decide : ¬ (7 : Nat) = 9)
        have g10 : (fun j2 => rup ob (rCp e j) (sI (ob (rCp e j)) 0 1) (rPy j2)) = fun j => ob (rPy j) := funext fun j => f9 _ (by decide : ¬ (10 : Nat) = 9)
        rw [g3, g4, g5, g6, g7, g10, f9 rRm (by decide), f9 rBd (by decide)]
        refine h.2.ed (fun k k1 _ => hrow k (by omega)) rfl rfl rfl rfl ?_ (fun e2 he2 => ?_) ?_ ?_ ?_
        · unfold cDn
          rw [hrow 17 (by decide)]; exact h.dn
        · refine (h.ed he2).one (e := e) (j := j) (fun k k1 _ => hrow k (by omega)) (fun k hk q hq => ?_) (fun j2 hj2 => ?_) (by omega) (fun z => by subst z; exact hj) (fun z sc' _ hc => ?_)
          · rcases hk with z | z | z | z
            · subst z; rw [r42, if_neg hq]
            · rw [hrow k (by omega)]
            · rw [hrow k (by omega)]
            · rw [hrow k (by omega)]
          · refine rup_n fun z => ?_
            have z1 : e2 = e := congrArg (fun r : Rl => r.2.1) z
            have z2 : j2 = j := congrArg (fun r : Rl => r.2.2) z
            exact hj2 z1 z2
          · subst z
            rw [rup_s]
            obtain ⟨st', hst', d1, d2, d3, d4, d5, d6⟩ := hc
            have : st' = 2 := (st_2 hst').mp (by rw [← d1]; exact m2.mpr c2)
            subst this
            refine ⟨1, by decide, by rw [r42, if_pos rfl]; rfl, rfl, ⟨fun z => absurd z (by decide), fun z => absurd (d3.mpr z) (by decide)⟩, fun _ => ?_, fun z => absurd z (by decide), fun z => by omega⟩
            rw [hrow 43 (by decide), hrow 44 (by decide)]
            exact d4 (Or.inr rfl)
        · refine h.fr.ed he (fun k k1 _ _ => hrow k (by omega)) (fun q _ => by rw [hrow 34 (by decide)]) (fun e2 j2 h1 h2 h3 => ?_)
          rw [r42, if_neg (by omega)]
        · unfold cMo
          rw [hrow 46 (by decide), hrow 47 (by decide)]; exact h.mo
        · unfold cPy
          rw [hrow 26 (by decide), hrow 35 (by decide)]; exact h.pyy
    · refine ⟨_, h.1.rm, _, h.1.rm, w_chF h.1 he hj (fun z => c2 (e2.mp z)) (Or.inr ⟨rfl, hp 2 _ ⟨_, h.md, m_ch h he hj (br_f (fun z => c2 (m2.mp z)) ?_)⟩⟩)⟩
      rintro _ rfl
      exact t_no (Or.inr (Or.inl rfl)) (h.qT k (by decide))
  · refine ⟨_, h.1.rm, _, h.1.rm, w_chN h.1 hx (Or.inl ⟨rfl, hp 1 _ ⟨_, h.md, m_chN h hx ?_⟩⟩)⟩
    rintro _ rfl
    exact t_no (Or.inl rfl) (h.qT k (by decide))
end CX
end
