section
/-! pure layer L: words for calls -/
theorem t_ok {x : Int32} {A B : Prop} (h : x = 0) (a : A) : (x ≤ 0 → A) ∧ (¬ x ≤ 0 → B) := ⟨fun _ => a, fun z => absurd (by rw [h]; exact Int32.le_refl _) z⟩
theorem t_no {x : Int32} {A B : Prop} (h : x = 1 ∨ x = 2 ∨ x = 3) (b : B) : (x ≤ 0 → A) ∧ (¬ x ≤ 0 → B) := ⟨fun z => absurd z (by rcases h with h | h | h <;> rw [h] <;> decide), fun _ => b⟩
theorem b1 {A B : Prop} (b : B) : ((1 : Int32) = 0 → A) ∧ (¬ (1 : Int32) = 0 → B) := ⟨fun z => absurd z (by decide), fun _ => b⟩
theorem b0 {A B : Prop} (a : A) : ((0 : Int32) = 0 → A) ∧ (¬ (0 : Int32) = 0 → B) := ⟨fun _ => a, fun z => absurd rfl z⟩
theorem b1' {A B : Prop} (b : B) : (¬ (1 : Int32) = 0 → B) ∧ ((1 : Int32) = 0 → A) := ⟨fun _ => b, fun z => absurd z (by decide)⟩
theorem b0' {A B : Prop} (a : A) : (¬ (0 : Int32) = 0 → B) ∧ ((0 : Int32) = 0 → A) := ⟨fun z => absurd rfl z, fun _ => a⟩
theorem sI2 (o : FO) (a b : Int32) : sI (sI o 0 a) 0 b = sI o 0 b := FO_ext (fun k => by rw [qs_fIsI, qs_fIsI, qs_fIsI]; split <;> rfl) (fun _ => rfl) (fun _ => rfl) (fun _ => rfl) (fun _ => rfl)
theorem m_in0T {x : Int32} {n s : Nat} {post : Int32 → Prop} (hx : x = nI n) (hn : n < 2147483648) (hs : s < n) (k : post 1) : wp_X8_isIn (nI s) 0 (x - 1) post := by
  subst hx
  obtain ⟨n', rfl⟩ : ∃ n', n = n' + 1 := ⟨n - 1, by omega⟩
  rw [nI_pred]
  exact m_inT ((q_rng (n := n' + 1) (by omega) hn).mpr ⟨s, hs, rfl⟩) k
theorem m_in0F {x p : Int32} {n : Nat} {post : Int32 → Prop} (hx : x = nI n) (hn : n < 2147483648) (hp : ¬ ∃ s, s < n ∧ p = nI s) (k : post 0) : wp_X8_isIn p 0 (x - 1) post := by
  subst hx
  by_cases e : n = 0
  · subst e
    refine m_inF (fun z => ?_) k
    have h1 := z.1
    have h2 := z.2
    rw [q_lt] at h1 h2
    have e0 : (nI 0 - 1).toInt = -1 := by decide
    have e1 : (0 : Int32).toInt = 0 := rfl
    omega
  · obtain ⟨n', rfl⟩ : ∃ n', n = n' + 1 := ⟨n - 1, by omega⟩
    rw [nI_pred]
    exact m_inF (fun z => hp ((q_rng (n := n' + 1) (by omega) hn).mp z)) k
theorem mShT {o : FO} {n s : Nat} {post : Int32 → Prop} (h : fI o 10 = nI n) (hn : n ≤ 40) (hs : s < n) (k : post 1) : wp_X8_isShape (nI s) o post := m_numT h (by omega) hs k
theorem mShF {o : FO} {n : Nat} {p : Int32} {post : Int32 → Prop} (h : fI o 10 = nI n) (hn : n ≤ 40) (hp : ¬ ∃ s, s < n ∧ p = nI s) (k : post 0) : wp_X8_isShape p o post := m_numF h (by omega) hp k
theorem mAcT {o : FO} {n s : Nat} {post : Int32 → Prop} (h : fI o 1 = nI n) (hn : n ≤ 200) (hs : s < n) (k : post 1) : wp_X8_isAct (nI s) o post := m_numT h (by omega) hs k
theorem mAcF {o : FO} {n : Nat} {p : Int32} {post : Int32 → Prop} (h : fI o 1 = nI n) (hn : n ≤ 200) (hp : ¬ ∃ s, s < n ∧ p = nI s) (k : post 0) : wp_X8_isAct p o post := m_numF h (by omega) hp k
theorem mEdT {o : FO} {n s : Nat} {post : Int32 → Prop} (h : fI o 25 = nI n) (hn : n ≤ 8) (hs : s < n) (k : post 1) : wp_X8_isEdition (nI s) o post := m_numT h (by omega) hs k
theorem mEdF {o : FO} {n : Nat} {p : Int32} {post : Int32 → Prop} (h : fI o 25 = nI n) (hn : n ≤ 8) (hp : ¬ ∃ s, s < n ∧ p = nI s) (k : post 0) : wp_X8_isEdition p o post := m_numF h (by omega) hp k
theorem mCpT {o : FO} {ne e c j : Nat} {post : Int32 → Prop} (h : fI o 25 = nI ne) (hn : ne ≤ 8) (he : e < ne) (hc : fA o 31 e = nI c) (c20 : c ≤ 20) (hj : j < c) (k : post 1) : wp_X8_isCopy (nI e) (nI j) o post := by
  refine mEdT h hn he (b1 (mEdT h hn he (b1 ⟨vp_in_nI (by omega) (by decide), ?_⟩)))
  rw [qn_cl (by omega)]
  exact m_in0T hc (by omega) hj (b1 k)
theorem mCpF {o : FO} {ne : Nat} {p q : Int32} {cs : Nat → Nat} {post : Int32 → Prop} (h : fI o 25 = nI ne) (hn : ne ≤ 8) (hc : ∀ e, e < ne → fA o 31 e = nI (cs e) ∧ cs e ≤ 20) (hp : ¬ ∃ e j, e < ne ∧ j < cs e ∧ p = nI e ∧ q = nI j) (k : post 0) : wp_X8_isCopy p q o post := by
  by_cases he : ∃ e, e < ne ∧ p = nI e
  · obtain ⟨e, he, rfl⟩ := he
    obtain ⟨h1, h2⟩ := hc e he
    refine mEdT h hn he (b1 (mEdT h hn he (b1 ⟨vp_in_nI (by omega) (by decide), ?_⟩)))
    rw [qn_cl (by omega)]
    refine m_in0F h1 (by omega) (fun z => ?_) (b0 k)
    obtain ⟨j, hj, e2⟩ := z
    exact hp ⟨e, j, he, hj, rfl, e2⟩
  · exact mEdF h hn he (b0 k)
theorem w_cellT {c r w h : Nat} {post : Prop} {px : String → Prop} (hc : c < w) (hw : w < 1000) (hr : r < h) (hh : h < 1000) (k : post) : wp_X7_checkCell (nI c) (nI r) (nI w) (nI h) post px :=
  ⟨fun z => absurd z (nI_pos (by omega)), fun _ => ⟨fun z => absurd z (nI_ge hc (by omega)), fun _ => ⟨fun z => absurd z (nI_pos (by omega)), fun _ => ⟨fun _ => k, fun z => absurd (nI_lt hr (by omega)) z⟩⟩⟩⟩
theorem w_cellF {p q : Int32} {w h : Nat} {post : Prop} {px : String → Prop} (hw : w < 1000) (hh : h < 1000) (hp : ¬ ((∃ c, c < w ∧ p = nI c) ∧ ∃ r, r < h ∧ q = nI r)) (k : px "java/lang/IndexOutOfBoundsException") : wp_X7_checkCell p q (nI w) (nI h) post px := by
  refine ⟨fun _ => k, fun z1 => ⟨fun _ => k, fun z2 => ⟨fun _ => k, fun z3 => ⟨fun z4 => ?_, fun _ => k⟩⟩⟩⟩
  exfalso
  refine hp ⟨?_, ?_⟩
  · rcases qn_ix p w (by omega) with y | y | y
    · exact y
    · exact absurd y z1
    · exact absurd y z2
  · rcases qn_ix q h (by omega) with y | y | y
    · exact y
    · exact absurd y z3
    · exfalso
      rw [q_lt] at z4; rw [q_le] at y; omega
section IVL
variable {g : GH} {A : Rl → Nat} {ob : Rl → FO} {D : GD} {n m ne np : Nat} {E : Nat → AB} {K : GH → Prop}
theorem IV.n1 (h : IV g A ob D n m ne np E) : fI (ob rMd) 1 = nI m := h.2.1.1
theorem IV.n10 (h : IV g A ob D n m ne np E) : fI (ob rMd) 10 = nI n := h.2.1.2.1
theorem IV.n25 (h : IV g A ob D n m ne np E) : fI (ob rMd) 25 = nI ne := h.2.1.2.2
theorem IV.sh (h : IV g A ob D n m ne np E) : cSh (fun j => ob (rSh j)) (ob rMd) n := h.2.2.1
theorem IV.ac (h : IV g A ob D n m ne np E) : cAc (fun j => ob (rAc j)) (ob rMd) n m := h.2.2.2.1
theorem IV.un (h : IV g A ob D n m ne np E) : cUn (fun j => ob (rAc j)) (ob rMd) m := h.2.2.2.2.1
theorem IV.dn (h : IV g A ob D n m ne np E) : cDn (ob rRm) (ob rMd) := h.2.2.2.2.2.1
theorem IV.bd (h : IV g A ob D n m ne np E) : cBd (ob rBd) (ob rMd) m := h.2.2.2.2.2.2.1
theorem IV.ed (h : IV g A ob D n m ne np E) {e : Nat} (he : e < ne) : cEd (ob (rEd e)) (ob (rWn e)) (ob (rKb e)) (fun j => ob (rCp e j)) (ob rMd) n m e (E e) (D.2.2.2.2.1 e) := h.2.2.2.2.2.2.2.1 e he
theorem IV.fr (h : IV g A ob D n m ne np E) : cFr (ob rMd) ne := h.2.2.2.2.2.2.2.2.1
theorem IV.mo (h : IV g A ob D n m ne np E) : cMo (ob rRm) (ob rMd) := h.2.2.2.2.2.2.2.2.2.1
theorem IV.pyy (h : IV g A ob D n m ne np E) : cPy (fun j => ob (rPy j)) (ob rRm) (ob rMd) ne np := h.2.2.2.2.2.2.2.2.2.2
theorem IV.n40 (h : IV g A ob D n m ne np E) : n ≤ 40 := h.1.n40
theorem IV.m200 (h : IV g A ob D n m ne np E) : m ≤ 200 := h.1.m200
theorem IV.ne8 (h : IV g A ob D n m ne np E) : ne ≤ 8 := h.1.ne8
theorem ABW.abb {o : FO} {n b : Nat} {F : AB} (hw : ABW n F b) (hb : b ≤ 200) (hn : n ≤ 40) (hS : WFS o n) : ABb F (fA o 12) (fA o 13) := fun s hs => by
  obtain ⟨s1, s2, s3, s4⟩ := hw.2 s hs
  obtain ⟨-, w1, w2, -, -⟩ := hS s s1
  exact ⟨by omega, w1, w2, by omega, by omega⟩
theorem IV.abw (h : IV g A ob D n m ne np E) : ABW n (abFold (ob rMd) m) m := (abFold_ok h.m200 h.n40 h.ac.1 h.sh.1 m (Nat.le_refl _)).1
theorem IV.abb (h : IV g A ob D n m ne np E) : ABb (abFold (ob rMd) m) (fA (ob rMd) 12) (fA (ob rMd) 13) := h.abw.abb h.m200 h.n40 h.sh.1
theorem IV.qT (h : IV g A ob D n m ne np E) (k : ∀ g', NX A np g' → K g') {c v : Int32} (hc : ¬ c = 0) : LW (A rMd) (A rOut) K c v (sI (ob rMd) 0 c) g := lw_t rfl hc (k _ (h.t c).nx)
theorem IV.qTL (h : IV g A ob D n m ne np E) (k : ∀ g', NX A np g' → K g') {c : Int32} {v : Int64} (hc : ¬ c = 0) : LWL (A rMd) (A rOut) K c v (sI (ob rMd) 0 c) g := lw_tL rfl hc (k _ (h.t c).nx)
theorem rup_om {ob : Rl → FO} {x : FO} : rup ob rOut x rMd = ob rMd := rup_k (by decide)
theorem IV.qV (h : IV g A ob D n m ne np E) (k : ∀ g', NX A np g' → K g') {v : Int32} {x : FO} (hx : fB x 0 0 = v.toInt64) : LW (A rMd) (A rOut) K 0 v (sI (ob rMd) 0 0) (hu g (A rOut) (10, x)) := by
  have h' := h.o x
  have h2 := h'.t 0
  rw [rup_om] at h2
  exact lw_v rfl h.om hu_s hx (k _ h2.nx)
theorem IV.qVL (h : IV g A ob D n m ne np E) (k : ∀ g', NX A np g' → K g') {v : Int64} {x : FO} (hx : fB x 0 0 = v) : LWL (A rMd) (A rOut) K 0 v (sI (ob rMd) 0 0) (hu g (A rOut) (10, x)) := by
  have h' := h.o x
  have h2 := h'.t 0
  rw [rup_om] at h2
  exact lw_vL rfl h.om hu_s hx (k _ h2.nx)
theorem IV.mdo (h : IV g A ob D n m ne np E) (x : FO) : hu g (A rOut) (10, x) (A rMd) = some (9, ob rMd) := by rw [hu_n (fun z => h.om z.symm)]; exact h.md
end IVL
def LWB (x2 x3 : Nat) (K : GH → Prop) (r v : Int32) (o' : FO) (g1 : GH) : Prop := ∀ g2, g2 = hu g1 x2 (9, o') →
  ∃ o3, g2 x2 = some (9, o3) ∧ wp_X8_thrown o3 (fun r3 => ((r3 = r → ((¬ r = 0 → K g2) ∧ (r = 0 → ∃ o4, g2 x3 = some (10, o4) ∧ ((v = 0 → (((lg_cmp (fB o4 0 0) 0) = 0 → K g2) ∧ (¬ (lg_cmp (fB o4 0 0) 0) = 0 → False))) ∧ (¬ v = 0 → (((lg_cmp (fB o4 0 0) 1) = 0 → K g2) ∧ (¬ (lg_cmp (fB o4 0 0) 1) = 0 → False))))))) ∧ (¬ r3 = r → False)))
theorem lw_tB {x2 x3 : Nat} {K : GH → Prop} {r v : Int32} {o' : FO} {g1 : GH} (hr : fI o' 0 = r) (h0 : ¬ r = 0) (k : K (hu g1 x2 (9, o'))) : LWB x2 x3 K r v o' g1 := by
  rintro _ rfl
  exact ⟨_, hu_s, fun _ => ⟨fun _ => k, fun z => absurd z h0⟩, fun z => absurd hr z⟩
theorem lw_vB {x2 x3 : Nat} {K : GH → Prop} {v : Int32} {o' oo : FO} {g1 : GH} (hr : fI o' 0 = 0) (hne : x3 ≠ x2) (ho : g1 x3 = some (10, oo)) (h0 : v = 0 → fB oo 0 0 = 0) (h1 : ¬ v = 0 → fB oo 0 0 = 1) (k : K (hu g1 x2 (9, o'))) : LWB x2 x3 K 0 v o' g1 := by
  rintro _ rfl
  exact ⟨_, hu_s, fun _ => ⟨fun _ => k, fun _ => ⟨oo, by rw [hu_n hne]; exact ho, fun z => ⟨fun _ => k, fun y => y (qcmp.mpr (h0 z))⟩, fun z => ⟨fun _ => k, fun y => y (qcmp.mpr (h1 z))⟩⟩⟩, fun z => absurd hr z⟩
end
