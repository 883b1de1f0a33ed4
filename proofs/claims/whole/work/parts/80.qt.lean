section
/-! pure layer T: undo and redo -/
theorem CT.re {R B o : FO} {sh ac ed wn kb py : Nat → FO} {cp : Nat → Nat → FO} {n m ne np : Nat} {cs : Nat → Nat} {E : Nat → AB} (h : CT R B o sh ac ed wn kb py cp n m ne np cs E) {o1 B' : FO} {ac' : Nat → FO} {q : Int32} {g19 g20 g21 g22 g23 g24 : Nat → Int32}
    (hr : ∀ k, 10 < k → fA o1 k = fA o k) (e1 : fI o1 1 = fI o 1) (e10 : fI o1 10 = fI o 10) (e25 : fI o1 25 = fI o 25) (e48 : fI o1 48 = fI o 48) (hA : WFA o1 n m) (hac : ∀ k, k < m → acF (ac' k) o1 k) (hU : cUn ac' o1 m)
    (hV : CV B' (abFold o1 m) (fA o1 12) (fA o1 13)) (hG : CG B' (abFold o1 m) m) (hM : MR q g19 g20 g21 g22 g23 g24 (abFold o1 m)) : CT R B' (brd o1 q g19 g20 g21 g22 g23 g24) sh ac' ed wn kb py cp n m ne np cs E := by
  obtain ⟨⟨c1, c2, c3⟩, ⟨s1, s2⟩, -, -, hd', -, he, hf, hm', hp⟩ := h
  have hrr : ∀ k, 25 < k → fA (brd o1 q g19 g20 g21 g22 g23 g24) k = fA o k := fun k hk => by rw [brd_fA (Or.inr (by omega)), hr k (by omega)]
  have ef : abFold (brd o1 q g19 g20 g21 g22 g23 g24) m = abFold o1 m := abFold_cong fun k _ => ⟨rfl, rfl, rfl, rfl, rfl, rfl, rfl, rfl⟩
  have r11 : fA (brd o1 q g19 g20 g21 g22 g23 g24) 11 = fA o 11 := by rw [brd_fA (Or.inl (by decide)), hr 11 (by decide)]
  have r12 : fA (brd o1 q g19 g20 g21 g22 g23 g24) 12 = fA o 12 := by rw [brd_fA (Or.inl (by decide)), hr 12 (by decide)]
  have r13 : fA (brd o1 q g19 g20 g21 g22 g23 g24) 13 = fA o 13 := by rw [brd_fA (Or.inl (by decide)), hr 13 (by decide)]
  have r14 : fA (brd o1 q g19 g20 g21 g22 g23 g24) 14 = fA o 14 := by rw [brd_fA (Or.inl (by decide)), hr 14 (by decide)]
  have r15 : fA (brd o1 q g19 g20 g21 g22 g23 g24) 15 = fA o 15 := by rw [brd_fA (Or.inl (by decide)), hr 15 (by decide)]
  have r16 : fA (brd o1 q g19 g20 g21 g22 g23 g24) 16 = fA o 16 := by rw [brd_fA (Or.inl (by decide)), hr 16 (by decide)]
  have r17 : fA (brd o1 q g19 g20 g21 g22 g23 g24) 17 = fA o 17 := by rw [brd_fA (Or.inl (by decide)), hr 17 (by decide)]
  refine ⟨⟨e1.trans c1, e10.trans c2, e25.trans c3⟩, ⟨?_, fun j hj => ?_⟩, ⟨hA, hac⟩, hU, ?_, ⟨?_, ?_, ?_⟩, fun e he' => (he e he').cong hrr (fun s _ => by rw [r12, r13]; exact ⟨rfl, rfl⟩) (Nat.le_refl _) (Nat.le_refl _), hf.cong hrr, hm'.cong hrr e48, hp.cong hrr⟩
  · unfold WFS
    rw [r11, r12, r13, r14, r15]; exact s1
  · unfold shF
    rw [r11, r12, r13, r14, r15, r16]; exact s2 j hj
  · unfold cDn
    rw [r17]; exact hd'
  · rw [ef]; exact hV
  · rw [ef]; exact hG
  · rw [ef]; exact hM
/-- the tables, when hand hd has undone act k, u before it -/
def ul (o : FO) (k hd u : Nat) : FO := sA (sA (sA o 7 k 0) 8 (200 * hd + u) (nI k)) 9 hd (nI (u + 1))
def rl (o : FO) (k hd u : Nat) : FO := sA (sA o 9 hd (nI u)) 7 k 1
section UR
variable {o : FO} {k hd u : Nat}
theorem ul_7 (j : Nat) : fA (ul o k hd u) 7 j = if j = k then 0 else fA o 7 j := rfl
theorem ul_8 (j : Nat) : fA (ul o k hd u) 8 j = if j = 200 * hd + u then nI k else fA o 8 j := rfl
theorem ul_9 (j : Nat) : fA (ul o k hd u) 9 j = if j = hd then nI (u + 1) else fA o 9 j := rfl
theorem ul_r {j : Nat} (h : j < 7 ∨ 9 < j) : fA (ul o k hd u) j = fA o j := by
  unfold ul
  simp only [qs_fIsI, qs_fIsL, qs_fIsR, qs_fIsA, qs_fIsB, qs_fLsI, qs_fLsL, qs_fLsR, qs_fLsA, qs_fLsB, qs_fRsI, qs_fRsL, qs_fRsR, qs_fRsA, qs_fRsB, qs_fAsI, qs_fAsL, qs_fAsR, qs_fAsA, qs_fAsB, qs_fBsI, qs_fBsL, qs_fBsR, qs_fBsA, qs_fBsB, qs_up]
  rw [if_neg (by omega), if_neg (by omega), if_neg (by omega)]
theorem rl_7 (j : Nat) : fA (rl o k hd u) 7 j = if j = k then 1 else fA o 7 j := rfl
theorem rl_9 (j : Nat) : fA (rl o k hd u) 9 j = if j = hd then nI u else fA o 9 j := rfl
theorem rl_r {j : Nat} (h : j < 7 ∨ j = 8 ∨ 9 < j) : fA (rl o k hd u) j = fA o j := by
  unfold rl
  simp only [qs_fIsI, qs_fIsL, qs_fIsR, qs_fIsA, qs_fIsB, qs_fLsI, qs_fLsL, qs_fLsR, qs_fLsA, qs_fLsB, qs_fRsI, qs_fRsL, qs_fRsR, qs_fRsA, qs_fRsB, qs_fAsI, qs_fAsL, qs_fAsR, qs_fAsA, qs_fAsB, qs_fBsI, qs_fBsL, qs_fBsR, qs_fBsA, qs_fBsB, qs_up]
  rw [if_neg (by omega), if_neg (by omega)]
end UR
theorem WFA.live {o o1 : FO} {n m : Nat} (h : WFA o n m) (hr : ∀ j, j = 2 ∨ j = 3 ∨ j = 4 ∨ j = 5 ∨ j = 6 → fA o1 j = fA o j) (h7 : ∀ k, k < m → fA o1 7 k = 0 ∨ fA o1 7 k = 1) : WFA o1 n m := fun k hk => by
  rw [hr 2 (by omega), hr 3 (by omega), hr 4 (by omega), hr 5 (by omega), hr 6 (by omega)]
  obtain ⟨i1, i2, i3, i4, i5, i6, i7⟩ := h k hk
  exact ⟨i1, i2, i3, h7 k hk, i5, i6, i7⟩
theorem acF_re {a a' o o1 : FO} {k : Nat} (h : acF a o k) (hr : ∀ j, j = 2 ∨ j = 3 ∨ j = 4 ∨ j = 5 ∨ j = 6 → fA o1 j = fA o j) (ha : ∀ j, j < 5 → fI a' j = fI a j) (h5 : fI a' 5 = fA o1 7 k) : acF a' o1 k := by
  obtain ⟨b0, b1, b2, b3, b4, -⟩ := h
  unfold acF
  rw [hr 2 (by omega), hr 3 (by omega), hr 4 (by omega), hr 5 (by omega), hr 6 (by omega), ha 0 (by decide), ha 1 (by decide), ha 2 (by decide), ha 3 (by decide), ha 4 (by decide)]
  exact ⟨b0, b1, b2, b3, b4, h5⟩
theorem cUn.undo {ac ac' : Nat → FO} {o : FO} {m hd u k : Nat} {st : Nat → Nat} (hU : cUn ac o m) (hh : hd < 6) (m200 : m ≤ 200) (hu : cUh ac o m hd u st) (hk : k < m) (e3 : fA o 3 k = nI hd) (e7 : fA o 7 k = 1) (hl : ∀ j, k < j → j < m → fA o 3 j = nI hd → fA o 7 j = 1 → False)
    (hac : ∀ j, j < m → j ≠ k → fI (ac' j) 6 = fI (ac j) 6) (hak : ¬ fI (ac' k) 6 = 0) : cUn ac' (ul o k hd u) m := by
  obtain ⟨u1, u2, u3, u4, u5, u6⟩ := hu
  have r3 : fA (ul o k hd u) 3 = fA o 3 := ul_r (Or.inl (by decide))
  have hu1 : u + 1 ≤ m ∧ k + u + 1 ≤ m := by
    by_cases e : u = 0
    · omega
    · obtain ⟨-, v2, -, -⟩ := u3 (u - 1) (by omega)
      have := u5 (u - 1) (by omega) k hk e3 e7
      omega
  intro h1 hh1
  by_cases eh : h1 = hd
  · subst eh
    refine ⟨u + 1, fun i => if i < u then st i else k, hu1.1, by rw [ul_9, if_pos rfl], fun i hi => ?_, fun i j hij hj => ?_, fun i hi j hj j3 j7 => ?_, fun j hj j3 => ?_⟩
    · rw [ul_8, r3, ul_7]
      show (if 200 * h1 + i = 200 * h1 + u then nI k else fA o 8 (200 * h1 + i)) = nI (if i < u then st i else k) ∧ (if i < u then st i else k) + i + 1 ≤ m ∧ fA o 3 (if i < u then st i else k) = nI h1 ∧ (if (if i < u then st i else k) = k then (0 : Int32) else fA o 7 (if i < u then st i else k)) = 0
      by_cases e : i < u
      · obtain ⟨v1, v2, v3, v4⟩ := u3 i e
        rw [if_pos e, if_neg (by omega)]
        refine ⟨v1, v2, v3, ?_⟩
        split
        · rfl
        · exact v4
      · have : i = u := by omega
        subst this
        rw [if_neg e, if_pos rfl, if_pos rfl]
        exact ⟨rfl, by omega, e3, rfl⟩
    · show (if j < u then st j else k) < (if i < u then st i else k)
      rw [if_pos (show i < u by omega)]
      by_cases e : j < u
      · rw [if_pos e]; exact u4 i j hij e
      · rw [if_neg e]; exact u5 i (by omega) k hk e3 e7
    · show j < (if i < u then st i else k)
      rw [r3] at j3
      rw [ul_7] at j7
      by_cases ejk : j = k
      · rw [if_pos ejk] at j7; exact absurd j7 (by decide)
      · rw [if_neg ejk] at j7
        by_cases e : i < u
        · rw [if_pos e]; exact u5 i e j hj j3 j7
        · rw [if_neg e]
          rcases Nat.lt_or_ge j k with y | y
          · exact y
          · exact (hl j (by omega) hj j3 j7).elim
    · rw [r3] at j3
      by_cases ejk : j = k
      · subst ejk
        exact ⟨fun _ => ⟨u, by omega, if_neg (by omega)⟩, fun _ => hak⟩
      · rw [hac j hj ejk]
        rw [u6 j hj j3]
        constructor
        · rintro ⟨i, hi, e⟩
          exact ⟨i, by omega, by show (if i < u then st i else k) = j; rw [if_pos hi]; exact e⟩
        · rintro ⟨i, hi, e⟩
          have e : (if i < u then st i else k) = j := e
          by_cases c : i < u
          · rw [if_pos c] at e; exact ⟨i, c, e⟩
          · rw [if_neg c] at e; exact absurd e.symm ejk
  · obtain ⟨v, sv, v1, v2, v3, v4, v5, v6⟩ := hU h1 hh1
    have nek : ∀ j, fA o 3 j = nI h1 → j ≠ k := fun j j3 e => by
      rw [e, e3] at j3
      exact eh (q_nIi j3 (by omega) (by omega)).symm
    refine ⟨v, sv, v1, by rw [ul_9, if_neg eh]; exact v2, fun i hi => ?_, v4, fun i hi j hj j3 j7 => ?_, fun j hj j3 => ?_⟩
    · obtain ⟨x1, x2, x3, x4⟩ := v3 i hi
      rw [ul_8, r3, ul_7, if_neg (by omega), if_neg (nek _ x3)]
      exact ⟨x1, x2, x3, x4⟩
    · rw [r3] at j3
      rw [ul_7, if_neg (nek _ j3)] at j7
      exact v5 i hi j hj j3 j7
    · rw [r3] at j3
      rw [hac j hj (nek _ j3)]
      exact v6 j hj j3
theorem cUn.redo {ac ac' : Nat → FO} {o : FO} {m hd u : Nat} {st : Nat → Nat} (hU : cUn ac o m) (hh : hd < 6) (hu : cUh ac o m hd (u + 1) st) (hac : ∀ j, j < m → j ≠ st u → fI (ac' j) 6 = fI (ac j) 6) (hak : fI (ac' (st u)) 6 = 0) : cUn ac' (rl o (st u) hd u) m := by
  obtain ⟨u1, u2, u3, u4, u5, u6⟩ := hu
  have r3 : fA (rl o (st u) hd u) 3 = fA o 3 := rl_r (Or.inl (by decide))
  have r8 : fA (rl o (st u) hd u) 8 = fA o 8 := rl_r (Or.inr (Or.inl rfl))
  obtain ⟨w1, w2, w3, w4⟩ := u3 u (by omega)
  intro h1 hh1
  by_cases eh : h1 = hd
  · subst eh
    refine ⟨u, st, by omega, by rw [rl_9, if_pos rfl], fun i hi => ?_, fun i j hij hj => u4 i j hij (by omega), fun i hi j hj j3 j7 => ?_, fun j hj j3 => ?_⟩
    · obtain ⟨v1, v2, v3, v4⟩ := u3 i (by omega)
      have := u4 i u hi (by omega)
      rw [r8, r3, rl_7, if_neg (by omega)]
      exact ⟨v1, v2, v3, v4⟩
    · rw [r3] at j3
      rw [rl_7] at j7
      have := u4 i u hi (by omega)
      by_cases e : j = st u
      · omega
      · rw [if_neg e] at j7
        exact u5 i (by omega) j hj j3 j7
    · rw [r3] at j3
      by_cases e : j = st u
      · subst e
        refine ⟨fun z => absurd hak z, fun ⟨i, hi, z⟩ => ?_⟩
        have := u4 i u hi (by omega)
        omega
      · rw [hac j hj e, u6 j hj j3]
        constructor
        · rintro ⟨i, hi, z⟩
          refine ⟨i, ?_, z⟩
          rcases Nat.lt_or_ge i u with y | y
          · exact y
          · have : i = u := by omega
            subst this
            exact absurd z.symm e
        · rintro ⟨i, hi, z⟩
          exact ⟨i, by omega, z⟩
  · obtain ⟨v, sv, v1, v2, v3, v4, v5, v6⟩ := hU h1 hh1
    have nek : ∀ j, fA o 3 j = nI h1 → j ≠ st u := fun j j3 e => by
      rw [e, w3] at j3
      exact eh (q_nIi j3 (by omega) (by omega)).symm
    refine ⟨v, sv, v1, by rw [rl_9, if_neg eh]; exact v2, fun i hi => ?_, v4, fun i hi j hj j3 j7 => ?_, fun j hj j3 => ?_⟩
    · obtain ⟨x1, x2, x3, x4⟩ := v3 i hi
      rw [r8, r3, rl_7, if_neg (nek _ x3)]
      exact ⟨x1, x2, x3, x4⟩
    · rw [r3] at j3
      rw [rl_7, if_neg (nek _ j3)] at j7
      exact v5 i hi j hj j3 j7
    · rw [r3] at j3
      rw [hac j hj (nek _ j3)]
      exact v6 j hj j3
section CU
variable {g : GH} {A : Rl → Nat} {ob : Rl → FO} {D : GD} {n m ne np : Nat} {E : Nat → AB} {K : GH → Prop}
theorem w_latest (h : IV g A ob D n m ne np E) {p : Int32} {post : Int32 → Prop} (h0 : (∀ k, k < m → fA (ob rMd) 3 k = p → fA (ob rMd) 7 k = 0) → post (-1))
    (h1 : ∀ k, k < m → fA (ob rMd) 3 k = p → ¬ fA (ob rMd) 7 k = 0 → (∀ j, k < j → j < m → fA (ob rMd) 3 j = p → fA (ob rMd) 7 j = 0) → post (nI k)) : wp_X7_latestLiveAct (A rRm) p g post := by
  have m200 := h.m200
  have key : ∀ i n', i ≤ m → i < n' → (∀ j, i ≤ j → j < m → fA (ob rMd) 3 j = p → fA (ob rMd) 7 j = 0) → wp_X7_latestLiveAct_10 (A rRm) p g post n' (nI i - 1) := by
    intro i
    induction i with
    | zero =>
      intro n' hi hn hI
      obtain ⟨n', rfl⟩ : ∃ n'', n' = n'' + 1 := ⟨n' - 1, by omega⟩
      exact ⟨fun _ => h0 fun k hk => hI k (Nat.zero_le _) hk, fun z => absurd (by decide : nI 0 - 1 < 0) z⟩
    | succ i ih =>
      intro n' hi hn hI
      obtain ⟨n', rfl⟩ : ∃ n'', n' = n'' + 1 := ⟨n' - 1, by omega⟩
      rw [nI_pred]
      have him : i < m := by omega
      have ha := h.ac.2 i him
      have e0 : fI (ob (rAc i)) 0 = fA (ob rMd) 3 i := ha.1
      have e5 : fI (ob (rAc i)) 5 = fA (ob rMd) 7 i := ha.2.2.2.2.2
      have skip : (fA (ob rMd) 3 i = p → fA (ob rMd) 7 i = 0) → wp_X7_latestLiveAct_43 (A rRm) p g post (fun x2 => wp_X7_latestLiveAct_10 (A rRm) p g post n' x2) (nI i) := fun z => by
        show wp_X7_latestLiveAct_10 (A rRm) p g post n' (nI i + (-1))
        rw [qn_n1]
        refine ih n' (by omega) (by omega) fun j j1 j2 => ?_
        by_cases c : j = i
        · subst c; exact z
        · exact hI j (by omega) j2
      refine ⟨fun z => absurd z (nI_pos (by omega)), fun _ => ⟨_, h.1.rm, _, h.1.l1, h.1.in1 him, _, h.1.ac him, _, h.1.ac him, ?_⟩⟩
      rw [e0]
      refine ⟨fun z => skip fun y => absurd y z, fun z => ⟨_, h.1.ac him, ?_⟩⟩
      rw [e5]
      exact ⟨fun y => skip fun _ => y, fun y => h1 i him z y fun j j1 j2 => hI j (by omega) j2⟩
  refine ⟨_, h.1.rm, _, h.1.l1, ?_⟩
  rw [h.1.n1]
  exact key m 1000 (Nat.le_refl _) (by omega) fun j j1 j2 => by omega
theorem w_setLive (h : HQ g A ob D n m ne np) {k : Nat} {v : Int32} {post : GH → Prop} (hk : k < m) (hv : v = 0 ∨ v = 1) (K : post (hu g (A (rAc k)) (1, sI (sI (ob (rAc k)) 5 v) 6 (if v = 0 then 1 else 0)))) : wp_X7_setLive (A rRm) (nI k) v g post := by
  have m200 := h.m200
  refine ⟨fun z => absurd z (nI_pos (by omega)), fun _ => ⟨_, h.rm, _, h.l1, ?_⟩⟩
  rw [h.n1]
  refine ⟨fun z => absurd z (nI_ge hk (by omega)), fun _ => ⟨_, h.rm, _, h.l1, h.in1 hk, _, h.ac hk, _, h.ac hk, qn_b01 hv, ?_⟩⟩
  rintro _ rfl
  rw [h.pac hk]
  refine ⟨fun z => ⟨_, hu_s, ?_⟩, fun z => ⟨_, hu_s, ?_⟩⟩
  · rintro _ rfl
    rw [hu_hu]
    rw [if_neg z] at K
    exact K
  · rintro _ rfl
    rw [hu_hu]
    rw [if_pos z] at K
    exact K
/-- all acts anew on the board, when the tables are others: class -/
theorem cl_anew (h : IV g A ob D n m ne np E) {k : Nat} {v : Int32} {o1 : FO} {rest : GH → Prop} (hk : k < m) (hv : v = 0 ∨ v = 1) (hr : ∀ j, 10 < j → fA o1 j = fA (ob rMd) j) (hr2 : ∀ j, j = 2 ∨ j = 3 ∨ j = 4 ∨ j = 5 ∨ j = 6 → fA o1 j = fA (ob rMd) j) (h7 : ∀ j, fA o1 7 j = if j = k then v else fA (ob rMd) 7 j)
    (e1 : fI o1 1 = fI (ob rMd) 1) (e10 : fI o1 10 = fI (ob rMd) 10) (e25 : fI o1 25 = fI (ob rMd) 25) (e48 : fI o1 48 = fI (ob rMd) 48)
    (hU : ∀ ac' : Nat → FO, (∀ j, j < m → j ≠ k → fI (ac' j) 6 = fI (ob (rAc j)) 6) → fI (ac' k) 6 = (if v = 0 then 1 else 0) → cUn ac' o1 m)
    (K : ∀ g' ob', HQ g' A ob' D n m ne np → (ob' rMd = ob rMd ∧ ob' rOut = ob rOut) → WFA o1 n m → WFS o1 n → (∀ q g19 g20 g21 g22 g23 g24, MR q g19 g20 g21 g22 g23 g24 (abFold o1 m) → CT (ob' rRm) (ob' rBd) (brd o1 q g19 g20 g21 g22 g23 g24) (fun j => ob' (rSh j)) (fun j => ob' (rAc j)) (fun j => ob' (rEd j)) (fun j => ob' (rWn j)) (fun j => ob' (rKb j)) (fun j => ob' (rPy j)) (fun e j => ob' (rCp e j)) n m ne np D.2.2.2.2.1 E) → rest g') :
    wp_X7_setLive (A rRm) (nI k) v g (fun g14 => ∃ o16, g14 (A rRm) = some (8, o16) ∧ ∃ o18, g14 (A rRm) = some (8, o18) ∧ wp_X7_doAllActs (A rRm) (fR o16 4) g14 rest) := by
  refine w_setLive h.1 hk hv ?_
  obtain ⟨X, hX⟩ : ∃ X, X = sI (sI (ob (rAc k)) 5 v) 6 (if v = 0 then 1 else 0) := ⟨_, rfl⟩
  rw [← hX]
  have q1 := h.1.setAc (k := k) (Nat.lt_of_lt_of_le hk h.1.2.2.1.2.1) X
  have f : ∀ q : Rl, q.1 ≠ 4 → rup ob (rAc k) X q = ob q := fun q hq => rup_k hq
  have hA : WFA o1 n m := h.ac.1.live hr2 fun j hj => by
    rw [h7]
    split
    · exact hv
    · exact (h.ac.1 j hj).2.2.2.1
  have hS : WFS o1 n := by
    unfold WFS
    rw [hr 11 (by decide), hr 12 (by decide), hr 13 (by decide), hr 14 (by decide), hr 15 (by decide)]
    exact h.sh.1
  have hac : ∀ j, j < m → acF (rup ob (rAc k) X (rAc j)) o1 j := fun j hj => by
    by_cases e : j = k
    · subst e
      rw [rup_s]
      refine acF_re (h.ac.2 j hj) hr2 (fun i hi => ?_) ?_
      · rw [hX, qs_fIsI, if_neg (by omega), qs_fIsI, if_neg (by omega)]
      · rw [h7, if_pos rfl, hX]; rfl
    · rw [rup_j (show (rAc j).2.1 ≠ (rAc k).2.1 from e)]
      refine acF_re (h.ac.2 j hj) hr2 (fun i hi => rfl) ?_
      rw [h7, if_neg e]
      exact (h.ac.2 j hj).2.2.2.2.2
  refine ⟨_, q1.rm, _, q1.rm, ?_⟩
  rw [q1.p4]
  refine w_doAll (o := o1) q1 (Or.inl rfl) hac (fun j hj => ?_) hA hS fun x hx1 hx2 => ?_
  · rw [f (rSh j) (by decide : ¬ (3 : Nat) = 4)]
    unfold shF
    rw [hr 11 (by decide), hr 12 (by decide), hr 13 (by decide), hr 14 (by decide), hr 15 (by decide), hr 16 (by decide)]
    exact h.sh.2 j hj
  · have q2 := q1.setBd x
    have f2 : ∀ q : Rl, q.1 ≠ 2 → q.1 ≠ 4 → rup (rup ob (rAc k) X) rBd x q = ob q := fun q a b => (rup_k a).trans (f q b)
    refine K _ _ q2 ⟨f2 _ (by decide) (by decide), f2 _ (by decide) (by decide)⟩ hA hS fun q g19 g20 g21 g22 g23 g24 hM => ?_
    have f3 : (fun j => rup (rup ob (rAc k) X) rBd x (rSh j)) = fun j => ob (rSh j) := funext fun j => f2 _ (by decide : ¬ (3 : Nat) = 2) (by decide : ¬ (3 : Nat) = 4)
    have f5 : (fun j => rup (rup ob (rAc k) X) rBd x (rEd j)) = fun j => ob (rEd j) := funext fun j => f2 _ (by decide : ¬ (5 : Nat) = 2) (by decide : ¬ (5 : Nat) = 4)
    have f6 : (fun j => rup (rup ob (rAc k) X) rBd x (rWn j)) = fun j => ob (rWn j) := funext fun j => f2 _ (by decide : ¬ (6 : Nat) = 2) (by decide : ¬ (6 : Nat) = 4)
    have f7 : (fun j => rup (rup ob (rAc k) X) rBd x (rKb j)) = fun j => ob (rKb j) := funext fun j => f2 _ (by decide : ¬ (7 : Nat) = 2) (by decide : ¬ (7 : Nat) = 4)
    have f10 : (fun j => rup (rup ob (rAc k) X) rBd x (rPy j)) = fun j => ob (rPy j) := funext fun j => f2 _ (by decide : ¬ (10 : Nat) = 2) (by decide : ¬ (10 : Nat) = 4)
    have f9 : (fun e j => rup (rup ob (rAc k) X) rBd x (rCp e j)) = fun e j => ob (rCp e j) := funext fun e => funext fun j => f2 _ (by decide : ¬ (9 : Nat) = 2) (by decide : ¬ (9 : Nat) = 4)
    have f4 : ∀ j, rup (rup ob (rAc k) X) rBd x (rAc j) = rup ob (rAc k) X (rAc j) := fun j => rup_k (by decide : ¬ (4 : Nat) = 2)
    rw [f3, f5, f6, f7, f10, f9, f2 rRm (by decide) (by decide), rup_s]
    refine h.2.re hr e1 e10 e25 e48 hA (fun j hj => ?_) (hU _ (fun j hj hne => ?_) ?_) hx1 hx2 hM
    · show acF (rup (rup ob (rAc k) X) rBd x (rAc j)) o1 j
      rw [f4]; exact hac j hj
    · show fI (rup (rup ob (rAc k) X) rBd x (rAc j)) 6 = _
      rw [f4, rup_j (show (rAc j).2.1 ≠ (rAc k).2.1 from hne)]
    · show fI (rup (rup ob (rAc k) X) rBd x (rAc k)) 6 = _
      rw [f4, rup_s, hX]; rfl
end CU
section CV2
variable {g : GH} {A : Rl → Nat} {ob : Rl → FO} {D : GD} {n m ne np : Nat} {E : Nat → AB} {K : GH → Prop}
/-- the reference's search of the latest live act -/
theorem m_latest {o : FO} {p : Int32} {post : Int32 → FO → Prop} (h1 : fI o 1 = nI m) (m200 : m ≤ 200) (h0 : (∀ k, k < m → fA o 3 k = p → fA o 7 k = 0) → wp_X8_undo_92 p post (-1) o)
    (hk : ∀ k, k < m → fA o 3 k = p → ¬ fA o 7 k = 0 → (∀ j, k < j → j < m → fA o 3 j = p → fA o 7 j = 0) → wp_X8_undo_85 p post (nI k) (nI k) o) : wp_X8_undo_29 p post 1000 (-1) 0 o := by
  refine lq1 (fun n' i x => wp_X8_undo_29 p post n' x i o) (fun i x => (x = -1 ∧ ∀ k, k < i → fA o 3 k = p → fA o 7 k = 0) ∨ ∃ k, k < i ∧ x = nI k ∧ fA o 3 k = p ∧ ¬ fA o 7 k = 0 ∧ ∀ j, k < j → j < i → fA o 3 j = p → fA o 7 j = 0) m (by omega) ?_ ?_ 0 (-1) (by omega) (Or.inl ⟨rfl, fun k hk => by omega⟩)
  · intro n' x hx
    refine ⟨fun _ => ?_, fun z => absurd (by rw [h1]; exact Int32.le_refl _) z⟩
    rcases hx with ⟨rfl, h⟩ | ⟨k, k1, rfl, k2, k3, k4⟩
    · exact ⟨fun _ => h0 h, fun z => absurd rfl z⟩
    · have ne : ¬ nI k = -1 := oI_ne (by omega)
      exact ⟨fun z => absurd z ne, fun _ => ⟨fun _ => hk k k1 k2 k3 k4, fun z => absurd z ne⟩⟩
  · intro n' i x hi hx kk
    have skip : (fA o 3 i = p → fA o 7 i = 0) → wp_X8_undo_29 p post n' x (nI i + 1) o := fun z => kk x (by
      rcases hx with ⟨h, h'⟩ | ⟨k, k1, k2, k3, k4, k5⟩
      · exact Or.inl ⟨h, fun k hk => by
          by_cases c : k = i
          · subst c; exact z
          · exact h' k (by omega)⟩
      · exact Or.inr ⟨k, by omega, k2, k3, k4, fun j j1 j2 => by
          by_cases c : j = i
          · subst c; exact z
          · exact k5 j j1 (by omega)⟩)
    refine ⟨fun z => absurd z (by rw [h1]; exact nI_ge hi (by omega)), fun _ => ⟨vp_in_nI (by omega) (by decide), ?_⟩⟩
    rw [qn_cl (by omega)]
    refine ⟨fun z => skip fun _ => z, fun z => ⟨vp_in_nI (by omega) (by decide), fun y => skip fun y2 => absurd y2 y, fun y => kk _ (Or.inr ⟨i, by omega, rfl, y, z, fun j j1 j2 => by omega⟩)⟩⟩
theorem c_undo (h : IV g A ob D n m ne np E) (k : ∀ g', NX A np g' → K g') (p : Int32) {post : Int32 → GH → Prop} (hp : ∀ xx g', (∃ o, g' (A rMd) = some (9, o) ∧ wp_X8_undo p o (fun v o' => LW (A rMd) (A rOut) K xx v o' g')) → post xx g') : wp_L_undo (A rRm) p (A rOut) g post := by
  have m200 := h.m200
  have n40 := h.n40
  by_cases hh : ∃ hd, hd < 6 ∧ p = nI hd
  · obtain ⟨hd, hh, rfl⟩ := hh
    have bad92 : ∀ x, wp_X8_undo_92 (nI hd) (fun v o' => LW (A rMd) (A rOut) K 2 v o' g) x (sI (ob rMd) 0 0) := fun x => by
      rintro _ rfl
      rw [sI2]
      exact t_no (Or.inr (Or.inl rfl)) (h.qT k (by decide))
    have start : ∀ (pst : Int32 → FO → Prop), wp_X8_undo_29 (nI hd) pst 1000 (-1) 0 (sI (ob rMd) 0 0) → wp_X8_undo (nI hd) (ob rMd) pst := fun pst w => by
      refine m_hand1 hh (b1 ?_)
      rintro _ rfl
      exact t_ok rfl w
    refine ⟨_, h.1.rm, w_handT hh ⟨_, h.1.rm, w_latest h (fun h0 => ?_) (fun x hx e3 e7 hl => ?_)⟩⟩
    · refine ⟨fun _ => Or.inr ⟨rfl, hp 2 _ ⟨_, h.md, start _ (m_latest (o := sI (ob rMd) 0 0) h.n1 m200 (fun _ => bad92 _) (fun x hx e3 e7 _ => absurd (h0 x hx e3) e7))⟩⟩, fun z => absurd rfl z⟩
    · have uniq : ∀ y, y < m → fA (ob rMd) 3 y = nI hd → ¬ fA (ob rMd) 7 y = 0 → (∀ j, y < j → j < m → fA (ob rMd) 3 j = nI hd → fA (ob rMd) 7 j = 0) → y = x := fun y hy y3 y7 yl => by
        rcases Nat.lt_trichotomy y x with c | c | c
        · exact absurd (yl x c hx e3) e7
        · exact c
        · exact absurd (hl y c hy y3) y7
      have e71 : fA (ob rMd) 7 x = 1 := ((h.ac.1 x hx).2.2.2.1).resolve_left e7
      refine ⟨fun z => absurd z (oI_ne (by omega)), fun _ => ⟨_, h.1.rm, w_lowest h (by omega) (fun h0 => ⟨fun _ => ⟨_, h.1.rm, ?_⟩, fun z => absurd rfl z⟩) (fun e he h1 h2 => ⟨fun z => absurd z (oI_ne (by have := h.ne8; omega)), fun _ => Or.inr ⟨rfl, hp 2 _ ⟨_, h.md, start _ ?_⟩⟩⟩)⟩⟩
      · obtain ⟨u, st, hu⟩ := h.un hd hh
        have u200 : u < 200 ∧ u + 1 ≤ m := by
          obtain ⟨u1, u2, u3, u4, u5, u6⟩ := hu
          by_cases c : u = 0
          · omega
          · have := (u3 (u - 1) (by omega)).2.1
            have := u5 (u - 1) (by omega) x hx e3 e71
            omega
        have hr7 : ∀ j, (j < 7 ∨ 9 < j) → fA (ul (sI (ob rMd) 0 0) x hd u) j = fA (ob rMd) j := fun j hj => ul_r (o := sI (ob rMd) 0 0) hj
        refine cl_anew h (k := x) (v := 0) (o1 := ul (sI (ob rMd) 0 0) x hd u) hx (Or.inl rfl) (fun j hj => hr7 j (Or.inr (by omega))) (fun j hj => hr7 j (Or.inl (by omega))) (fun j => rfl) rfl rfl rfl rfl (fun ac' a1 a2 => ?_) (fun g' ob' hQ eO hA hS hCT => ?_)
        · rw [if_pos rfl] at a2
          have hU0 : cUn (fun j => ob (rAc j)) (sI (ob rMd) 0 0) m := h.un
          exact hU0.undo hh m200 hu hx e3 e71 (fun j j1 j2 j3 j7 => by
            have := hl j j1 j2 j3
            have j7 : fA (ob rMd) 7 j = 1 := j7
            rw [this] at j7
            exact absurd j7 (by decide)) (fun j hj hne => a1 j hj hne) (by rw [a2]; decide)
        · have hout := hQ.out
          rw [eO.2] at hout
          have hmd := hQ.md
          rw [eO.1] at hmd
          refine ⟨_, hout, ?_⟩
          rintro _ rfl
          refine hp 0 _ ⟨_, by rw [hu_n (fun z => h.om z.symm)]; exact hmd, start _ (m_latest (o := sI (ob rMd) 0 0) h.n1 m200 (fun z => absurd (z x hx e3) e7) (fun y hy y3 y7 yl => ?_))⟩
          have := uniq y hy y3 y7 yl
          subst this
          refine w_holderOf (o := sI (ob rMd) 0 0) h.n25 h.ne8 (by omega) (fun _ => ⟨fun _ => ?_, fun z => absurd rfl z⟩) (fun e he h1 _ => absurd (h0 e he) h1)
          rintro _ rfl
          rw [sI2]
          have e9 : fA (ob rMd) 9 hd = nI u := hu.2.1
          have hin6 : vp_in (nI hd) 6 := vp_in_nI hh (by decide)
          refine t_ok rfl ⟨vp_in_nI (by omega) (by decide), ?_⟩
          rintro _ rfl
          refine ⟨hin6, ?_, ?_⟩
          · show vp_in (200 * nI hd + fA (ob rMd) 9 (nI hd).toNatClampNeg) 1200
            rw [qn_cl (by omega), e9, q_ix200]
            exact vp_in_nI (by omega) (by decide)
          · rintro _ rfl
            refine ⟨hin6, hin6, ?_⟩
            rintro _ rfl
            show wp_X8_anew (sA (sA (sA (sI (ob rMd) 0 0) 7 (nI y).toNatClampNeg 0) 8 (200 * nI hd + fA (ob rMd) 9 (nI hd).toNatClampNeg).toNatClampNeg (nI y)) 9 (nI hd).toNatClampNeg (fA (ob rMd) 9 (nI hd).toNatClampNeg + 1)) _
            rw [qn_cl (show hd < 2147483648 by omega), qn_cl (show y < 2147483648 by omega), e9, q_ix200, qn_cl (show 200 * hd + u < 2147483648 by omega), nI_1]
            exact w_anew (o := ul (sI (ob rMd) 0 0) y hd u) h.n10 h.n1 n40 m200 hA hS (h20_of h.bd.2.2.2.2.1 h.abw) fun q g19 g20 g21 g22 g23 g24 hM' => h.uV k hQ ⟨rfl, rfl, rfl⟩ (Nat.le_succ _) rfl rfl (hCT _ _ _ _ _ _ _ hM')
      · refine m_latest (o := sI (ob rMd) 0 0) h.n1 m200 (fun _ => bad92 _) (fun y hy y3 y7 yl => ?_)
        have := uniq y hy y3 y7 yl
        subst this
        exact w_holderOf (o := sI (ob rMd) 0 0) h.n25 h.ne8 (by omega) (fun z => absurd (z e he) h1) (fun e' he' _ _ => ⟨fun z => absurd z (oI_ne (by have := h.ne8; omega)), fun _ => bad92 _⟩)
  · refine ⟨_, h.1.rm, w_handF hh (Or.inl ⟨rfl, hp 1 _ ⟨_, h.md, m_hand0 hh (b0 ?_)⟩⟩)⟩
    rintro _ rfl
    exact t_no (Or.inl rfl) (h.qT k (by decide))
theorem w_undoneLast (h : IV g A ob D n m ne np E) {hd u : Nat} {st : Nat → Nat} {post : Int32 → Prop} (hu : cUh (fun j => ob (rAc j)) (ob rMd) m hd u st) (h0 : u = 0 → post (-1)) (h1 : ∀ v, u = v + 1 → post (nI (st v))) : wp_X7_actUndoneLast (A rRm) (nI hd) g post := by
  have m200 := h.m200
  obtain ⟨u1, u2, u3, u4, u5, u6⟩ := hu
  refine lq0 (fun n' i => wp_X7_actUndoneLast_2 (A rRm) (nI hd) g post n' i) (fun i => ∀ j, j < u → i ≤ st j) m (by omega) ?_ ?_ 0 (by omega) (fun j hj => Nat.zero_le _)
  · intro n' hI
    refine ⟨_, h.1.rm, _, h.1.l1, ?_⟩
    rw [h.1.n1]
    refine ⟨fun _ => h0 ?_, fun z => absurd (Int32.le_refl _) z⟩
    rcases Nat.eq_zero_or_pos u with c | c
    · exact c
    · have := hI 0 c
      have := (u3 0 c).2.1
      omega
  · intro n' i hi hI kk
    have ha := h.ac.2 i hi
    have e0 : fI (ob (rAc i)) 0 = fA (ob rMd) 3 i := ha.1
    have skip : (¬ ∃ j, j < u ∧ st j = i) → wp_X7_actUndoneLast_42 (A rRm) (nI hd) g post (fun x2 => wp_X7_actUndoneLast_2 (A rRm) (nI hd) g post n' x2) (nI i) := fun z => kk fun j hj => by
      have := hI j hj
      have : st j ≠ i := fun y => z ⟨j, hj, y⟩
      omega
    refine ⟨_, h.1.rm, _, h.1.l1, ?_⟩
    rw [h.1.n1]
    refine ⟨fun z => absurd z (nI_ge hi (by omega)), fun _ => ⟨_, h.1.rm, _, h.1.l1, h.1.in1 hi, _, h.1.ac hi, _, h.1.ac hi, ?_⟩⟩
    rw [e0]
    refine ⟨fun z => skip fun ⟨j, hj, y⟩ => z (by rw [← y]; exact (u3 j hj).2.2.1), fun z => ⟨_, h.1.ac hi, fun y => skip fun y2 => (u6 i hi z).mpr y2 y, fun y => ?_⟩⟩
    obtain ⟨j, hj, y2⟩ := (u6 i hi z).mp y
    obtain ⟨v, rfl⟩ : ∃ v, u = v + 1 := ⟨u - 1, by omega⟩
    have : j = v := by
      rcases Nat.lt_or_ge j v with c | c
      · have := u4 j v c (by omega)
        have := hI v (by omega)
        omega
      · omega
    subst this
    rw [← y2]
    exact h1 j rfl
theorem c_redo (h : IV g A ob D n m ne np E) (k : ∀ g', NX A np g' → K g') (p : Int32) {post : Int32 → GH → Prop} (hp : ∀ xx g', (∃ o, g' (A rMd) = some (9, o) ∧ wp_X8_redo p o (fun v o' => LW (A rMd) (A rOut) K xx v o' g')) → post xx g') : wp_L_redo (A rRm) p (A rOut) g post := by
  have m200 := h.m200
  have n40 := h.n40
  by_cases hh : ∃ hd, hd < 6 ∧ p = nI hd
  · obtain ⟨hd, hh, rfl⟩ := hh
    have hin6 : vp_in (nI hd) 6 := vp_in_nI hh (by decide)
    obtain ⟨u, st, hu⟩ := h.un hd hh
    have e9 : fA (ob rMd) 9 hd = nI u := hu.2.1
    refine ⟨_, h.1.rm, w_handT hh ⟨_, h.1.rm, w_undoneLast h hu (fun hu0 => ?_) (fun v hv => ?_)⟩⟩
    · subst hu0
      refine ⟨fun z => absurd rfl z, fun _ => Or.inr ⟨rfl, hp 2 _ ⟨_, h.md, m_hand1 hh (b1 ?_)⟩⟩⟩
      rintro _ rfl
      refine t_ok rfl ⟨hin6, ?_⟩
      rw [qn_cl (by omega)]
      refine ⟨fun z => absurd e9 z, fun _ => ?_⟩
      rintro _ rfl
      rw [sI2]
      exact t_no (Or.inr (Or.inl rfl)) (h.qT k (by decide))
    · subst hv
      obtain ⟨w1, w2, w3, w4⟩ := hu.2.2.1 v (by omega)
      have hx : st v < m := by omega
      have v200 := hu.1
      refine ⟨fun _ => ⟨_, h.1.rm, ?_⟩, fun z => absurd z (oI_ne (by omega))⟩
      have hr7 : ∀ j, (j < 7 ∨ j = 8 ∨ 9 < j) → fA (rl (sI (ob rMd) 0 0) (st v) hd v) j = fA (ob rMd) j := fun j hj => rl_r (o := sI (ob rMd) 0 0) hj
      refine cl_anew h (k := st v) (v := 1) (o1 := rl (sI (ob rMd) 0 0) (st v) hd v) hx (Or.inr rfl) (fun j hj => hr7 j (Or.inr (Or.inr (by omega)))) (fun j hj => hr7 j (Or.inl (by omega))) (fun j => rfl) rfl rfl rfl rfl (fun ac' a1 a2 => ?_) (fun g' ob' hQ eO hA hS hCT => ?_)
      · rw [if_neg (by decide)] at a2
        have hU0 : cUn (fun j => ob (rAc j)) (sI (ob rMd) 0 0) m := h.un
        exact hU0.redo hh hu (fun j hj hne => a1 j hj hne) a2
      · have hout := hQ.out
        rw [eO.2] at hout
        have hmd := hQ.md
        rw [eO.1] at hmd
        refine ⟨_, hout, ?_⟩
        rintro _ rfl
        refine hp 0 _ ⟨_, by rw [hu_n (fun z => h.om z.symm)]; exact hmd, m_hand1 hh (b1 ?_)⟩
        rintro _ rfl
        refine t_ok rfl ⟨hin6, ?_⟩
        rw [qn_cl (by omega)]
        have e9' : fA (sI (ob rMd) 0 0) 9 hd = nI (v + 1) := e9
        rw [e9']
        refine ⟨fun _ => ?_, fun z => absurd z (nI_ne0 (by omega) (by omega))⟩
        rintro _ rfl
        rw [sI2]
        refine t_ok rfl ⟨hin6, hin6, ?_⟩
        rintro _ rfl
        rw [qn_cl (by omega), e9', nI_pred]
        have e9n : fA (sA (sI (ob rMd) 0 0) 9 hd (nI v)) 9 hd = nI v := by
          show (if hd = hd then nI v else _) = _
          rw [if_pos rfl]
        rw [e9n, q_ix200, qn_cl (show 200 * hd + v < 2147483648 by omega)]
        have e8 : fA (sA (sI (ob rMd) 0 0) 9 hd (nI v)) 8 (200 * hd + v) = nI (st v) := w1
        rw [e8, qn_cl (show st v < 2147483648 by omega)]
        refine ⟨hin6, vp_in_nI (by omega) (by decide), vp_in_nI (by omega) (by decide), ?_⟩
        rintro _ rfl
        exact w_anew (o := rl (sI (ob rMd) 0 0) (st v) hd v) h.n10 h.n1 n40 m200 hA hS (h20_of h.bd.2.2.2.2.1 h.abw) fun q g19 g20 g21 g22 g23 g24 hM' => h.uV k hQ ⟨rfl, rfl, rfl⟩ (Nat.le_succ _) rfl rfl (hCT _ _ _ _ _ _ _ hM')
  · refine ⟨_, h.1.rm, w_handF hh (Or.inl ⟨rfl, hp 1 _ ⟨_, h.md, m_hand0 hh (b0 ?_)⟩⟩)⟩
    rintro _ rfl
    exact t_no (Or.inl rfl) (h.qT k (by decide))
end CV2
end
