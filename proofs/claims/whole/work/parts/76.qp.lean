section
/-! pure layer P: an act is told -/
theorem CV.cong {ob : FO} {A : AB} {W H W' H' : Nat → Int32} (h : CV ob A W H) (hw : ∀ s, s ∈ aO A → W' s = W s ∧ H' s = H s) : CV ob A W' H' := ⟨h.1, fun k hk => by
  obtain ⟨a, b, c, d, e⟩ := h.2.1 k hk
  exact ⟨a, b, by rw [(hw k hk).1]; exact c, by rw [(hw k hk).2]; exact d, e⟩, h.2.2⟩
theorem ABb.cong {A : AB} {W H W' H' : Nat → Int32} (h : ABb A W H) (hw : ∀ s, s ∈ aO A → W' s = W s ∧ H' s = H s) : ABb A W' H' := fun s hs => by
  rw [(hw s hs).1, (hw s hs).2]
  exact h s hs
theorem cEd.cong {ed wn kb : FO} {cp : Nat → FO} {o o' : FO} {n n' m m' e : Nat} {E : AB} {c : Nat} (h : cEd ed wn kb cp o n m e E c) (hr : ∀ k, 25 < k → fA o' k = fA o k) (hw : ∀ s, s < n → fA o' 12 s = fA o 12 s ∧ fA o' 13 s = fA o 13 s) (hn : n ≤ n') (hm : m ≤ m') : cEd ed wn kb cp o' n' m' e E c := by
  obtain ⟨h1, h2, h3, h4, h5, h6, h7, ⟨v1, v2, v3, v4, v5⟩, h9, h10, h11⟩ := h
  refine ⟨?_, ?_, ?_, ?_, ?_, ?_, ?_, ⟨?_, ?_, v3, fun s hs => Nat.lt_of_lt_of_le (v4 s hs) hn, ?_⟩, ?_, ?_, ?_⟩
  · obtain ⟨c0, r0, w, t, a, b, c⟩ := h1
    exact ⟨c0, r0, w, t, a, by rw [hr 27 (by decide), hr 28 (by decide), hr 29 (by decide), hr 30 (by decide)]; exact b, c⟩
  · rw [hr 26 (by decide)]; exact h2
  · rw [hr 32 (by decide)]; exact h3
  · rw [hr 35 (by decide)]; exact h4
  · rw [hr 33 (by decide)]; exact h5
  · rw [hr 36 (by decide)]; exact h6
  · rw [hr 36 (by decide)]; exact fun k hk => h7 k (by omega)
  · exact v1.cong fun s hs => hw s (v4 s hs)
  · unfold MK
    rw [hr 37 (by decide), hr 38 (by decide), hr 39 (by decide), hr 40 (by decide), hr 41 (by decide)]; exact v2
  · exact v5.cong fun s hs => hw s (v4 s hs)
  · rw [hr 31 (by decide)]; exact h9
  · rw [hr 34 (by decide)]
    obtain ⟨sc, a, b, c, d⟩ := h10
    exact ⟨sc, a, b, c, fun j hj => by
      unfold cCp
      rw [hr 42 (by decide), hr 43 (by decide), hr 44 (by decide), hr 45 (by decide)]
      exact d j hj⟩
  · rw [hr 42 (by decide)]; exact h11
theorem cFr.cong {o o' : FO} {ne : Nat} (h : cFr o ne) (hr : ∀ k, 25 < k → fA o' k = fA o k) : cFr o' ne := by
  unfold cFr
  rw [hr 33 (by decide), hr 34 (by decide), hr 35 (by decide), hr 36 (by decide), hr 42 (by decide)]
  exact h
theorem cMo.cong {R o o' : FO} (h : cMo R o) (hr : ∀ k, 25 < k → fA o' k = fA o k) (h48 : fI o' 48 = fI o 48) : cMo R o' := by
  unfold cMo
  rw [hr 46 (by decide), hr 47 (by decide), h48]
  exact h
theorem cPy.cong {py : Nat → FO} {R o o' : FO} {ne np : Nat} (h : cPy py R o ne np) (hr : ∀ k, 25 < k → fA o' k = fA o k) : cPy py R o' ne np := by
  unfold cPy
  rw [hr 26 (by decide), hr 35 (by decide)]
  exact h
/-- the tables with one more act -/
def tl (o : FO) (m hd : Nat) (kd s x y : Int32) : FO := sI (sA (sA (sA (sA (sA (sA (sA o 2 m kd) 3 m (nI hd)) 4 m s) 5 m x) 6 m y) 7 m 1) 9 hd 0) 1 (nI (m + 1))
section TLR
variable {o : FO} {m hd : Nat} {kd s x y : Int32}
theorem tl_2 (k : Nat) : fA (tl o m hd kd s x y) 2 k = if k = m then kd else fA o 2 k := rfl
theorem tl_3 (k : Nat) : fA (tl o m hd kd s x y) 3 k = if k = m then nI hd else fA o 3 k := rfl
theorem tl_4 (k : Nat) : fA (tl o m hd kd s x y) 4 k = if k = m then s else fA o 4 k := rfl
theorem tl_5 (k : Nat) : fA (tl o m hd kd s x y) 5 k = if k = m then x else fA o 5 k := rfl
theorem tl_6 (k : Nat) : fA (tl o m hd kd s x y) 6 k = if k = m then y else fA o 6 k := rfl
theorem tl_7 (k : Nat) : fA (tl o m hd kd s x y) 7 k = if k = m then 1 else fA o 7 k := rfl
theorem tl_8 : fA (tl o m hd kd s x y) 8 = fA o 8 := rfl
theorem tl_9 (k : Nat) : fA (tl o m hd kd s x y) 9 k = if k = hd then 0 else fA o 9 k := rfl
theorem tl_r {k : Nat} (h : 9 < k) : fA (tl o m hd kd s x y) k = fA o k := by
  unfold tl
  simp only [qs_fIsI, qs_fIsL, qs_fIsR, qs_fIsA, qs_fIsB, qs_fLsI, qs_fLsL, qs_fLsR, qs_fLsA, qs_fLsB, qs_fRsI, qs_fRsL, qs_fRsR, qs_fRsA, qs_fRsB, qs_fAsI, qs_fAsL, qs_fAsR, qs_fAsA, qs_fAsB, qs_fBsI, qs_fBsL, qs_fBsR, qs_fBsA, qs_fBsB, qs_up]
  rw [if_neg (by omega), if_neg (by omega), if_neg (by omega), if_neg (by omega), if_neg (by omega), if_neg (by omega), if_neg (by omega)]
theorem tl_fold : abFold (tl o m hd kd s x y) m = abFold o m := abFold_cong fun k hk => by
  have e : ¬ k = m := by omega
  rw [tl_2, tl_4, tl_5, tl_6, tl_7, if_neg e, if_neg e, if_neg e, if_neg e, if_neg e]
  exact ⟨rfl, rfl, rfl, rfl, rfl, rfl, rfl, rfl⟩
theorem WFA.tl {n : Nat} (h : WFA o n m) (hh : hd < 6) (hs : ∃ q, q < n ∧ s = nI q) (hk : ∃ q, q < 8 ∧ kd = nI q) (hmv : kd = 1 → (-24 ≤ x.toInt ∧ x.toInt ≤ 24) ∧ (-16 ≤ y.toInt ∧ y.toInt ≤ 16)) (hj : kd = 5 → ∃ t, t < n ∧ x = nI t ∧ x ≠ s)
    (had : kd = 0 → ∀ j, j < m → fA o 2 j = 0 → fA o 4 j ≠ s) : WFA (tl o m hd kd s x y) n (m + 1) := fun k hk2 => by
  rw [tl_2, tl_3, tl_4, tl_5, tl_6, tl_7]
  by_cases e : k = m
  · rw [if_pos e, if_pos e, if_pos e, if_pos e, if_pos e, if_pos e]
    refine ⟨hs, hk, ⟨hd, hh, rfl⟩, Or.inr rfl, hmv, hj, fun z j hj2 z2 => ?_⟩
    rw [tl_2, if_neg (by omega)] at z2
    rw [tl_4, if_neg (by omega)]
    exact had z j (by omega) z2
  · rw [if_neg e, if_neg e, if_neg e, if_neg e, if_neg e, if_neg e]
    obtain ⟨i1, i2, i3, i4, i5, i6, i7⟩ := h k (by omega)
    refine ⟨i1, i2, i3, i4, i5, i6, fun z j hj2 z2 => ?_⟩
    rw [tl_2, if_neg (by omega)] at z2
    rw [tl_4, if_neg (by omega)]
    exact i7 z j hj2 z2
theorem w_tells {n : Nat} {post : FO → Prop} (hm : fI o 1 = nI m) (m200 : m < 200) (hh : hd < 6) (hn : fI o 10 = nI n) (n40 : n ≤ 40) (hA : WFA (tl o m hd kd s x y) n (m + 1)) (hS : WFS o n) (h20 : ∀ k, n ≤ k → k < 40 → fA o 20 k = 0)
    (K : ∀ q g19 g20 g21 g22 g23 g24, MR q g19 g20 g21 g22 g23 g24 (abFold (tl o m hd kd s x y) (m + 1)) → post (brd (tl o m hd kd s x y) q g19 g20 g21 g22 g23 g24)) : wp_X8_tells (nI hd) kd s x y o post := by
  have hv : vp_in (fI o 1) 200 := by rw [hm]; exact vp_in_nI m200 (by decide)
  refine ⟨hv, ?_⟩
  rintro _ rfl
  refine ⟨hv, ?_⟩
  rintro _ rfl
  refine ⟨hv, ?_⟩
  rintro _ rfl
  refine ⟨hv, ?_⟩
  rintro _ rfl
  refine ⟨hv, ?_⟩
  rintro _ rfl
  refine ⟨hv, ?_⟩
  rintro _ rfl
  refine ⟨vp_in_nI hh (by decide), ?_⟩
  rintro _ rfl
  rintro _ rfl
  show wp_X8_anew (sI (sA (sA (sA (sA (sA (sA (sA o 2 (fI o 1).toNatClampNeg kd) 3 (fI o 1).toNatClampNeg (nI hd)) 4 (fI o 1).toNatClampNeg s) 5 (fI o 1).toNatClampNeg x) 6 (fI o 1).toNatClampNeg y) 7 (fI o 1).toNatClampNeg 1) 9 (nI hd).toNatClampNeg 0) 1 (fI o 1 + 1)) _
  rw [hm, nI_1, qn_cl (show m < 2147483648 by omega), qn_cl (show hd < 2147483648 by omega)]
  exact w_anew (o := tl o m hd kd s x y) hn rfl n40 (by omega) hA hS h20 K
end TLR
theorem w_tell {g : GH} {A : Rl → Nat} {ob : Rl → FO} {D : GD} {n m ne np hd : Nat} {o : FO} {post : GH → Prop} (h : HQ g A ob D n m ne np) (hD : m < D.2.1) (m200 : m < 200) (hh : fI (ob (rAc m)) 0 = nI hd)
    (hac : acF (ob (rAc m)) o m) (hsh : ∀ j, j < n → shF (ob (rSh j)) o j) (hA : WFA o n (m + 1)) (hS : WFS o n) (hl : fA o 7 m = 1) (hV : CV (ob rBd) (abFold o m) (fA o 12) (fA o 13)) (hG : CG (ob rBd) (abFold o m) m)
    (K : ∀ g' ob', HQ g' A ob' D n (m + 1) ne np → (∀ q : Rl, q ≠ rBd → q ≠ rLs 1 → ¬ (q.1 = 4 ∧ q.2.1 < m) → ob' q = ob q) → (∀ k, k < m → ob' (rAc k) = if fI (ob (rAc k)) 0 = nI hd then sI (ob (rAc k)) 6 0 else ob (rAc k)) →
      CV (ob' rBd) (abFold o (m + 1)) (fA o 12) (fA o 13) → CG (ob' rBd) (abFold o (m + 1)) (m + 1) → post g') : wp_X7_tell (A rRm) (A (rAc m)) g post := by
  have n40 := h.n40
  have key := lq1 (fun n' i g' => wp_X7_tell_2 (A rRm) (A (rAc m)) post n' i g') (fun i g' => ∃ ob', HQ g' A ob' D n m ne np ∧ (∀ q : Rl, ¬ (q.1 = 4 ∧ q.2.1 < m) → ob' q = ob q) ∧ (∀ k, k < m → ob' (rAc k) = if k < i ∧ fI (ob (rAc k)) 0 = nI hd then sI (ob (rAc k)) 6 0 else ob (rAc k))) m (by omega) ?_ ?_ 0 g (by omega) ⟨ob, h, fun _ _ => rfl, fun k hk => (if_neg (fun z => by have := z.1; omega)).symm⟩
  · exact key
  · rintro n' g' ⟨ob', h', q1, q2⟩
    refine ⟨_, h'.rm, _, h'.l1, ?_⟩
    rw [h'.n1]
    refine ⟨fun _ => ⟨_, h'.rm, _, h'.l1, ?_, fun j hj => ?_, ⟨1, _, by decide, h'.1.get (rAc m) (al_Ac hD)⟩, ?_⟩, fun z => absurd (Int32.le_refl _) z⟩
    · rw [h'.n1]; exact vp_in_nI m200 (by decide)
    · rw [h'.n1, qn_cl (by omega)] at hj
      exact ⟨1, _, by decide, by rw [h'.2.1.2.2.2.1 j hj]; exact h'.acA hj⟩
    · rintro _ rfl
      have h2 := h'.addAc hD m200
      have e4 : rup ob' (rLs 1) (lAdd (ob' (rLs 1)) (A (rAc m))) (rAc m) = ob (rAc m) := by
        rw [rup_k (show (rAc m).1 ≠ (rLs 1).1 from (by decide : ¬ (4 : Nat) = 1))]
        exact q1 _ fun z => Nat.lt_irrefl _ z.2
      have eb : rup ob' (rLs 1) (lAdd (ob' (rLs 1)) (A (rAc m))) rBd = ob rBd := by
        rw [rup_k (show rBd.1 ≠ (rLs 1).1 from (by decide : ¬ (2 : Nat) = 1))]
        exact q1 _ fun z => absurd z.1 (by decide)
      refine ⟨_, h2.rm, _, h2.rm, ?_⟩
      rw [h2.p4]
      obtain ⟨w1, w2⟩ := abFold_ok (m := m + 1) (by omega) n40 hA hS m (by omega)
      obtain ⟨i1, i2, i3, i4, i5, i6, i7⟩ := hA m (by omega)
      have h2' : HQ (hu g' (fR (ob' rRm) 1) (0, lAdd (ob' (rLs 1)) (A (rAc m)))) A (rup ob' (rLs 1) (lAdd (ob' (rLs 1)) (A (rAc m)))) D n (m + 1) ne np := h2
      refine w_perform (k := m) (o := o) (F := abFold o m) (t := m) h2' (al_Ac hD) (Or.inl rfl) (by rw [e4]; exact hac) (fun j hj => ?_) i1 i2 i6 (fun e0 z2 => ?_) (by rw [eb]; exact hV) (by rw [eb]; exact hG) (by omega) w1 fun x hx1 hx2 => ?_
      · rw [rup_k (show (rSh j).1 ≠ (rLs 1).1 from (by decide : ¬ (3 : Nat) = 1)), q1 (rSh j) fun z => absurd z.1 (by decide : ¬ (3 : Nat) = 4)]
        exact hsh j hj
      · obtain ⟨s, hs, es⟩ := i1
        rw [es, qn_cl (by omega)] at z2
        obtain ⟨j, j1, j2, j3⟩ := w2 s z2
        exact i7 e0 j j1 j2 (j3.trans es.symm)
      · have ef : abFold o (m + 1) = abStep o m (abFold o m) := by
          show (if fA o 7 m = 0 then _ else _) = _
          rw [hl]
          exact if_neg (by decide)
        refine K _ _ (h2'.setBd x) (fun q a b c => ?_) (fun k hk => ?_) ?_ ?_
        · rw [rup_n a, rup_n b, q1 q c]
        · rw [rup_k (show (rAc k).1 ≠ rBd.1 from (by decide : ¬ (4 : Nat) = 2)), rup_k (show (rAc k).1 ≠ (rLs 1).1 from (by decide : ¬ (4 : Nat) = 1)), q2 k hk]
          by_cases c : fI (ob (rAc k)) 0 = nI hd
          · rw [if_pos c, if_pos ⟨hk, c⟩]
          · rw [if_neg c, if_neg (fun z => c z.2)]
        · rw [rup_s, ef]; exact hx1
        · rw [rup_s, ef]; exact hx2
  · rintro n' i g' hi ⟨ob', h', q1, q2⟩ kk
    have ei : ob' (rAc i) = ob (rAc i) := by rw [q2 i hi, if_neg (fun z => by have := z.1; omega)]
    have em : ob' (rAc m) = ob (rAc m) := q1 _ fun z => Nat.lt_irrefl _ z.2
    refine ⟨_, h'.rm, _, h'.l1, ?_⟩
    rw [h'.n1]
    refine ⟨fun z => absurd z (nI_ge hi (by omega)), fun _ => ⟨_, h'.rm, _, h'.l1, h'.in1 hi, _, h'.ac hi, _, h'.ac hi, _, h'.1.get (rAc m) (al_Ac hD), ?_⟩⟩
    rw [em, hh]
    refine ⟨fun z => kk g' ⟨ob', h', q1, fun k hk => ?_⟩, fun z => ⟨_, h'.ac hi, ?_⟩⟩
    · rw [q2 k hk]
      by_cases e : k = i
      · subst e
        rw [if_neg (fun y => by have := y.1; omega), if_neg (fun y => z (by rw [ei]; exact y.2))]
      · have : (k < i + 1) ↔ (k < i) := by omega
        simp only [this]
    · rintro _ rfl
      rw [h'.pac hi]
      refine kk _ ⟨rup ob' (rAc i) (sI (ob' (rAc i)) 6 0), h'.setAc (k := i) (by omega) _, fun q hq => ?_, fun k hk => ?_⟩
      · rw [rup_n (fun e => hq (by rw [e]; exact ⟨rfl, hi⟩))]
        exact q1 q hq
      · by_cases e : k = i
        · subst e
          rw [rup_s, ei, if_pos ⟨by omega, by rw [← ei]; exact z⟩]
        · rw [rup_j (show (rAc k).2.1 ≠ (rAc i).2.1 from e), q2 k hk]
          have : (k < i + 1) ↔ (k < i) := by omega
          simp only [this]
theorem CT.tell {R B o : FO} {sh ac ed wn kb py : Nat → FO} {cp : Nat → Nat → FO} {n m ne np : Nat} {cs : Nat → Nat} {E : Nat → AB} (h : CT R B o sh ac ed wn kb py cp n m ne np cs E) {hd : Nat} {kd s x y q : Int32} {B' : FO} {ac' : Nat → FO} {g19 g20 g21 g22 g23 g24 : Nat → Int32} (hh : hd < 6)
    (hac : ∀ k, k < m → ac' k = if fI (ac k) 0 = nI hd then sI (ac k) 6 0 else ac k) (hacm : acF (ac' m) (tl o m hd kd s x y) m) (h6 : fI (ac' m) 6 = 0) (hA : WFA (tl o m hd kd s x y) n (m + 1))
    (hV : CV B' (abFold (tl o m hd kd s x y) (m + 1)) (fA o 12) (fA o 13)) (hG : CG B' (abFold (tl o m hd kd s x y) (m + 1)) (m + 1)) (hM : MR q g19 g20 g21 g22 g23 g24 (abFold (tl o m hd kd s x y) (m + 1))) :
    CT R B' (brd (tl o m hd kd s x y) q g19 g20 g21 g22 g23 g24) sh ac' ed wn kb py cp n (m + 1) ne np cs E := by
  obtain ⟨⟨c1, c2, c3⟩, ⟨s1, s2⟩, ⟨a1, a2⟩, hu', hd', -, he, hf, hm', hp⟩ := h
  have hr : ∀ k, 25 < k → fA (brd (tl o m hd kd s x y) q g19 g20 g21 g22 g23 g24) k = fA o k := fun k hk => by rw [brd_fA (Or.inr (by omega)), tl_r (by omega)]
  have ef : abFold (brd (tl o m hd kd s x y) q g19 g20 g21 g22 g23 g24) (m + 1) = abFold (tl o m hd kd s x y) (m + 1) := abFold_cong fun k _ => ⟨rfl, rfl, rfl, rfl, rfl, rfl, rfl, rfl⟩
  have h0 : ∀ k, k < m → fI (ac k) 0 = fA o 3 k := fun k hk => (a2 k hk).1
  refine ⟨⟨rfl, c2, c3⟩, ⟨s1, s2⟩, ⟨hA, fun k hk => ?_⟩, fun h1 hh1 => ?_, hd', ?_, fun e he' => (he e he').cong hr (fun _ _ => ⟨rfl, rfl⟩) (Nat.le_refl _) (Nat.le_succ _), hf.cong hr, hm'.cong hr rfl, hp.cong hr⟩
  · by_cases e : k = m
    · rw [e]; exact hacm
    · have hkm : k < m := by omega
      obtain ⟨b0, b1, b2, b3, b4, b5⟩ := a2 k hkm
      have ej : ∀ j, j ≠ 6 → fI (ac' k) j = fI (ac k) j := fun j hj => by
        rw [hac k hkm]
        split
        · rw [qs_fIsI, if_neg hj]
        · rfl
      unfold acF
      rw [ej 0 (by decide), ej 1 (by decide), ej 2 (by decide), ej 3 (by decide), ej 4 (by decide), ej 5 (by decide)]
      show fI (ac k) 0 = fA (tl o m hd kd s x y) 3 k ∧ fI (ac k) 1 = fA (tl o m hd kd s x y) 2 k ∧ fI (ac k) 2 = fA (tl o m hd kd s x y) 4 k ∧ ((fA (tl o m hd kd s x y) 2 k = 1 ∨ fA (tl o m hd kd s x y) 2 k = 2 ∨ fA (tl o m hd kd s x y) 2 k = 5) → fI (ac k) 3 = fA (tl o m hd kd s x y) 5 k) ∧ (fA (tl o m hd kd s x y) 2 k = 1 → fI (ac k) 4 = fA (tl o m hd kd s x y) 6 k) ∧ fI (ac k) 5 = fA (tl o m hd kd s x y) 7 k
      rw [tl_2, tl_3, tl_4, tl_5, tl_6, tl_7, if_neg e, if_neg e, if_neg e, if_neg e, if_neg e, if_neg e]
      exact ⟨b0, b1, b2, b3, b4, b5⟩
  · by_cases eh : h1 = hd
    · subst eh
      refine ⟨0, fun _ => 0, Nat.zero_le _, ?_, fun i hi => by omega, fun i j _ hj => by omega, fun i hi => by omega, fun k hk e3 => ?_⟩
      · show (if h1 = h1 then (0 : Int32) else _) = _
        rw [if_pos rfl]; rfl
      · have : fI (ac' k) 6 = 0 := by
          by_cases e : k = m
          · rw [e]; exact h6
          · have e3 : (if k = m then nI h1 else fA o 3 k) = nI h1 := e3
            rw [if_neg e] at e3
            have hkm : k < m := by omega
            rw [hac k hkm, if_pos (by rw [h0 k hkm]; exact e3)]
            rfl
        exact ⟨fun z => absurd this z, fun ⟨i, hi, _⟩ => absurd hi (by omega)⟩
    · obtain ⟨u, st, u1, u2, u3, u4, u5, u6⟩ := hu' h1 hh1
      refine ⟨u, st, by omega, ?_, fun i hi => ?_, u4, fun i hi k hk e3 e7 => ?_, fun k hk e3 => ?_⟩
      · show (if h1 = hd then (0 : Int32) else fA o 9 h1) = _
        rw [if_neg eh]; exact u2
      · obtain ⟨v1, v2, v3, v4⟩ := u3 i hi
        refine ⟨v1, by omega, ?_, ?_⟩
        · show (if st i = m then nI hd else fA o 3 (st i)) = _
          rw [if_neg (by omega)]; exact v3
        · show (if st i = m then (1 : Int32) else fA o 7 (st i)) = _
          rw [if_neg (by omega)]; exact v4
      · have e3 : (if k = m then nI hd else fA o 3 k) = nI h1 := e3
        have e7 : (if k = m then (1 : Int32) else fA o 7 k) = 1 := e7
        by_cases e : k = m
        · rw [if_pos e] at e3
          exact absurd (q_nIi e3 (by omega) (by omega)).symm eh
        · rw [if_neg e] at e3 e7
          exact u5 i hi k (by omega) e3 e7
      · have e3 : (if k = m then nI hd else fA o 3 k) = nI h1 := e3
        by_cases e : k = m
        · rw [if_pos e] at e3
          exact absurd (q_nIi e3 (by omega) (by omega)).symm eh
        · rw [if_neg e] at e3
          have hkm : k < m := by omega
          rw [hac k hkm, if_neg (fun z => by
            rw [h0 k hkm, e3] at z
            exact eh (q_nIi z (by omega) (by omega)))]
          exact u6 k hkm e3
  · refine ⟨?_, ?_, ?_⟩
    · rw [ef]; exact hV
    · rw [ef]; exact hG
    · rw [ef]; exact hM
end
