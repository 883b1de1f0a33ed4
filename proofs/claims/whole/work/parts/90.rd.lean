section
/-! pure layer AD: the reference keeps a view -/
def kp (o : FO) (f38 f39 f40 f41 : Nat → Int32) : FO := sAr (sAr (sAr (sAr o 38 f38) 39 f39) 40 f40) 41 f41
theorem kp_id (o : FO) : kp o (fA o 38) (fA o 39) (fA o 40) (fA o 41) = o := by
  refine FO_ext (fun k => rfl) (fun k => rfl) (fun k => rfl) (fun k => ?_) (fun k => rfl)
  unfold kp
  simp only [qs_fIsI, qs_fIsL, qs_fIsR, qs_fIsA, qs_fIsB, qs_fLsI, qs_fLsL, qs_fLsR, qs_fLsA, qs_fLsB, qs_fRsI, qs_fRsL, qs_fRsR, qs_fRsA, qs_fRsB, qs_fAsI, qs_fAsL, qs_fAsR, qs_fAsA, qs_fAsB, qs_fBsI, qs_fBsL, qs_fBsR, qs_fBsA, qs_fBsB, qs_up, qs_fIrA, qs_fLrA, qs_fRrA, qs_fArA, qs_fBrA, qs_fIrB, qs_fLrB, qs_fRrB, qs_fArB, qs_fBrB]
  repeat' split
  all_goals first | rfl | (rename_i e; rw [e])
theorem kp_38 (o : FO) (i : Nat) (v : Int32) (f38 f39 f40 f41 : Nat → Int32) : sA (kp o f38 f39 f40 f41) 38 i v = kp o (va_up f38 i v) f39 f40 f41 := by
  refine FO_ext (fun k => rfl) (fun k => rfl) (fun k => rfl) (fun k => ?_) (fun k => rfl)
  unfold kp
  simp only [qs_fIsI, qs_fIsL, qs_fIsR, qs_fIsA, qs_fIsB, qs_fLsI, qs_fLsL, qs_fLsR, qs_fLsA, qs_fLsB, qs_fRsI, qs_fRsL, qs_fRsR, qs_fRsA, qs_fRsB, qs_fAsI, qs_fAsL, qs_fAsR, qs_fAsA, qs_fAsB, qs_fBsI, qs_fBsL, qs_fBsR, qs_fBsA, qs_fBsB, qs_up, qs_fIrA, qs_fLrA, qs_fRrA, qs_fArA, qs_fBrA, qs_fIrB, qs_fLrB, qs_fRrB, qs_fArB, qs_fBrB]
  by_cases e : k = 38
  · subst e; rfl
  · rw [if_neg e]
    repeat' split
    all_goals first | rfl | (exfalso; omega)
theorem kp_39 (o : FO) (i : Nat) (v : Int32) (f38 f39 f40 f41 : Nat → Int32) : sA (kp o f38 f39 f40 f41) 39 i v = kp o f38 (va_up f39 i v) f40 f41 := by
  refine FO_ext (fun k => rfl) (fun k => rfl) (fun k => rfl) (fun k => ?_) (fun k => rfl)
  unfold kp
  simp only [qs_fIsI, qs_fIsL, qs_fIsR, qs_fIsA, qs_fIsB, qs_fLsI, qs_fLsL, qs_fLsR, qs_fLsA, qs_fLsB, qs_fRsI, qs_fRsL, qs_fRsR, qs_fRsA, qs_fRsB, qs_fAsI, qs_fAsL, qs_fAsR, qs_fAsA, qs_fAsB, qs_fBsI, qs_fBsL, qs_fBsR, qs_fBsA, qs_fBsB, qs_up, qs_fIrA, qs_fLrA, qs_fRrA, qs_fArA, qs_fBrA, qs_fIrB, qs_fLrB, qs_fRrB, qs_fArB, qs_fBrB]
  by_cases e : k = 39
  · subst e; rfl
  · rw [if_neg e]
    repeat' split
    all_goals first | rfl | (exfalso; omega)
theorem kp_40 (o : FO) (i : Nat) (v : Int32) (f38 f39 f40 f41 : Nat → Int32) : sA (kp o f38 f39 f40 f41) 40 i v = kp o f38 f39 (va_up f40 i v) f41 := by
  refine FO_ext (fun k => rfl) (fun k => rfl) (fun k => rfl) (fun k => ?_) (fun k => rfl)
  unfold kp
  simp only [qs_fIsI, qs_fIsL, qs_fIsR, qs_fIsA, qs_fIsB, qs_fLsI, qs_fLsL, qs_fLsR, qs_fLsA, qs_fLsB, qs_fRsI, qs_fRsL, qs_fRsR, qs_fRsA, qs_fRsB, qs_fAsI, qs_fAsL, qs_fAsR, qs_fAsA, qs_fAsB, qs_fBsI, qs_fBsL, qs_fBsR, qs_fBsA, qs_fBsB, qs_up, qs_fIrA, qs_fLrA, qs_fRrA, qs_fArA, qs_fBrA, qs_fIrB, qs_fLrB, qs_fRrB, qs_fArB, qs_fBrB]
  by_cases e : k = 40
  · subst e; rfl
  · rw [if_neg e]
    repeat' split
    all_goals first | rfl | (exfalso; omega)
theorem kp_41 (o : FO) (i : Nat) (v : Int32) (f38 f39 f40 f41 : Nat → Int32) : sA (kp o f38 f39 f40 f41) 41 i v = kp o f38 f39 f40 (va_up f41 i v) := by
  refine FO_ext (fun k => rfl) (fun k => rfl) (fun k => rfl) (fun k => ?_) (fun k => rfl)
  unfold kp
  simp only [qs_fIsI, qs_fIsL, qs_fIsR, qs_fIsA, qs_fIsB, qs_fLsI, qs_fLsL, qs_fLsR, qs_fLsA, qs_fLsB, qs_fRsI, qs_fRsL, qs_fRsR, qs_fRsA, qs_fRsB, qs_fAsI, qs_fAsL, qs_fAsR, qs_fAsA, qs_fAsB, qs_fBsI, qs_fBsL, qs_fBsR, qs_fBsA, qs_fBsB, qs_up, qs_fIrA, qs_fLrA, qs_fRrA, qs_fArA, qs_fBrA, qs_fIrB, qs_fLrB, qs_fRrB, qs_fArB, qs_fBrB]
  by_cases e : k = 41
  · subst e; rfl
  · rw [if_neg e]
    repeat' split
    all_goals first | rfl | (exfalso; omega)
def mAN (o : FO) (T : Nat → Option Nat) (h c : Nat) : Bool := match T c with
  | none => false
  | some s => decide (fA o 11 s = nI h)
theorem m_keeps {o : FO} {e n m c0 r0 w t : Nat} {F : AB} {Dn : Nat → Bool} {post : FO → Prop} (he : e < 8) (hM : MR (fI o 18) (fA o 19) (fA o 20) (fA o 21) (fA o 22) (fA o 23) (fA o 24) F) (hb : ABb F (fA o 12) (fA o 13)) (hnd : (aO F).Nodup) (hOn : ∀ s, s ∈ aO F → s < n) (hD : ∀ k, k < 40 → (fA o 17 k = 0 ↔ Dn k = false))
    (e27 : fA o 27 e = nI c0) (e28 : fA o 28 e = nI r0) (e29 : fA o 29 e = nI w) (e30 : fA o 30 e = nI t) (hw : 1 ≤ w) (hcw : c0 + w ≤ 24) (hrh : r0 + t ≤ 16) (h35 : ∀ j, j < 6 → fA o 35 (6 * e + j) = 0) (h1 : fI o 1 = nI m) (m200 : m ≤ 200) (n40 : n ≤ 40) (hA : WFA o n m) (hS : WFS o n)
    (K : ∀ f35 f36 f38 f39 f40 f41, (∀ i, i < (aO F).length → f38 (40 * e + i) = nI ((aO F).getD i 0) ∧ f39 (40 * e + i) = aC F ((aO F).getD i 0) ∧ f40 (40 * e + i) = aR F ((aO F).getD i 0) ∧ f41 (40 * e + i) = aK F ((aO F).getD i 0)) →
      (∀ q, q < 40 * e ∨ 40 * e + 40 ≤ q → f38 q = fA o 38 q ∧ f39 q = fA o 39 q ∧ f40 q = fA o 40 q ∧ f41 q = fA o 41 q) →
      (∀ j, j < 6 → f35 (6 * e + j) = nI (fb_ct (mAN o (cellT Dn F (fA o 12) (fA o 13) c0 r0 w) j) (w * t))) → (∀ q, q < 6 * e ∨ 6 * e + 6 ≤ q → f35 q = fA o 35 q) →
      (∀ k, k < m → (¬ f36 (200 * e + k) = 0 ↔ (¬ fA o 7 k = 0 ∧ ∃ s, s < n ∧ seenIn Dn F (fA o 12) (fA o 13) c0 r0 w t s ∧ nam o k s))) → (∀ q, q < 200 * e ∨ 200 * e + m ≤ q → f36 q = fA o 36 q) →
      post (sAr (sAr (kp (sA o 37 e (fI o 18)) f38 f39 f40 f41) 35 f35) 36 f36)) : wp_X8_keeps (nI e) o post := by
  obtain ⟨m1, m2, m3, m4, m5⟩ := hM
  have hlen : (aO F).length ≤ 40 := nd_len hnd fun k hk => (hb k hk).1
  have har : w * t ≤ 384 := q_area hcw hrh
  have hin8 : vp_in (nI e) 8 := vp_in_nI he (by decide)
  have hM' : MR (fI o 18) (fA o 19) (fA o 20) (fA o 21) (fA o 22) (fA o 23) (fA o 24) F := ⟨m1, m2, m3, m4, m5⟩
  refine ⟨hin8, ?_⟩
  rintro _ rfl
  rw [qn_cl (by omega)]
  obtain ⟨o1, ho1⟩ : ∃ o1, o1 = sA o 37 e (fI o 18) := ⟨_, rfl⟩
  rw [← ho1] at K ⊢
  have y18 : fI o1 18 = nI (aO F).length := by rw [ho1]; exact m1
  have y1m : fI o1 1 = nI m := by rw [ho1]; exact h1
  have row : ∀ k, k ≠ 37 → fA o1 k = fA o k := fun k hk => by rw [ho1, qs_fAsA, if_neg hk]
  have r37 : fA o1 37 e = nI (aO F).length := by rw [ho1]; show (if e = e then fI o 18 else _) = _; rw [if_pos rfl]; exact m1
  -- the rows of the kept view
  refine lq1 (fun n' i y => wp_X8_keeps_12 (nI e) post n' i y) (fun i y => ∃ f38 f39 f40 f41, y = kp o1 f38 f39 f40 f41 ∧ (∀ j, j < i → f38 (40 * e + j) = nI ((aO F).getD j 0) ∧ f39 (40 * e + j) = aC F ((aO F).getD j 0) ∧ f40 (40 * e + j) = aR F ((aO F).getD j 0) ∧ f41 (40 * e + j) = aK F ((aO F).getD j 0)) ∧
    ∀ q, q < 40 * e ∨ 40 * e + i ≤ q → f38 q = fA o 38 q ∧ f39 q = fA o 39 q ∧ f40 q = fA o 40 q ∧ f41 q = fA o 41 q) (aO F).length (by omega) ?_ ?_ 0 o1 (by omega) ⟨_, _, _, _, (kp_id o1).symm, fun j hj => by omega, fun q _ => by rw [row 38 (by decide), row 39 (by decide), row 40 (by decide), row 41 (by decide)]; exact ⟨rfl, rfl, rfl, rfl⟩⟩
  · rintro n' y ⟨f38, f39, f40, f41, rfl, k1, k2⟩
    have c18 : fI (kp o1 f38 f39 f40 f41) 18 = nI (aO F).length := y18
    refine ⟨fun _ => ?_, fun z => absurd (show fI (kp o1 f38 f39 f40 f41) 18 ≤ nI (aO F).length by rw [c18]; exact Int32.le_refl _) z⟩
    obtain ⟨o2, ho2⟩ : ∃ o2, o2 = kp o1 f38 f39 f40 f41 := ⟨_, rfl⟩
    rw [← ho2]
    have row2 : ∀ k, k ≠ 37 → (k < 38 ∨ 41 < k) → fA o2 k = fA o k := fun k h37 hk => by
      rw [ho2]
      unfold kp
      rw [qs_fArA, if_neg (by omega), qs_fArA, if_neg (by omega), qs_fArA, if_neg (by omega), qs_fArA, if_neg (by omega)]
      exact row k h37
    have i18 : fI o2 18 = fI o 18 := by rw [ho2, ho1]; rfl
    have i1 : fI o2 1 = nI m := by rw [ho2]; exact y1m
    have hMK : MK o2 e F := ⟨by rw [ho2]; exact r37, fun i hi => by
      rw [ho2]
      exact k1 i hi⟩
    have hM2 : MR (fI o2 18) (fA o2 19) (fA o2 20) (fA o2 21) (fA o2 22) (fA o2 23) (fA o2 24) F := by
      rw [i18, row2 19 (by decide) (by decide), row2 20 (by decide) (by decide), row2 21 (by decide) (by decide), row2 22 (by decide) (by decide), row2 23 (by decide) (by decide), row2 24 (by decide) (by decide)]; exact hM'
    have r12 : fA o2 12 = fA o 12 := row2 12 (by decide) (by decide)
    have r13 : fA o2 13 = fA o 13 := row2 13 (by decide) (by decide)
    have r17 : fA o2 17 = fA o 17 := row2 17 (by decide) (by decide)
    have r11 : fA o2 11 = fA o 11 := row2 11 (by decide) (by decide)
    have r27 : fA o2 27 e = nI c0 := by rw [row2 27 (by decide) (by decide)]; exact e27
    have r28 : fA o2 28 e = nI r0 := by rw [row2 28 (by decide) (by decide)]; exact e28
    have r29 : fA o2 29 e = nI w := by rw [row2 29 (by decide) (by decide)]; exact e29
    have r30 : fA o2 30 e = nI t := by rw [row2 30 (by decide) (by decide)]; exact e30
    have hb2 : ABb F (fA o2 12) (fA o2 13) := by rw [r12, r13]; exact hb
    have hD2 : ∀ k, k < 40 → (fA o2 17 k = 0 ↔ Dn k = false) := by rw [r17]; exact hD
    -- the areas
    refine lq1 (fun n' i y => wp_X8_keeps_98 (nI e) post n' i y) (fun i y => ∃ f35, y = sAr o2 35 f35 ∧ (∀ j, j < 6 → f35 (6 * e + j) = nI (fb_ct (mAN o (cellT Dn F (fA o 12) (fA o 13) c0 r0 w) j) i)) ∧ ∀ q, q < 6 * e ∨ 6 * e + 6 ≤ q → f35 q = fA o 35 q) (w * t) (by omega) ?_ ?_ 0 o2 (by omega) ⟨_, (sAr_id o2 35).symm, fun j hj => by rw [row2 35 (by decide) (by decide)]; exact h35 j hj, fun q _ => by rw [row2 35 (by decide) (by decide)]⟩
    · rintro n'' y ⟨f35, rfl, a1, a2⟩
      refine ⟨hin8, hin8, ?_⟩
      have c29 : fA (sAr o2 35 f35) 29 (nI e).toNatClampNeg = nI w := by rw [qn_cl (by omega)]; exact r29
      have c30 : fA (sAr o2 35 f35) 30 (nI e).toNatClampNeg = nI t := by rw [qn_cl (by omega)]; exact r30
      rw [c29, c30, pk_mul]
      refine ⟨fun _ => ?_, fun z => absurd (Int32.le_refl _) z⟩
      -- the acts that are held
      refine lq1 (fun n' i y => wp_X8_keeps_183 (nI e) post n' i y) (fun i y => ∃ f36, y = sAr (sAr o2 35 f35) 36 f36 ∧ (∀ k, k < i → (¬ f36 (200 * e + k) = 0 ↔ (¬ fA o 7 k = 0 ∧ ∃ s, s < n ∧ seenIn Dn F (fA o 12) (fA o 13) c0 r0 w t s ∧ nam o k s))) ∧ ∀ q, q < 200 * e ∨ 200 * e + i ≤ q → f36 q = fA o 36 q) m (by omega) ?_ ?_ 0 (sAr o2 35 f35) (by omega) ⟨fA o2 36, (sAr_id (sAr o2 35 f35) 36).symm, fun k hk => by omega, fun q _ => by rw [row2 36 (by decide) (by decide)]⟩
      · rintro n3 y ⟨f36, rfl, p1, p2⟩
        have d1 : fI (sAr (sAr o2 35 f35) 36 f36) 1 = nI m := i1
        refine ⟨fun _ => ?_, fun z => absurd (show fI (sAr (sAr o2 35 f35) 36 f36) 1 ≤ nI m by rw [d1]; exact Int32.le_refl _) z⟩
        rw [ho2]
        exact K f35 f36 f38 f39 f40 f41 k1 (fun q hq => k2 q (by omega)) a1 a2 p1 p2
      · rintro n3 k y hk ⟨f36, rfl, p1, p2⟩ kk
        have d1 : fI (sAr (sAr o2 35 f35) 36 f36) 1 = nI m := i1
        have d2 : fA (sAr (sAr o2 35 f35) 36 f36) 2 = fA o 2 := row2 2 (by decide) (by decide)
        have d4 : fA (sAr (sAr o2 35 f35) 36 f36) 4 = fA o 4 := row2 4 (by decide) (by decide)
        have d5 : fA (sAr (sAr o2 35 f35) 36 f36) 5 = fA o 5 := row2 5 (by decide) (by decide)
        have d7 : fA (sAr (sAr o2 35 f35) 36 f36) 7 = fA o 7 := row2 7 (by decide) (by decide)
        have hk200 : vp_in (nI k) 200 := vp_in_nI (by omega) (by decide)
        obtain ⟨⟨s, hs, es⟩, -, -, -, -, hj5, -⟩ := hA k hk
        have seen : ∀ (s : Nat) (pst : Int32 → Prop), s < n → (seenIn Dn F (fA o 12) (fA o 13) c0 r0 w t s → pst 1) → (¬ seenIn Dn F (fA o 12) (fA o 13) c0 r0 w t s → pst 0) → wp_X8_isViewed (nI e) (nI s) (sAr (sAr o2 35 f35) 36 f36) pst := fun s pst hs h1 h0 => by
          refine w_isViewed (o := sAr (sAr o2 35 f35) 36 f36) (E := F) (D := Dn) he hMK hb2 hnd hD2 r27 r28 r29 r30 hw hcw hrh (by omega) (fun z => h1 ?_) (fun z => h0 fun y => z ?_)
          · have z : seenIn Dn F (fA o2 12) (fA o2 13) c0 r0 w t s := z
            rw [r12, r13] at z; exact z
          · show seenIn Dn F (fA o2 12) (fA o2 13) c0 r0 w t s
            rw [r12, r13]; exact y
        have put : ∀ v : Int32, (v = 0 ∨ v = 1) → (¬ v = 0 ↔ (¬ fA o 7 k = 0 ∧ ∃ s, s < n ∧ seenIn Dn F (fA o 12) (fA o 13) c0 r0 w t s ∧ nam o k s)) → wp_X8_keeps_264 (nI e) post (fun x2 o => wp_X8_keeps_183 (nI e) post n3 x2 o) (nI k) ((200 * nI e) + nI k) v (sAr (sAr o2 35 f35) 36 f36) := fun v hv hiff => by
          rw [q_ix200]
          refine ⟨vp_in_nI (by omega) (by decide), ?_⟩
          rintro _ rfl
          have hnar : vp_nar .boolean v = v := by rcases hv with z | z <;> rw [z] <;> rfl
          rw [qn_cl (by omega), sAr_sA, hnar]
          refine kk _ ⟨_, rfl, fun j hj => ?_, fun q hq => ?_⟩
          · rw [qs_up]
            by_cases c : j = k
            · subst c; rw [if_pos rfl]; exact hiff
            · rw [if_neg (by omega)]; exact p1 j (by omega)
          · rw [qs_up, if_neg (by omega)]; exact p2 q (by omega)
        have yes : (∃ s, s < n ∧ seenIn Dn F (fA o 12) (fA o 13) c0 r0 w t s ∧ nam o k s) → wp_X8_keeps_229 (nI e) post (fun x2 o => wp_X8_keeps_183 (nI e) post n3 x2 o) (nI k) (sAr (sAr o2 35 f35) 36 f36) := fun hx => by
          refine ⟨hk200, ?_⟩
          rw [qn_cl (by omega), d7]
          exact ⟨fun z => put 0 (Or.inl rfl) ⟨fun y => absurd rfl y, fun y => absurd z y.1⟩, fun z => b1 (put 1 (Or.inr rfl) ⟨fun _ => ⟨z, hx⟩, fun _ => by decide⟩)⟩
        have no : (¬ ∃ s, s < n ∧ seenIn Dn F (fA o 12) (fA o 13) c0 r0 w t s ∧ nam o k s) → wp_X8_keeps_233 (nI e) post (fun x2 o => wp_X8_keeps_183 (nI e) post n3 x2 o) (nI k) (sAr (sAr o2 35 f35) 36 f36) := fun hx => by
          have p0 := put 0 (Or.inl rfl) ⟨fun y => absurd rfl y, fun y => absurd y.2 hx⟩
          refine ⟨hk200, ?_⟩
          exact ⟨fun _ => p0, fun _ => b0 p0⟩
        refine ⟨fun z => absurd z (by rw [d1]; exact nI_ge hk (by omega)), fun _ => ⟨hk200, ?_⟩⟩
        rw [qn_cl (by omega), d4, d2, d5, es]
        refine seen s _ hs (fun hv => b1' (yes ⟨s, hs, hv, Or.inl es⟩)) (fun hv => b0' ⟨hk200, fun z => no ?_, fun z => ⟨hk200, ?_⟩⟩)
        · rintro ⟨s', hs', v', n'⟩
          rcases n' with y | y
          · rw [es] at y
            have := q_nIi y (by omega) (by omega)
            subst this
            exact hv v'
          · exact z y.1
        · obtain ⟨s2, hs2, es2, -⟩ := hj5 z
          rw [es2]
          refine seen s2 _ hs2 (fun hv2 => b1 (yes ⟨s2, hs2, hv2, Or.inr ⟨z, es2⟩⟩)) (fun hv2 => b0 (no ?_))
          rintro ⟨s', hs', v', n'⟩
          rcases n' with y | y
          · rw [es] at y
            have := q_nIi y (by omega) (by omega)
            subst this
            exact hv v'
          · have y2 := y.2
            rw [es2] at y2
            have := q_nIi y2 (by omega) (by omega)
            subst this
            exact hv2 v'
    · rintro n'' i y hi ⟨f35, rfl, a1, a2⟩ kk
      refine ⟨hin8, hin8, ?_⟩
      have c29 : fA (sAr o2 35 f35) 29 (nI e).toNatClampNeg = nI w := by rw [qn_cl (by omega)]; exact r29
      have c30 : fA (sAr o2 35 f35) 30 (nI e).toNatClampNeg = nI t := by rw [qn_cl (by omega)]; exact r30
      have c27 : fA (sAr o2 35 f35) 27 (nI e).toNatClampNeg = nI c0 := by rw [qn_cl (by omega)]; exact r27
      have c28 : fA (sAr o2 35 f35) 28 (nI e).toNatClampNeg = nI r0 := by rw [qn_cl (by omega)]; exact r28
      rw [c29, c30, c27, c28, pk_mul, pk_rem (by omega) (by omega) (by omega), pk_div (by omega) (by omega) (by omega), nI_add, nI_add]
      have hm : i % w < w := Nat.mod_lt _ (by omega)
      have hd : i / w < t := by
        rw [Nat.div_lt_iff_lt_mul (by omega), Nat.mul_comm]; exact hi
      refine ⟨fun z => absurd z (nI_ge hi (by omega)), fun _ => ⟨hin8, hin8, nI_ne0 (by omega) (by omega), hin8, hin8, nI_ne0 (by omega) (by omega), ?_⟩⟩
      refine w_seenAt (o := sAr o2 35 f35) (D := Dn) (A := F) hM2 hb2 hnd hD2 (by omega) (by omega) ?_
      have ct : topO (visS Dn F (fA (sAr o2 35 f35) 12) (fA (sAr o2 35 f35) 13) (nI (c0 + i % w)) (nI (r0 + i / w))) (aO F) = cellT Dn F (fA o 12) (fA o 13) c0 r0 w i := by
        show topO (visS Dn F (fA o2 12) (fA o2 13) (nI (c0 + i % w)) (nI (r0 + i / w))) (aO F) = _
        rw [r12, r13]; rfl
      rw [ct]
      cases ec : cellT Dn F (fA o 12) (fA o 13) c0 r0 w i with
      | none =>
        refine ⟨fun _ => kk _ ⟨f35, rfl, fun j hj => ?_, a2⟩, fun z => absurd rfl z⟩
        rw [a1 j hj, fb_ct_succ]
        unfold mAN
        rw [ec]
        rfl
      | some s =>
        have hs := (topO_mem (show topO (visS Dn F (fA o 12) (fA o 13) (nI (c0 + i % w)) (nI (r0 + i / w))) (aO F) = some s from ec)).1
        have hsn := hOn s hs
        obtain ⟨⟨a, ha, ea⟩, -⟩ := hS s hsn
        refine ⟨fun z => absurd z (oI_ne (by omega)), fun _ => ⟨vp_in_nI (by omega) (by decide), ?_⟩⟩
        have c11 : fA (sAr o2 35 f35) 11 (oI (some s)).toNatClampNeg = nI a := by
          show fA o2 11 (nI s).toNatClampNeg = nI a
          rw [qn_cl (by omega), r11]; exact ea
        rw [c11, q_ix6]
        have hix : vp_in (nI (6 * e + a)) 48 := vp_in_nI (by omega) (by decide)
        refine ⟨hix, hix, ?_⟩
        rintro _ rfl
        rw [qn_cl (by omega), sAr_sA, qs_fArA, if_pos rfl]
        refine kk _ ⟨_, rfl, fun j hj => ?_, fun q hq => ?_⟩
        · rw [qs_up, fb_ct_succ]
          have em : mAN o (cellT Dn F (fA o 12) (fA o 13) c0 r0 w) j i = decide (a = j) := by
            unfold mAN
            rw [ec]
            show decide (fA o 11 s = nI j) = decide (a = j)
            rw [ea]
            exact decide_eq_decide.mpr ⟨fun z => q_nIi z (by omega) (by omega), fun z => by rw [z]⟩
          rw [em]
          by_cases c : j = a
          · subst c
            rw [if_pos rfl, a1 j hj, decide_eq_true rfl, nI_1]; rfl
          · rw [if_neg (by omega), a1 j hj, decide_eq_false (fun z => c z.symm)]; rfl
        · rw [qs_up, if_neg (by omega)]; exact a2 q hq
  · rintro n' i y hi ⟨f38, f39, f40, f41, rfl, k1, k2⟩ kk
    have c18 : fI (kp o1 f38 f39 f40 f41) 18 = nI (aO F).length := y18
    have hg := gD_mem hi
    have hs := (hb _ hg).1
    have hin : vp_in (nI i) 40 := vp_in_nI (by omega) (by decide)
    have hsx : vp_in (nI ((aO F).getD i 0)) 40 := vp_in_nI hs (by decide)
    have hix : vp_in (nI (40 * e + i)) 320 := vp_in_nI (by omega) (by decide)
    have c19 : ∀ g38 g39 g40 g41, fA (kp o1 g38 g39 g40 g41) 19 i = nI ((aO F).getD i 0) := fun _ _ _ _ => by
      show fA o1 19 i = _
      rw [row 19 (by decide)]; exact m2 i hi
    obtain ⟨x1, x2, x3⟩ := m4 _ hg
    have c21 : ∀ g38 g39 g40 g41, fA (kp o1 g38 g39 g40 g41) 21 ((aO F).getD i 0) = aC F ((aO F).getD i 0) := fun _ _ _ _ => by
      show fA o1 21 _ = _
      rw [row 21 (by decide)]; exact x1
    have c22 : ∀ g38 g39 g40 g41, fA (kp o1 g38 g39 g40 g41) 22 ((aO F).getD i 0) = aR F ((aO F).getD i 0) := fun _ _ _ _ => by
      show fA o1 22 _ = _
      rw [row 22 (by decide)]; exact x2
    have c23 : ∀ g38 g39 g40 g41, fA (kp o1 g38 g39 g40 g41) 23 ((aO F).getD i 0) = aK F ((aO F).getD i 0) := fun _ _ _ _ => by
      show fA o1 23 _ = _
      rw [row 23 (by decide)]; exact x3
    refine ⟨fun z => absurd z (by rw [c18]; exact nI_ge hi (by omega)), fun _ => ?_⟩
    rw [q_ix40, qn_cl (show i < 2147483648 by omega), qn_cl (show 40 * e + i < 2147483648 by omega), c19, kp_38]
    refine ⟨hin, hix, ?_⟩
    rintro _ rfl
    rw [c19, qn_cl (show (aO F).getD i 0 < 2147483648 by omega), c21, kp_39]
    refine ⟨hin, hsx, hix, ?_⟩
    rintro _ rfl
    rw [c19, qn_cl (show (aO F).getD i 0 < 2147483648 by omega), c22, kp_40]
    refine ⟨hin, hsx, hix, ?_⟩
    rintro _ rfl
    rw [c19, qn_cl (show (aO F).getD i 0 < 2147483648 by omega), c23, kp_41]
    refine ⟨hin, hsx, hix, ?_⟩
    rintro _ rfl
    refine kk _ ⟨_, _, _, _, rfl, fun j hj => ?_, fun q hq => ?_⟩
    · rw [qs_up, qs_up, qs_up, qs_up]
      by_cases c : j = i
      · subst c
        rw [if_pos rfl, if_pos rfl, if_pos rfl, if_pos rfl]
        exact ⟨rfl, rfl, rfl, rfl⟩
      · rw [if_neg (by omega), if_neg (by omega), if_neg (by omega), if_neg (by omega)]
        exact k1 j (by omega)
    · rw [qs_up, qs_up, qs_up, qs_up, if_neg (by omega), if_neg (by omega), if_neg (by omega), if_neg (by omega)]
      exact k2 q (by omega)
end
