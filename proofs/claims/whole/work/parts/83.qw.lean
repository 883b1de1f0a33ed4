section
/-! pure layer W: takeDown -/
theorem q_pred (S : Nat → Prop) : ∃ p : Nat → Bool, ∀ e, p e = true ↔ S e := ⟨fun e => @decide (S e) (Classical.propDecidable _), fun e => by
  have := Classical.propDecidable (S e)
  simp⟩
section CTD
variable {g : GH} {A : Rl → Nat} {ob : Rl → FO} {D : GD} {n m ne np : Nat} {E : Nat → AB} {K : GH → Prop}
/-- a shape is seen in the view of an edition -/
def sIn (o R : FO) (E : Nat → AB) (s e : Nat) : Prop := ∃ c0 r0 w t, fA o 27 e = nI c0 ∧ fA o 28 e = nI r0 ∧ fA o 29 e = nI w ∧ fA o 30 e = nI t ∧ c0 < 24 ∧ 1 ≤ w ∧ c0 + w ≤ 24 ∧ r0 < 16 ∧ r0 + t ≤ 16 ∧ seenIn (bL (fL R 6)) (E e) (fA o 12) (fA o 13) c0 r0 w t s
theorem sIn_iff {o R : FO} {e s c0 r0 w t : Nat} (e27 : fA o 27 e = nI c0) (e28 : fA o 28 e = nI r0) (e29 : fA o 29 e = nI w) (e30 : fA o 30 e = nI t) (h1 : c0 < 24) (h2 : 1 ≤ w) (h3 : c0 + w ≤ 24) (h4 : r0 < 16) (h5 : r0 + t ≤ 16) : sIn o R E s e ↔ seenIn (bL (fL R 6)) (E e) (fA o 12) (fA o 13) c0 r0 w t s := by
  constructor
  · rintro ⟨c1, r1, w1, t1, f27, f28, f29, f30, i1, i2, i3, i4, i5, i6⟩
    have a := q_nIi (e27.symm.trans f27) (by omega) (by omega)
    have b := q_nIi (e28.symm.trans f28) (by omega) (by omega)
    have c := q_nIi (e29.symm.trans f29) (by omega) (by omega)
    have d := q_nIi (e30.symm.trans f30) (by omega) (by omega)
    subst a b c d
    exact i6
  · exact fun z => ⟨c0, r0, w, t, e27, e28, e29, e30, h1, h2, h3, h4, h5, z⟩
theorem seen_ct {D : Nat → Bool} {F : AB} {W H : Nat → Int32} {c0 r0 w t s : Nat} : 0 < cellN D F W H c0 r0 w s (w * t) ↔ seenIn D F W H c0 r0 w t s := by
  unfold cellN seenIn
  rw [fb_ct_pos]
  constructor
  · rintro ⟨i, h1, h2⟩; exact ⟨i, h1, of_decide_eq_true h2⟩
  · rintro ⟨i, h1, h2⟩; exact ⟨i, h1, decide_eq_true h2⟩
/-- the class: copies of one edition that are SOLD become CHANGED -/
theorem w_changeSold (h : HQ g A ob D n m ne np) {e a : Nat} {post : Int32 → GH → Prop} (he : e < ne) (K : ∀ g' ob', HQ g' A ob' D n m ne np → (∀ q : Rl, (q.1 = 9 → q.2.1 ≠ e) → ob' q = ob q) → (∀ j, j < D.2.2.2.2.1 e → ob' (rCp e j) = if fI (ob (rCp e j)) 0 = 1 then sI (sI (ob (rCp e j)) 0 2) 3 (nI a) else ob (rCp e j)) → post (nI (fb_ct (fun j => decide (fI (ob (rCp e j)) 0 = 1)) (D.2.2.2.2.1 e))) g') : wp_X3_changeSoldCopies (A (rEd e)) (nI a) g post := by
  have c20 := h.c20 he
  refine lq2 (fun n' i x g' => wp_X3_changeSoldCopies_4 (A (rEd e)) (nI a) post n' x i g') (fun i x g' => x = nI (fb_ct (fun j => decide (fI (ob (rCp e j)) 0 = 1)) i) ∧ ∃ ob', HQ g' A ob' D n m ne np ∧ (∀ q : Rl, (q.1 = 9 → q.2.1 ≠ e) → ob' q = ob q) ∧ ∀ j, j < D.2.2.2.2.1 e → ob' (rCp e j) = if j < i ∧ fI (ob (rCp e j)) 0 = 1 then sI (sI (ob (rCp e j)) 0 2) 3 (nI a) else ob (rCp e j)) (D.2.2.2.2.1 e) (by omega) ?_ ?_ 0 0 g (by omega) ⟨rfl, ob, h, fun _ _ => rfl, fun j _ => (if_neg (fun z => by have := z.1; omega)).symm⟩
  · rintro n' x g' ⟨rfl, ob', h', q1, q2⟩
    refine ⟨_, h'.edA he, _, h'.cl he, ?_⟩
    rw [h'.nc he]
    refine ⟨fun _ => K g' ob' h' q1 fun j hj => ?_, fun z => absurd (Int32.le_refl _) z⟩
    rw [q2 j hj]
    by_cases c : fI (ob (rCp e j)) 0 = 1
    · rw [if_pos c, if_pos ⟨hj, c⟩]
    · rw [if_neg c, if_neg (fun z => c z.2)]
  · rintro n' i x g' hi ⟨rfl, ob', h', q1, q2⟩ kk
    have ei : ob' (rCp e i) = ob (rCp e i) := by rw [q2 i hi, if_neg (fun z => by have := z.1; omega)]
    refine ⟨_, h'.edA he, _, h'.cl he, ?_⟩
    rw [h'.nc he]
    refine ⟨fun z => absurd z (nI_ge hi (by omega)), fun _ => ⟨_, h'.edA he, _, h'.cl he, h'.inc he hi, _, h'.cp he hi, _, h'.cp he hi, ?_⟩⟩
    rw [ei]
    refine ⟨fun z => kk _ g' ⟨?_, ob', h', q1, fun j hj => ?_⟩, fun z => ⟨_, h'.cp he hi, ?_⟩⟩
    · rw [fb_ct_succ, decide_eq_false z]; rfl
    · rw [q2 j hj]
      by_cases c : j = i
      · subst c
        rw [if_neg (fun y => z y.2), if_neg (fun y => z y.2)]
      · have : (j < i + 1) ↔ (j < i) := by omega
        simp only [this]
    · rintro _ rfl
      refine ⟨_, hu_s, ?_⟩
      rintro _ rfl
      rw [hu_hu, h'.pcp he hi]
      have h2 := h'.setCp he hi (sI (sI (ob' (rCp e i)) 0 2) 3 (nI a))
      refine kk _ _ ⟨?_, _, h2, fun q hq => ?_, fun j hj => ?_⟩
      · rw [fb_ct_succ, decide_eq_true z, nI_1]; rfl
      · rw [rup_n (fun c => hq (congrArg Prod.fst c) (congrArg (fun r : Rl => r.2.1) c))]
        exact q1 q hq
      · by_cases c : j = i
        · subst c
          rw [rup_s, ei, if_pos ⟨by omega, z⟩]
        · rw [rup_i (show (rCp e j).2.2 ≠ (rCp e i).2.2 from c), q2 j hj]
          have : (j < i + 1) ↔ (j < i) := by omega
          simp only [this]
theorem c_takeDown (h : IV g A ob D n m ne np E) (k : ∀ g', NX A np g' → K g') (p : Int32) {post : Int32 → GH → Prop} (hp : ∀ xx g', (∃ o, g' (A rMd) = some (9, o) ∧ wp_X8_takeDown p o (fun v o' => LW (A rMd) (A rOut) K xx v o' g')) → post xx g') : wp_L_takeDown (A rRm) p (A rOut) g post := by
  have ne8 := h.ne8
  have n40 := h.n40
  by_cases hs : ∃ s, s < n ∧ p = nI s
  · obtain ⟨s, hs, rfl⟩ := hs
    have hin : vp_in (nI s) 40 := vp_in_nI (by omega) (by decide)
    have e17 := h.dn s (by omega)
    by_cases hd : bL (fL (ob rRm) 6) s = false
    · obtain ⟨⟨a, ha, ea⟩, -⟩ := h.sh.1 s hs
      have es0 : fI (ob (rSh s)) 0 = nI a := (h.sh.2 s hs).1.trans ea
      obtain ⟨S, hS⟩ := q_pred (sIn (ob rMd) (ob rRm) E s)
      -- which copies change
      obtain ⟨P, hP⟩ : ∃ P : Nat → Bool, P = fun k => decide (k / 20 < ne ∧ fA (ob rMd) 42 k = 1 ∧ S (k / 20) = true) := ⟨_, rfl⟩
      have hPe : ∀ e j, e < ne → j < 20 → (P (20 * e + j) = true ↔ fA (ob rMd) 42 (20 * e + j) = 1 ∧ S e = true) := fun e j he hj => by
        have e1 : (20 * e + j) / 20 = e := by omega
        rw [hP]
        show decide ((20 * e + j) / 20 < ne ∧ fA (ob rMd) 42 (20 * e + j) = 1 ∧ S ((20 * e + j) / 20) = true) = true ↔ _
        rw [decide_eq_true_eq, e1]
        exact ⟨fun z => z.2, fun z => ⟨he, z⟩⟩
      have model : ∀ (g' : GH) (v : Nat), v = fb_ct P 160 → (∀ f42 f45 : Nat → Int32, (∀ k, k < 160 → f42 k = if P k = true then 2 else fA (ob rMd) 42 k) → (∀ k, k < 160 → f45 k = if P k = true then nI a else fA (ob rMd) 45 k) →
          LW (A rMd) (A rOut) K 0 (nI v) (sA (sAr (sAr (sI (ob rMd) 0 0) 42 f42) 45 f45) 17 s 1) g') → wp_X8_takeDown (nI s) (ob rMd) (fun v o' => LW (A rMd) (A rOut) K 0 v o' g') := fun g' v hv w => by
        subst hv
        refine mShT h.n10 n40 hs (b1 ?_)
        rintro _ rfl
        refine t_ok rfl ⟨hin, ?_⟩
        rw [qn_cl (by omega)]
        refine ⟨fun _ => ?_, fun z => absurd (e17.mpr hd) z⟩
        rintro _ rfl
        rw [sI2]
        refine t_ok rfl ?_
        refine lq2 (fun n' i x y => wp_X8_takeDown_57 (nI s) (fun v o' => LW (A rMd) (A rOut) K 0 v o' g') n' x i y) (fun i x y => x = nI (fb_ct P i) ∧ ∃ f42 f45, y = sAr (sAr (sI (ob rMd) 0 0) 42 f42) 45 f45 ∧ (∀ k, k < i → f42 k = if P k = true then 2 else fA (ob rMd) 42 k) ∧ (∀ k, i ≤ k → f42 k = fA (ob rMd) 42 k) ∧ (∀ k, k < i → f45 k = if P k = true then nI a else fA (ob rMd) 45 k) ∧ ∀ k, i ≤ k → f45 k = fA (ob rMd) 45 k) 160 (by decide) ?_ ?_ 0 0 (sI (ob rMd) 0 0) (by decide) ⟨rfl, fA (ob rMd) 42, fA (ob rMd) 45, ?_, fun k hk => by omega, fun k _ => rfl, fun k hk => by omega, fun k _ => rfl⟩
        · rintro n' x y ⟨rfl, f42, f45, rfl, i1, -, i3, -⟩
          refine ⟨fun _ => ⟨hin, ?_⟩, fun z => absurd (Int32.le_refl _) z⟩
          rintro _ rfl
          rw [qn_cl (by omega)]
          exact w f42 f45 i1 i3
        · rintro n' i x y hi ⟨rfl, f42, f45, rfl, i1, i2, i3, i4⟩ kk
          have e25 : fI (sAr (sAr (sI (ob rMd) 0 0) 42 f42) 45 f45) 25 = nI ne := h.n25
          have ix : vp_in (nI i) 160 := vp_in_nI hi (by decide)
          have skip : ¬ P i = true → wp_X8_takeDown_57 (nI s) (fun v o' => LW (A rMd) (A rOut) K 0 v o' g') n' (nI (fb_ct P i)) (nI i + 1) (sAr (sAr (sI (ob rMd) 0 0) 42 f42) 45 f45) := fun z => kk _ _ ⟨by rw [fb_ct_succ, if_neg z]; rfl, f42, f45, rfl, fun k hk => by
              by_cases c : k = i
              · subst c; rw [if_neg z]; exact i2 k (Nat.le_refl _)
              · exact i1 k (by omega), fun k hk => i2 k (by omega), fun k hk => by
              by_cases c : k = i
              · subst c; rw [if_neg z]; exact i4 k (Nat.le_refl _)
              · exact i3 k (by omega), fun k hk => i4 k (by omega)⟩
          refine ⟨fun z => absurd z (qn_le (N := 160) hi), fun _ => ?_⟩
          rw [e25, show (nI i / 20 : Int32) = nI (i / 20) from pk_div (a := i) (d := 20) (by omega) (by decide) (by decide)]
          have pdef : P i = decide (i / 20 < ne ∧ fA (ob rMd) 42 i = 1 ∧ S (i / 20) = true) := by rw [hP]
          by_cases hn : i / 20 < ne
          · refine ⟨fun z => absurd z (nI_ge hn (by omega)), fun _ => ⟨ix, ?_⟩⟩
            rw [qn_cl (by omega)]
            have e42 : fA (sAr (sAr (sI (ob rMd) 0 0) 42 f42) 45 f45) 42 i = fA (ob rMd) 42 i := i2 i (Nat.le_refl _)
            rw [e42]
            refine ⟨fun z => skip fun y => ?_, fun z => ?_⟩
            · rw [pdef, decide_eq_true_eq] at y; exact z y.2.1
            · obtain ⟨⟨c0, r0, w, t, -, ⟨x0, x1, x2, x3⟩, y1, y2, y3, y4, y5, y6⟩, -, -, -, -, -, -, ⟨v1, v2, v3, v4, v5⟩, -⟩ := h.ed hn
              refine w_isViewed (o := sAr (sAr (sI (ob rMd) 0 0) 42 f42) 45 f45) (E := E (i / 20)) (D := bL (fL (ob rRm) 6)) (by omega) v2 v5 v3 h.dn x0 x1 x2 x3 y2 y3 y6 (by omega) (fun hv => b1 ?_) (fun hv => b0 (skip fun y => ?_))
              · have hPi : P i = true := by
                  rw [pdef, decide_eq_true_eq]
                  exact ⟨hn, z, (hS _).mpr ((sIn_iff x0 x1 x2 x3 y1 y2 y3 y4 y6).mpr hv)⟩
                refine ⟨ix, ?_⟩
                rintro _ rfl
                refine ⟨hin, ix, ?_⟩
                rintro _ rfl
                rw [qn_cl (by omega)]
                have es : sA (sA (sAr (sAr (sI (ob rMd) 0 0) 42 f42) 45 f45) 42 i 2) 45 i (fA (sA (sAr (sAr (sI (ob rMd) 0 0) 42 f42) 45 f45) 42 i 2) 11 s) = sAr (sAr (sI (ob rMd) 0 0) 42 (va_up f42 i 2)) 45 (va_up f45 i (nI a)) := by
                  have e11 : fA (sA (sAr (sAr (sI (ob rMd) 0 0) 42 f42) 45 f45) 42 i 2) 11 s = nI a := ea
                  rw [e11]
                  refine FO_ext (fun _ => rfl) (fun _ => rfl) (fun _ => rfl) (fun q => ?_) (fun _ => rfl)
                  by_cases c1 : q = 45
                  · subst c1; rfl
                  · by_cases c2 : q = 42
                    · subst c2; rfl
                    · rw [qs_fAsA, if_neg c1, qs_fAsA, if_neg c2, qs_fArA, if_neg c1, qs_fArA, if_neg c2, qs_fArA, if_neg c1, qs_fArA, if_neg c2]
                rw [es, nI_1]
                refine kk _ _ ⟨by rw [fb_ct_succ, if_pos hPi], _, _, rfl, fun k hk => ?_, fun k hk => ?_, fun k hk => ?_, fun k hk => ?_⟩
                · rw [qs_up]
                  by_cases c : k = i
                  · subst c; rw [if_pos rfl, if_pos hPi]
                  · rw [if_neg c]; exact i1 k (by omega)
                · rw [qs_up, if_neg (by omega)]; exact i2 k (by omega)
                · rw [qs_up]
                  by_cases c : k = i
                  · subst c; rw [if_pos rfl, if_pos hPi]
                  · rw [if_neg c]; exact i3 k (by omega)
                · rw [qs_up, if_neg (by omega)]; exact i4 k (by omega)
              · rw [pdef, decide_eq_true_eq] at y
                exact hv ((sIn_iff x0 x1 x2 x3 y1 y2 y3 y4 y6).mp ((hS _).mp y.2.2))
          · exact ⟨fun _ => skip fun y => hn (by rw [pdef, decide_eq_true_eq] at y; exact y.1), fun z => absurd (nI_le (Nat.not_lt.mp hn) (by omega)) z⟩
        · refine FO_ext (fun _ => rfl) (fun _ => rfl) (fun _ => rfl) (fun q => ?_) (fun _ => rfl)
          rw [qs_fArA, qs_fArA]
          by_cases c1 : q = 45
          · subst c1; rfl
          · by_cases c2 : q = 42
            · subst c2; rfl
            · rw [if_neg c1, if_neg c2]
      refine ⟨_, h.1.rm, _, h.1.rm, w_shapeT h.1 hs ⟨_, h.1.rm, ?_⟩⟩
      show (lg_cmp (fL (ob rRm) 6 &&& mkL s) 0 = 0 → _) ∧ (¬ lg_cmp (fL (ob rRm) 6 &&& mkL s) 0 = 0 → _)
      rw [bL_and (by omega)]
      refine ⟨fun _ => b0 ⟨_, h.1.rm, _, h.1.l0, h.1.in0 hs, _, h.1.sh hs, _, h.1.sh hs, ?_⟩, fun z => absurd hd z⟩
      rw [es0]
      -- the class goes through the editions
      refine lq2 (fun n' i x g' => wp_X7_takeDown_44 (A rRm) (nI s) (fun r1 g5 => ∃ o7, g5 (A rOut) = some (10, o7) ∧ ∀ g9, g9 = hu g5 (A rOut) (10, sB o7 0 0 r1.toInt64) → post 0 g9) (fun E9 g4 => (E9 = "java/lang/IndexOutOfBoundsException" ∧ post 1 g4) ∨ (E9 = "java/lang/IllegalStateException" ∧ post 2 g4)) n' (nI a) x i g') (fun i x g' => x = nI (fb_ct P (20 * i)) ∧ ∃ ob', HQ g' A ob' D n m ne np ∧ (∀ q : Rl, q.1 ≠ 9 → ob' q = ob q) ∧ ∀ e j, e < ne → j < D.2.2.2.2.1 e → ob' (rCp e j) = if e < i ∧ P (20 * e + j) = true then sI (sI (ob (rCp e j)) 0 2) 3 (nI a) else ob (rCp e j)) ne (by omega) ?_ ?_ 0 0 g (by omega) ⟨rfl, ob, h.1, fun _ _ => rfl, fun e j _ _ => (if_neg (fun z => by have := z.1; omega)).symm⟩
      · rintro n' x g' ⟨rfl, ob', h', q1, q2⟩
        have eR := q1 rRm (by decide)
        refine ⟨_, h'.rm, _, h'.l2, ?_⟩
        rw [h'.n2]
        refine ⟨fun _ => ⟨_, h'.rm, _, h'.rm, ?_⟩, fun z => absurd (Int32.le_refl _) z⟩
        rintro _ rfl
        have h2 := h'.setRm (sL (ob' rRm) 6 (fL (ob' rRm) 6 ||| mkL s)) rfl
        have f0 : ∀ q : Rl, q.1 ≠ 0 → rup ob' rRm (sL (ob' rRm) 6 (fL (ob' rRm) 6 ||| mkL s)) q = ob' q := fun q hq => rup_k hq
        have hout := h2.out
        rw [f0 rOut (by decide), q1 rOut (by decide)] at hout
        have hmd := h2.md
        rw [f0 rMd (by decide), q1 rMd (by decide)] at hmd
        refine ⟨_, hout, ?_⟩
        rintro _ rfl
        have hct : fb_ct P (20 * ne) = fb_ct P 160 := (fb_ct_ext (by omega) fun k k1 k2 => by
          rw [hP]
          exact decide_eq_false fun z => by have := z.1; omega).symm
        refine hp 0 _ ⟨_, by rw [hu_n (fun z => h.om z.symm)]; exact hmd, model _ _ hct fun f42 f45 i1 i2 => ?_⟩
        have hrow : ∀ k, k ≠ 17 → k ≠ 42 → k ≠ 45 → fA (sA (sAr (sAr (sI (ob rMd) 0 0) 42 f42) 45 f45) 17 s 1) k = fA (ob rMd) k := fun k h1 h2 h3 => by
          rw [qs_fAsA, if_neg h1, qs_fArA, if_neg h3, qs_fArA, if_neg h2, qs_fAsI]
        have r42 : fA (sA (sAr (sAr (sI (ob rMd) 0 0) 42 f42) 45 f45) 17 s 1) 42 = f42 := rfl
        have r45 : fA (sA (sAr (sAr (sI (ob rMd) 0 0) 42 f42) 45 f45) 17 s 1) 45 = f45 := rfl
        have r17 : ∀ k, fA (sA (sAr (sAr (sI (ob rMd) 0 0) 42 f42) 45 f45) 17 s 1) 17 k = if k = s then 1 else fA (ob rMd) 17 k := fun k => rfl
        refine h.uV (E1 := E) k h2 ⟨rfl, rfl, rfl⟩ (Nat.le_succ _) rfl rfl ?_
        have g3 : (fun j => rup ob' rRm (sL (ob' rRm) 6 (fL (ob' rRm) 6 ||| mkL s)) (rSh j)) = fun j => ob (rSh j) := funext fun j => (f0 _ (by decide : ¬ (3 : Nat) = 0)).trans (q1 _ (by decide : ¬ (3 : Nat) = 9))
        have g4 : (fun j => rup ob' rRm (sL (ob' rRm) 6 (fL (ob' rRm) 6 ||| mkL s)) (rAc j)) = fun j => ob (rAc j) := funext fun j => (f0 _ (by decide : ¬ (4 : Nat) = 0)).trans (q1 _ (by decide : ¬ (4 : Nat) = 9))
        have g5 : (fun j => rup ob' rRm (sL (ob' rRm) 6 (fL (ob' rRm) 6 ||| mkL s)) (rEd j)) = fun j => ob (rEd j) := funext fun j => (f0 _ (by decide : ¬ (5 : Nat) = 0)).trans (q1 _ (by decide : ¬ (5 : Nat) = 9))
        have g6 : (fun j => rup ob' rRm (sL (ob' rRm) 6 (fL (ob' rRm) 6 ||| mkL s)) (rWn j)) = fun j => ob (rWn j) := funext fun j => (f0 _ (by decide : ¬ (6 : Nat) = 0)).trans (q1 _ (by decide : ¬ (6 : Nat) = 9))
        have g7 : (fun j => rup ob' rRm (sL (ob' rRm) 6 (fL (ob' rRm) 6 ||| mkL s)) (rKb j)) = fun j => ob (rKb j) := funext fun j => (f0 _ (by decide : ¬ (7 : Nat) = 0)).trans (q1 _ (by decide : ¬ (7 : Nat) = 9))
        have g10 : (fun j => rup ob' rRm (sL (ob' rRm) 6 (fL (ob' rRm) 6 ||| mkL s)) (rPy j)) = fun j => ob (rPy j) := funext fun j => (f0 _ (by decide : ¬ (10 : Nat) = 0)).trans (q1 _ (by decide : ¬ (10 : Nat) = 9))
        rw [g3, g4, g5, g6, g7, g10, f0 rBd (by decide), q1 rBd (by decide), rup_s, eR]
        refine h.2.ed (fun k k1 k2 => hrow k k2 (by omega) (by omega)) rfl rfl rfl rfl (fun k hk => ?_) (fun e he => ?_) ?_ ?_ ?_
        · show _ ↔ bL (fL (ob rRm) 6 ||| mkL s) k = false
          rw [r17, bL_or, bL_mk (by omega)]
          by_cases c : k = s
          · subst c; simp
          · have := h.dn k hk
            simp [c, this]
        · have hE := h.ed he
          have c20 := hE.2.2.2.2.2.2.2.2.1.2.1
          obtain ⟨sc, s1, s2, s3, s4⟩ := hE.2.2.2.2.2.2.2.2.2.1
          have s11 := hE.2.2.2.2.2.2.2.2.2.2
          refine hE.copies (fun _ _ => rfl) rfl (fun k k1 k2 _ => hrow k k2 (by omega) (by omega)) ⟨sc, s1, s2, by rw [hrow 34 (by decide) (by decide) (by decide)]; exact s3, fun j hj => ?_⟩ (fun j j1 j2 => ?_)
          · show cCp (rup ob' rRm (sL (ob' rRm) 6 (fL (ob' rRm) 6 ||| mkL s)) (rCp e j)) _ _ _ _
            rw [f0 (rCp e j) (by decide : ¬ (9 : Nat) = 0), q2 e j he hj]
            obtain ⟨st, hst, d1, d2, d3, d4, d5, d6⟩ := s4 j hj
            have e42 := i1 (20 * e + j) (by omega)
            have e45 := i2 (20 * e + j) (by omega)
            by_cases c : P (20 * e + j) = true
            · rw [if_pos c] at e42 e45
              rw [if_pos ⟨he, c⟩]
              have st1 : st = 1 := (st_1 hst).mp (by rw [← d1]; exact ((hPe e j he (by omega)).mp c).1)
              subst st1
              refine ⟨2, by decide, by rw [r42]; exact e42, rfl, ⟨fun z => absurd z (by decide), fun z => absurd (d3.mpr z) (by decide)⟩, fun _ => ?_, fun _ => ⟨a, ha, by rw [r45]; exact e45, rfl⟩, fun z => by omega⟩
              rw [hrow 43 (by decide) (by decide) (by decide), hrow 44 (by decide) (by decide) (by decide)]
              exact d4 (Or.inl rfl)
            · rw [if_neg c] at e42 e45
              rw [if_neg (fun z => c z.2)]
              refine ⟨st, hst, by rw [r42, e42]; exact d1, d2, d3, fun z => ?_, fun z => ?_, d6⟩
              · rw [hrow 43 (by decide) (by decide) (by decide), hrow 44 (by decide) (by decide) (by decide)]
                exact d4 z
              · rw [r45, e45]; exact d5 z
          · rw [r42, i1 _ (by omega), if_neg (fun c => ?_)]
            · exact s11 j j1 j2
            · have := ((hPe e j he j2).mp c).1
              rw [s11 j j1 j2] at this
              exact absurd this (by decide)
        · intro e2 h1 h2'
          obtain ⟨x1, x2, x3, x4, x5⟩ := h.fr e2 h1 h2'
          refine ⟨by rw [hrow 33 (by decide) (by decide) (by decide)]; exact x1, by rw [hrow 34 (by decide) (by decide) (by decide)]; exact x2, by rw [hrow 35 (by decide) (by decide) (by decide)]; exact x3, by rw [hrow 36 (by decide) (by decide) (by decide)]; exact x4, fun j hj => ?_⟩
          rw [r42, i1 _ (by omega), if_neg (fun c => ?_)]
          · exact x5 j hj
          · rw [hP] at c
            have c : decide ((20 * e2 + j) / 20 < ne ∧ fA (ob rMd) 42 (20 * e2 + j) = 1 ∧ S ((20 * e2 + j) / 20) = true) = true := c
            rw [decide_eq_true_eq] at c
            have := c.1
            omega
        · unfold cMo
          rw [hrow 46 (by decide) (by decide) (by decide), hrow 47 (by decide) (by decide) (by decide)]; exact h.mo
        · unfold cPy
          rw [hrow 26 (by decide) (by decide) (by decide), hrow 35 (by decide) (by decide) (by decide)]; exact h.pyy
      · rintro n' i x g' hi ⟨rfl, ob', h', q1, q2⟩ kk
        have hE := h.ed hi
        have c20 := hE.2.2.2.2.2.2.2.2.1.2.1
        have s11 := hE.2.2.2.2.2.2.2.2.2.2
        obtain ⟨⟨c0, r0, w, t, ⟨w0, w1, w2, w3⟩, ⟨x0, x1, x2, x3⟩, y1, y2, y3, y4, y5, y6⟩, -, -, -, -, -, -, ⟨v1, v2, v3, v4, v5⟩, -⟩ := hE
        have hsi : S i = true ↔ seenIn (bL (fL (ob rRm) 6)) (E i) (fA (ob rMd) 12) (fA (ob rMd) 13) c0 r0 w t s := (hS i).trans (sIn_iff x0 x1 x2 x3 y1 y2 y3 y4 y6)
        have eR := q1 rRm (by decide)
        have eE := q1 (rEd i) (by decide : ¬ (5 : Nat) = 9)
        have eW := q1 (rWn i) (by decide : ¬ (6 : Nat) = 9)
        have eK := q1 (rKb i) (by decide : ¬ (7 : Nat) = 9)
        refine ⟨_, h'.rm, _, h'.l2, ?_⟩
        rw [h'.n2]
        refine ⟨fun z => absurd z (nI_ge hi (by omega)), fun _ => ⟨_, h'.rm, _, h'.l2, h'.in2 hi, _, h'.ed hi, _, h'.ed hi, _, h'.ed hi, _, h'.rm, _, h'.wn hi, ?_⟩⟩
        have hw' := h'.wn hi
        have hk' := h'.kb hi
        rw [eW] at hw'
        rw [eK] at hk'
        rw [eR]
        refine w_countShown hw' hk' w0 w1 w2 w3 y1 y3 y2 y6 v1 v5 (by omega) ?_
        have hle : cellN (bL (fL (ob rRm) 6)) (E i) (fA (ob rMd) 12) (fA (ob rMd) 13) c0 r0 w s (w * t) ≤ 384 := Nat.le_trans cellN_le (q_area y3 y6)
        have skipF : S i = false → fb_ct P (20 * (i + 1)) = fb_ct P (20 * i) := fun z => by
          have z0 : fb_ct (fun j => P (20 * i + j)) 20 = 0 := fb_ct_zero.mpr fun j hj => by
            show P (20 * i + j) = false
            cases c : P (20 * i + j) with
            | false => rfl
            | true =>
              have := ((hPe i j hi hj).mp c).2
              rw [z] at this; cases this
          rw [show 20 * (i + 1) = 20 * i + 20 by omega, fb_ct_split, z0]
          rfl
        refine pk_le (cellN (bL (fL (ob rRm) 6)) (E i) (fA (ob rMd) 12) (fA (ob rMd) 13) c0 r0 w s (w * t)) 0 (fun z => ?_) (fun z => ⟨_, h'.ed hi, ?_⟩)
        · have hns : S i = false := by
            cases c : S i with
            | false => rfl
            | true => have := seen_ct.mpr (hsi.mp c); omega
          refine kk _ g' ⟨by rw [skipF hns], ob', h', q1, fun e j he hj => ?_⟩
          rw [q2 e j he hj]
          by_cases c : e = i
          · subst c
            have := h'.c20 he
            rw [if_neg (fun y => by have := y.1; omega), if_neg (fun y => ?_)]
            have := ((hPe e j he (by omega)).mp y.2).2
            rw [hns] at this; cases this
          · have : (e < i + 1) ↔ (e < i) := by omega
            simp only [this]
        · have hs1 : S i = true := hsi.mpr (seen_ct.mp z)
          rw [h'.ped hi]
          refine w_changeSold h' hi fun g'' ob'' h'' q3 q4 => ?_
          have eC : ∀ j, j < D.2.2.2.2.1 i → ob' (rCp i j) = ob (rCp i j) := fun j hj => by rw [q2 i j hi hj, if_neg (fun y => by have := y.1; omega)]
          have hPj : ∀ j, j < D.2.2.2.2.1 i → (fI (ob (rCp i j)) 0 = 1 ↔ P (20 * i + j) = true) := fun j hj => by
            obtain ⟨sc, st, hst, d1, d2, -⟩ := h.copy hi hj
            rw [hPe i j hi (by omega), d1, d2]
            exact ⟨fun y => ⟨y, hs1⟩, fun y => y.1⟩
          have hsum : fb_ct P (20 * (i + 1)) = fb_ct P (20 * i) + fb_ct (fun j => decide (fI (ob' (rCp i j)) 0 = 1)) (D.2.2.2.2.1 i) := by
            rw [show 20 * (i + 1) = 20 * i + 20 by omega, fb_ct_split]
            have z1 : fb_ct (fun j => P (20 * i + j)) 20 = fb_ct (fun j => P (20 * i + j)) (D.2.2.2.2.1 i) := fb_ct_ext c20 fun j j1 j2 => by
              show P (20 * i + j) = false
              cases c : P (20 * i + j) with
              | false => rfl
              | true =>
                have := ((hPe i j hi j2).mp c).1
                rw [s11 j j1 j2] at this
                exact absurd this (by decide)
            have z2 : fb_ct (fun j => P (20 * i + j)) (D.2.2.2.2.1 i) = fb_ct (fun j => decide (fI (ob' (rCp i j)) 0 = 1)) (D.2.2.2.2.1 i) := fb_ct_cong fun j hj => by
              show P (20 * i + j) = decide (fI (ob' (rCp i j)) 0 = 1)
              rw [eC j hj, Bool.eq_iff_iff, decide_eq_true_eq]
              exact (hPj j hj).symm
            rw [z1, z2]
          show wp_X7_takeDown_44 (A rRm) (nI s) _ _ n' (nI a) (nI (fb_ct P (20 * i)) + nI (fb_ct (fun j => decide (fI (ob' (rCp i j)) 0 = 1)) (D.2.2.2.2.1 i))) (nI i + 1) g''
          rw [nI_add]
          refine kk _ g'' ⟨by rw [hsum], ob'', h'', fun q hq => by rw [q3 q (fun y => absurd y hq)]; exact q1 q hq, fun e j he hj => ?_⟩
          by_cases c : e = i
          · subst c
            rw [q4 j hj, eC j hj]
            by_cases c2 : fI (ob (rCp e j)) 0 = 1
            · rw [if_pos c2, if_pos ⟨by omega, (hPj j hj).mp c2⟩]
            · rw [if_neg c2, if_neg (fun y => c2 ((hPj j hj).mpr y.2))]
          · rw [q3 (rCp e j) (fun _ => c), q2 e j he hj]
            have : (e < i + 1) ↔ (e < i) := by omega
            simp only [this]
    · have hd1 : bL (fL (ob rRm) 6) s = true := by simpa using hd
      refine ⟨_, h.1.rm, _, h.1.rm, w_shapeT h.1 hs ⟨_, h.1.rm, ?_⟩⟩
      show (lg_cmp (fL (ob rRm) 6 &&& mkL s) 0 = 0 → _) ∧ (¬ lg_cmp (fL (ob rRm) 6 &&& mkL s) 0 = 0 → _)
      rw [bL_and (by omega)]
      refine ⟨fun z => absurd z hd, fun _ => b1 (Or.inr ⟨rfl, hp 2 _ ⟨_, h.md, mShT h.n10 n40 hs (b1 ?_)⟩⟩)⟩
      rintro _ rfl
      refine t_ok rfl ⟨hin, ?_⟩
      rw [qn_cl (by omega)]
      refine ⟨fun z => absurd (e17.mp z) hd, fun _ => ?_⟩
      rintro _ rfl
      rw [sI2]
      exact t_no (Or.inr (Or.inl rfl)) (h.qT k (by decide))
  · refine ⟨_, h.1.rm, _, h.1.rm, w_shapeF h.1 hs (Or.inl ⟨rfl, hp 1 _ ⟨_, h.md, mShF h.n10 n40 hs (b0 ?_)⟩⟩)⟩
    rintro _ rfl
    exact t_no (Or.inl rfl) (h.qT k (by decide))
end CTD
end
