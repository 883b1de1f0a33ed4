section
/-! pure layer F: the class does an act -/
theorem abS_1 {o : FO} {k s : Nat} {A : AB} (h : fA o 2 k = nI 1) (hs : fA o 4 k = nI s) (s40 : s < 40) (hi : s ∈ aO A) : abStep o k A = abMove A s (fA o 5 k) (fA o 6 k) := by
  unfold abStep
  rw [h, hs, qn_cl (show s < 2147483648 by omega), if_neg (by decide), if_pos ⟨hi, fun z => absurd z (by decide)⟩, if_pos (by decide)]
theorem abS_2 {o : FO} {k s : Nat} {A : AB} (h : fA o 2 k = nI 2) (hs : fA o 4 k = nI s) (s40 : s < 40) (hi : s ∈ aO A) : abStep o k A = abPaint A s (fA o 5 k) := by
  unfold abStep
  rw [h, hs, qn_cl (show s < 2147483648 by omega), if_neg (by decide), if_pos ⟨hi, fun z => absurd z (by decide)⟩, if_neg (by decide), if_pos (by decide)]
theorem abS_5 {o : FO} {k s t : Nat} {A : AB} (h : fA o 2 k = nI 5) (hs : fA o 4 k = nI s) (s40 : s < 40) (ht : fA o 5 k = nI t) (t40 : t < 40) (hi : s ∈ aO A) (hj : t ∈ aO A) : abStep o k A = abJoin A s t := by
  unfold abStep
  rw [h, hs, ht, qn_cl (show s < 2147483648 by omega), qn_cl (show t < 2147483648 by omega), if_neg (by decide), if_pos ⟨hi, fun _ => hj⟩, if_neg (by decide), if_neg (by decide), if_pos (by decide)]
theorem abS_6 {o : FO} {k s : Nat} {A : AB} (h : fA o 2 k = nI 6) (hs : fA o 4 k = nI s) (s40 : s < 40) (hi : s ∈ aO A) : abStep o k A = abPart A s := by
  unfold abStep
  rw [h, hs, qn_cl (show s < 2147483648 by omega), if_neg (by decide), if_pos ⟨hi, fun z => absurd z (by decide)⟩, if_neg (by decide), if_neg (by decide), if_neg (by decide), if_pos (by decide)]
theorem abS_3 {o : FO} {k s : Nat} {A : AB} (h : fA o 2 k = nI 3) (hs : fA o 4 k = nI s) (s40 : s < 40) (hi : s ∈ aO A) : abStep o k A = abUp A s := by
  unfold abStep
  rw [h, hs, qn_cl (show s < 2147483648 by omega), if_neg (by decide), if_pos ⟨hi, fun z => absurd z (by decide)⟩, if_neg (by decide), if_neg (by decide), if_neg (by decide), if_neg (by decide), if_pos (by decide)]
theorem abS_4 {o : FO} {k s : Nat} {A : AB} (h : fA o 2 k = nI 4) (hs : fA o 4 k = nI s) (s40 : s < 40) (hi : s ∈ aO A) : abStep o k A = abDown A s := by
  unfold abStep
  rw [h, hs, qn_cl (show s < 2147483648 by omega), if_neg (by decide), if_pos ⟨hi, fun z => absurd z (by decide)⟩, if_neg (by decide), if_neg (by decide), if_neg (by decide), if_neg (by decide), if_neg (by decide), if_pos (by decide)]
theorem abS_7 {o : FO} {k s : Nat} {A : AB} (h : fA o 2 k = nI 7) (hs : fA o 4 k = nI s) (s40 : s < 40) (hi : s ∈ aO A) : abStep o k A = abDrop A s := by
  unfold abStep
  rw [h, hs, qn_cl (show s < 2147483648 by omega), if_neg (by decide), if_pos ⟨hi, fun z => absurd z (by decide)⟩, if_neg (by decide), if_neg (by decide), if_neg (by decide), if_neg (by decide), if_neg (by decide), if_neg (by decide)]
theorem abS_0 {o : FO} {k s : Nat} {A : AB} (h : fA o 2 k = nI 0) (hs : fA o 4 k = nI s) (s40 : s < 40) : abStep o k A = abAdd A s (fA o 14 s) (fA o 15 s) (fA o 16 s) := by
  unfold abStep
  rw [h, hs, qn_cl (show s < 2147483648 by omega), if_pos (by decide)]
theorem abS_no {o : FO} {k s : Nat} {A : AB} (h0 : ¬ fA o 2 k = 0) (hs : fA o 4 k = nI s) (s40 : s < 40) (hi : s ∉ aO A) : abStep o k A = A := by
  unfold abStep
  rw [hs, qn_cl (show s < 2147483648 by omega), if_neg h0, if_neg (fun z => hi z.1)]
theorem abS_no5 {o : FO} {k s t : Nat} {A : AB} (h : fA o 2 k = nI 5) (hs : fA o 4 k = nI s) (s40 : s < 40) (ht : fA o 5 k = nI t) (t40 : t < 40) (hj : t ∉ aO A) : abStep o k A = A := by
  unfold abStep
  rw [h, hs, ht, qn_cl (show s < 2147483648 by omega), qn_cl (show t < 2147483648 by omega), if_neg (by decide), if_neg (fun z => hj (z.2 rfl))]
theorem w_setGroup {m : Int64} {o : FO} {post : FO → Prop} (h : ∀ f, (∀ k, k < 40 → f k = if bL m k = true then m else fB o 6 k) → post (sBr o 6 f)) : wp_X1_setGroup m o post := by
  have key := lq1 (fun n i (x : FO) => wp_X1_setGroup_2 m post n i x) (fun i x => ∃ f, x = sBr o 6 f ∧ (∀ k, k < i → f k = if bL m k = true then m else fB o 6 k) ∧ ∀ k, i ≤ k → f k = fB o 6 k) 40 (by decide) ?_ ?_ 0 o (by decide) ⟨fB o 6, (sBr_id o 6).symm, fun k hk => by omega, fun k _ => rfl⟩
  · exact key
  · rintro n x ⟨f, rfl, h1, -⟩
    exact ⟨fun _ => h f h1, fun z => absurd (Int32.le_refl _) z⟩
  · rintro n i x hi ⟨f, rfl, h1, h2⟩ kk
    refine ⟨fun z => absurd z (qn_le (N := 40) hi), fun _ => ?_⟩
    show (lg_cmp (m &&& mkL i) 0 = 0 → _) ∧ (¬ lg_cmp (m &&& mkL i) 0 = 0 → _)
    rw [bL_and (by omega)]
    refine ⟨fun z => kk _ ⟨f, rfl, fun k hk => ?_, fun k hk => h2 k (by omega)⟩, fun z => ⟨vp_in_nI hi (by decide), ?_⟩⟩
    · by_cases e : k = i
      · subst e; rw [z, h2 k (Nat.le_refl _)]; rfl
      · exact h1 k (by omega)
    · rintro _ rfl
      rw [qn_cl (by omega), sBr_sB]
      refine kk _ ⟨_, rfl, fun k hk => ?_, fun k hk => ?_⟩
      · by_cases e : k = i
        · subst e; rw [qs_up, if_pos rfl]; simp at z; rw [z, if_pos rfl]
        · rw [qs_up, if_neg e]; exact h1 k (by omega)
      · rw [qs_up, if_neg (by omega)]; exact h2 k (by omega)
theorem sAr_01 (o : FO) (f g f' : Nat → Int32) : sAr (sAr (sAr o 0 f) 1 g) 0 f' = sAr (sAr o 0 f') 1 g := by
  unfold sAr
  show (o.1, o.2.1, o.2.2.1, va_up (va_up (va_up o.2.2.2.1 0 f) 1 g) 0 f', o.2.2.2.2) = (o.1, o.2.1, o.2.2.1, va_up (va_up o.2.2.2.1 0 f') 1 g, o.2.2.2.2)
  have : va_up (va_up (va_up o.2.2.2.1 0 f) 1 g) 0 f' = va_up (va_up o.2.2.2.1 0 f') 1 g := by
    funext j
    simp only [qs_up]
    by_cases e0 : j = 0
    · subst e0; simp
    · by_cases e1 : j = 1
      · subst e1; simp
      · simp [e0, e1]
  rw [this]
theorem w_moveGroup {m : Int64} {dx dy : Int32} {o : FO} {post : FO → Prop} (h : ∀ f g, (∀ k, k < 40 → f k = if bL m k = true then fA o 0 k + dx else fA o 0 k) → (∀ k, k < 40 → g k = if bL m k = true then fA o 1 k + dy else fA o 1 k) → post (sAr (sAr o 0 f) 1 g)) : wp_X1_moveGroup m dx dy o post := by
  have key := lq1 (fun n i (x : FO) => wp_X1_moveGroup_3 m dx dy post n i x) (fun i x => ∃ f g, x = sAr (sAr o 0 f) 1 g ∧ (∀ k, k < i → f k = if bL m k = true then fA o 0 k + dx else fA o 0 k) ∧ (∀ k, i ≤ k → f k = fA o 0 k) ∧ (∀ k, k < i → g k = if bL m k = true then fA o 1 k + dy else fA o 1 k) ∧ ∀ k, i ≤ k → g k = fA o 1 k) 40 (by decide) ?_ ?_ 0 o (by decide) ⟨fA o 0, fA o 1, by
      have := sAr_id o 0
      rw [this, sAr_id], fun k hk => by omega, fun k _ => rfl, fun k hk => by omega, fun k _ => rfl⟩
  · exact key
  · rintro n x ⟨f, g, rfl, h1, -, h2, -⟩
    exact ⟨fun _ => h f g h1 h2, fun z => absurd (Int32.le_refl _) z⟩
  · rintro n i x hi ⟨f, g, rfl, h1, h2, h3, h4⟩ kk
    refine ⟨fun z => absurd z (qn_le (N := 40) hi), fun _ => ?_⟩
    show (lg_cmp (m &&& mkL i) 0 = 0 → _) ∧ (¬ lg_cmp (m &&& mkL i) 0 = 0 → _)
    rw [bL_and (by omega)]
    have hin : vp_in (nI i) 40 := vp_in_nI hi (by decide)
    refine ⟨fun z => kk _ ⟨f, g, rfl, fun k hk => ?_, fun k hk => h2 k (by omega), fun k hk => ?_, fun k hk => h4 k (by omega)⟩, fun z => ⟨hin, hin, ?_⟩⟩
    · by_cases e : k = i
      · subst e; rw [z, h2 k (Nat.le_refl _)]; rfl
      · exact h1 k (by omega)
    · by_cases e : k = i
      · subst e; rw [z, h4 k (Nat.le_refl _)]; rfl
      · exact h3 k (by omega)
    · rintro _ rfl
      refine ⟨hin, hin, ?_⟩
      rintro _ rfl
      rw [qn_cl (by omega)]
      have e1 : sA (sAr (sAr o 0 f) 1 g) 0 i (fA (sAr (sAr o 0 f) 1 g) 0 i + dx) = sAr (sAr o 0 (va_up f i (f i + dx))) 1 g := sAr_01 o f g _
      rw [e1, sAr_sA]
      refine kk _ ⟨_, _, rfl, fun k hk => ?_, fun k hk => ?_, fun k hk => ?_, fun k hk => ?_⟩
      · by_cases e : k = i
        · subst e; rw [qs_up, if_pos rfl]; simp at z; rw [z, if_pos rfl, h2 k (Nat.le_refl _)]
        · rw [qs_up, if_neg e]; exact h1 k (by omega)
      · rw [qs_up, if_neg (by omega)]; exact h2 k (by omega)
      · by_cases e : k = i
        · subst e; rw [qs_up, if_pos rfl]; simp at z; rw [z, if_pos rfl]
          show g k + dy = _
          rw [h4 k (Nat.le_refl _)]
        · rw [qs_up, if_neg e]; exact h3 k (by omega)
      · rw [qs_up, if_neg (by omega)]; exact h4 k (by omega)
theorem w_leave {s : Nat} {o : FO} {post : FO → Prop} (hs : s < 40) (h : ∀ f, (∀ k, k < 40 → f k = if k = s then mkL s else if bL (fB o 6 s &&& (mkL s ^^^ (-1))) k = true then fB o 6 s &&& (mkL s ^^^ (-1)) else fB o 6 k) → post (sBr o 6 f)) : wp_X1_leaveGroup (nI s) o post := by
  have hin : vp_in (nI s) 40 := vp_in_nI hs (by decide)
  refine ⟨hin, ?_⟩
  show wp_X1_setGroup (fB o 6 (nI s).toNatClampNeg &&& (mkL s ^^^ (-1))) o _
  rw [qn_cl (by omega)]
  refine w_setGroup fun f hf => ?_
  refine ⟨hin, ?_⟩
  rintro _ rfl
  rw [sBr_sB]
  refine h _ fun k hk => ?_
  rw [qs_up]
  by_cases e : k = s
  · rw [if_pos e, if_pos e]
  · rw [if_neg e, if_neg e, hf k hk]
theorem CV_lrm {ob : FO} {A : AB} (s : Nat) {f : Nat → Int32} (h : (aO A).Pairwise (fun j k => f j < f k)) : (lrm (aO A) s).Pairwise (fun j k => f j < f k) := h.filter _
theorem CG_lay {ob : FO} {A : AB} {t : Nat} (h : CG ob A t) : (-((t + 1 : Nat) : Int) ≤ (fI ob 9).toInt ∧ (fI ob 9).toInt ≤ 0) ∧ (0 ≤ (fI ob 8).toInt ∧ (fI ob 8).toInt ≤ (t + 1 : Nat)) := by
  obtain ⟨-, -, ⟨a, b⟩, c, d⟩ := h
  exact ⟨⟨by omega, b⟩, c, by omega⟩
theorem CG.up1 {ob : FO} {A : AB} {t : Nat} (h : CG ob A t) : CG ob A (t + 1) := ⟨h.1, h.2.1, CG_lay h⟩
/-- the class does an act that adds nothing -/
theorem w_change {g : GH} {ab aa : Nat} {ob ac o : FO} {k n t : Nat} {A : AB} {W H : Nat → Int32} {post : GH → Prop} (hb : g ab = some (2, ob)) (ha : g aa = some (1, ac))
    (e1 : fI ac 1 = fA o 2 k) (e2 : fI ac 2 = fA o 4 k) (e3 : (fA o 2 k = 1 ∨ fA o 2 k = 2 ∨ fA o 2 k = 5) → fI ac 3 = fA o 5 k) (e4 : fA o 2 k = 1 → fI ac 4 = fA o 6 k)
    (hsh : ∃ s, s < n ∧ fA o 4 k = nI s) (hk : ∃ q, q < 8 ∧ fA o 2 k = nI q) (hj : fA o 2 k = 5 → ∃ t, t < n ∧ fA o 5 k = nI t ∧ fA o 5 k ≠ fA o 4 k) (hn : n ≤ 40) (h0 : ¬ fA o 2 k = 0)
    (hV : CV ob A W H) (hG : CG ob A t) (ht : t ≤ 200) (hw : ABW n A t) (K : ∀ x, CV x (abStep o k A) W H → CG x (abStep o k A) (t + 1) → post (hu g ab (2, x))) : wp_X1_change ab aa g post := by
  obtain ⟨s, hs, es⟩ := hsh
  obtain ⟨q, hq, eq⟩ := hk
  have s40 : s < 40 := by omega
  have hin : vp_in (nI s) 40 := vp_in_nI s40 (by decide)
  refine ⟨ac, ha, ob, hb, ?_⟩
  rw [e2, es]
  by_cases hi : s ∈ aO A
  · refine w_hasT s40 hV hi ⟨fun _ => ⟨ac, ha, ?_⟩, fun z => absurd z (by decide)⟩
    rw [e1, eq]
    rw [eq] at e3 e4 h0 hj
    have hgs := hG.1 s hi
    have hl := CG_lay hG
    have hO : ∀ j, j ∈ aO A → j < 40 := fun j hj => by have := (hw.2 j hj).1; omega
    have hlt : ∀ j, j ∈ aO A → ¬ aL A j = aN A := fun j hj => by have := (hw.2 j hj).2.1; omega
    have hm : ∀ k', k' < 64 → bL (fB ob 6 s &&& (mkL s ^^^ (-1))) k' = decide (k' ∈ aO A ∧ aL A k' = aL A s ∧ k' ≠ s) := fun k' hk' => by
      rw [bL_andn (by omega) hk', hgs k' hk', ← Bool.decide_and]
      exact decide_eq_decide.mpr ⟨fun z => ⟨z.1.1, z.1.2, z.2⟩, fun z => ⟨⟨z.1, z.2.1⟩, z.2.2⟩⟩
    match q, hq with
    | 0, _ => exact absurd rfl h0
    | 1, _ =>
      refine br_t rfl ⟨ob, hb, ob, hb, hin, ac, ha, ac, ha, ob, hb, ?_⟩
      rw [e3 (Or.inl rfl), e4 rfl, qn_cl (by omega)]
      refine w_moveGroup fun f f' hf hf' => ?_
      rintro _ rfl
      refine K _ ?_ ?_
      · rw [abS_1 eq es s40 hi]
        refine ⟨hV.1, fun j hj => ?_, hV.2.2⟩
        obtain ⟨v0, v1, v2, v3, v4⟩ := hV.2.1 j hj
        refine ⟨?_, ?_, v2, v3, v4⟩
        · show f j = if aL A j = aL A s then aC A j + fA o 5 k else aC A j
          rw [hf j (hO j hj), hgs j (by have := hO j hj; omega), v0]
          by_cases e : aL A j = aL A s
          · rw [if_pos e, if_pos (decide_eq_true ⟨hj, e⟩)]
          · rw [if_neg e, if_neg (fun z => e (of_decide_eq_true z).2)]
        · show f' j = if aL A j = aL A s then aR A j + fA o 6 k else aR A j
          rw [hf' j (hO j hj), hgs j (by have := hO j hj; omega), v1]
          by_cases e : aL A j = aL A s
          · rw [if_pos e, if_pos (decide_eq_true ⟨hj, e⟩)]
          · rw [if_neg e, if_neg (fun z => e (of_decide_eq_true z).2)]
      · rw [abS_1 eq es s40 hi]
        exact hG.up1
    | 2, _ =>
      refine br_f (by decide) (br_t rfl ⟨ob, hb, ac, ha, ob, hb, hin, ?_⟩)
      rintro _ rfl
      rw [e3 (Or.inr (Or.inl rfl)), qn_cl (by omega)]
      refine K _ ?_ ?_
      · rw [abS_2 eq es s40 hi]
        refine ⟨hV.1, fun j hj => ?_, hV.2.2⟩
        obtain ⟨v0, v1, v2, v3, v4⟩ := hV.2.1 j hj
        refine ⟨v0, v1, v2, v3, ?_⟩
        show va_up (fA ob 4) s (fA o 5 k) j = va_up (aK A) s (fA o 5 k) j
        rw [qs_up, qs_up]
        split
        · rfl
        · exact v4
      · rw [abS_2 eq es s40 hi]
        exact hG.up1
    | 3, _ =>
      refine br_f (by decide) (br_f (by decide) (br_t rfl ⟨ob, hb, ob, hb, ob, hb, ?_⟩))
      rintro _ rfl
      refine ⟨_, hu_s, hin, ?_⟩
      rintro _ rfl
      rw [hu_hu, qn_cl (by omega)]
      have hg0 := hG
      obtain ⟨-, g2, ⟨g3, g4⟩, g5, g6⟩ := hg0
      have eh : (fI ob 8 + 1).toInt = (fI ob 8).toInt + 1 := q_addI (by have : (1 : Int32).toInt = 1 := rfl; omega) (by have : (1 : Int32).toInt = 1 := rfl; omega)
      have ne : ∀ j, j ∈ lrm (aO A) s → va_up (fA ob 5) s (fI ob 8 + 1) j = fA ob 5 j := fun j hj => by rw [qs_up, if_neg (mem_lrm.mp hj).2]
      refine K _ ?_ ?_
      · rw [abS_3 eq es s40 hi]
        refine ⟨fun j hj => ?_, fun j hj => hV.2.1 j ?_, ?_⟩
        · show bL (fL ob 7) j = decide (j ∈ lrm (aO A) s ++ [s])
          rw [hV.1 j hj]
          refine decide_eq_decide.mpr ?_
          rw [List.mem_append, List.mem_singleton, mem_lrm]
          by_cases e : j = s
          · subst e; simp [hi]
          · simp [e]
        · rcases List.mem_append.mp hj with z | z
          · exact (mem_lrm.mp z).1
          · rw [List.mem_singleton.mp z]; exact hi
        · show (lrm (aO A) s ++ [s]).Pairwise (fun j k => va_up (fA ob 5) s (fI ob 8 + 1) j < va_up (fA ob 5) s (fI ob 8 + 1) k)
          refine List.pairwise_append.mpr ⟨(CV_lrm (ob := ob) s hV.2.2).imp_of_mem (fun ha hb h => by rw [ne _ ha, ne _ hb]; exact h), List.pairwise_singleton _ _, fun a ha b hb => ?_⟩
          rw [List.mem_singleton.mp hb, ne a ha, qs_up, if_pos rfl, q_lt, eh]
          have := (g2 a (mem_lrm.mp ha).1).2
          omega
      · rw [abS_3 eq es s40 hi]
        have hback : ∀ j, j ∈ lrm (aO A) s ++ [s] → j ∈ aO A := fun j hj => by
          rcases List.mem_append.mp hj with z | z
          · exact (mem_lrm.mp z).1
          · rw [List.mem_singleton.mp z]; exact hi
        refine ⟨fun j hj k' hk' => ?_, fun j hj => ?_, ⟨by show _ ≤ (fI ob 9).toInt; omega, g4⟩, ?_, ?_⟩
        · have := hG.1 j (hback j hj) k' hk'
          refine this.trans (decide_eq_decide.mpr ?_)
          show k' ∈ aO A ∧ aL A k' = aL A j ↔ k' ∈ lrm (aO A) s ++ [s] ∧ aL A k' = aL A j
          rw [List.mem_append, List.mem_singleton, mem_lrm]
          by_cases e : k' = s
          · subst e; simp [hi]
          · simp [e]
        · show (fI ob 9).toInt ≤ (va_up (fA ob 5) s (fI ob 8 + 1) j).toInt ∧ (va_up (fA ob 5) s (fI ob 8 + 1) j).toInt ≤ (fI ob 8 + 1).toInt
          rw [qs_up]
          split
          · omega
          · have := g2 j (hback j hj); omega
        · show 0 ≤ (fI ob 8 + 1).toInt
          omega
        · show (fI ob 8 + 1).toInt ≤ _
          omega
    | 4, _ =>
      refine br_f (by decide) (br_f (by decide) (br_f (by decide) (br_t rfl ⟨ob, hb, ob, hb, ob, hb, ?_⟩)))
      rintro _ rfl
      refine ⟨_, hu_s, hin, ?_⟩
      rintro _ rfl
      rw [hu_hu, qn_cl (by omega)]
      have hg0 := hG
      obtain ⟨-, g2, ⟨g3, g4⟩, g5, g6⟩ := hg0
      have eh : (fI ob 9 - 1).toInt = (fI ob 9).toInt - 1 := q_subI (by have : (1 : Int32).toInt = 1 := rfl; omega) (by have : (1 : Int32).toInt = 1 := rfl; omega)
      have ne : ∀ j, j ∈ lrm (aO A) s → va_up (fA ob 5) s (fI ob 9 - 1) j = fA ob 5 j := fun j hj => by rw [qs_up, if_neg (mem_lrm.mp hj).2]
      have hmem : ∀ j, j ∈ s :: lrm (aO A) s ↔ j ∈ aO A := fun j => by
        rw [List.mem_cons, mem_lrm]
        by_cases e : j = s
        · subst e; simp [hi]
        · simp [e]
      refine K _ ?_ ?_
      · rw [abS_4 eq es s40 hi]
        refine ⟨fun j hj => ?_, fun j hj => hV.2.1 j ((hmem j).mp hj), ?_⟩
        · show bL (fL ob 7) j = decide (j ∈ s :: lrm (aO A) s)
          rw [hV.1 j hj]
          exact decide_eq_decide.mpr (hmem j).symm
        · show (s :: lrm (aO A) s).Pairwise (fun j k => va_up (fA ob 5) s (fI ob 9 - 1) j < va_up (fA ob 5) s (fI ob 9 - 1) k)
          refine List.pairwise_cons.mpr ⟨fun b hb => ?_, (CV_lrm (ob := ob) s hV.2.2).imp_of_mem (fun ha hb h => by rw [ne _ ha, ne _ hb]; exact h)⟩
          rw [ne b hb, qs_up, if_pos rfl, q_lt, eh]
          have := (g2 b (mem_lrm.mp hb).1).1
          omega
      · rw [abS_4 eq es s40 hi]
        refine ⟨fun j hj k' hk' => ?_, fun j hj => ?_, ⟨?_, ?_⟩, g5, by show (fI ob 8).toInt ≤ _; omega⟩
        · have := hG.1 j ((hmem j).mp hj) k' hk'
          refine this.trans (decide_eq_decide.mpr ?_)
          show k' ∈ aO A ∧ aL A k' = aL A j ↔ k' ∈ s :: lrm (aO A) s ∧ aL A k' = aL A j
          rw [hmem]
        · show (fI ob 9 - 1).toInt ≤ (va_up (fA ob 5) s (fI ob 9 - 1) j).toInt ∧ (va_up (fA ob 5) s (fI ob 9 - 1) j).toInt ≤ (fI ob 8).toInt
          rw [qs_up]
          split
          · omega
          · have := g2 j ((hmem j).mp hj); omega
        · show _ ≤ (fI ob 9 - 1).toInt
          omega
        · show (fI ob 9 - 1).toInt ≤ 0
          omega
    | 5, _ =>
      obtain ⟨t', ht', et, -⟩ := hj rfl
      have t40 : t' < 40 := by omega
      refine br_f (by decide) (br_f (by decide) (br_f (by decide) (br_f (by decide) (br_t rfl ⟨ac, ha, ob, hb, ?_⟩))))
      rw [e3 (Or.inr (Or.inr rfl)), et]
      refine w_hasT s40 hV hi ⟨fun z => absurd z (by decide), fun _ => ?_⟩
      by_cases hi2 : t' ∈ aO A
      · refine w_hasT t40 hV hi2 ⟨fun z => absurd z (by decide), fun _ => ⟨hin, vp_in_nI t40 (by decide), ?_⟩⟩
        rw [qn_cl (by omega), qn_cl (by omega)]
        refine w_setGroup fun f hf => ?_
        rintro _ rfl
        have hm2 : ∀ k', k' < 64 → bL (fB ob 6 s ||| fB ob 6 t') k' = decide (k' ∈ aO A ∧ (aL A k' = aL A s ∨ aL A k' = aL A t')) := fun k' hk' => by
          rw [bL_or, hgs k' hk', hG.1 t' hi2 k' hk', ← Bool.decide_or]
          exact decide_eq_decide.mpr ⟨fun z => z.elim (fun y => ⟨y.1, Or.inl y.2⟩) (fun y => ⟨y.1, Or.inr y.2⟩), fun z => z.2.elim (fun y => Or.inl ⟨z.1, y⟩) (fun y => Or.inr ⟨z.1, y⟩)⟩
        refine K _ ?_ ?_
        · rw [abS_5 eq es s40 et t40 hi hi2]
          exact hV
        · rw [abS_5 eq es s40 et t40 hi hi2]
          refine ⟨fun j hj k' hk' => ?_, hG.2.1, hl⟩
          show bL (f j) k' = decide (k' ∈ aO A ∧ (if aL A k' = aL A t' then aL A s else aL A k') = (if aL A j = aL A t' then aL A s else aL A j))
          rw [hf j (hO j hj), hm2 j (by have := hO j hj; omega)]
          by_cases c : aL A j = aL A s ∨ aL A j = aL A t'
          · rw [if_pos (decide_eq_true ⟨hj, c⟩), hm2 k' hk']
            refine decide_eq_decide.mpr (and_congr_right fun _ => ?_)
            have : (if aL A j = aL A t' then aL A s else aL A j) = aL A s := by
              split
              · rfl
              · rename_i z; exact c.resolve_right z
            rw [this]
            by_cases c2 : aL A k' = aL A t'
            · simp [c2]
            · simp [c2]
          · rw [if_neg (fun z => c (of_decide_eq_true z).2), hG.1 j hj k' hk']
            refine decide_eq_decide.mpr (and_congr_right fun _ => ?_)
            have c1 : ¬ aL A j = aL A s := fun z => c (Or.inl z)
            have c2 : ¬ aL A j = aL A t' := fun z => c (Or.inr z)
            rw [if_neg c2]
            by_cases c3 : aL A k' = aL A t'
            · rw [if_pos c3]
              exact ⟨fun z => absurd (z.symm.trans c3) c2, fun z => absurd z.symm c1⟩
            · rw [if_neg c3]
      · refine w_hasF t40 hV hi2 ⟨fun _ => ?_, fun z => absurd rfl z⟩
        rintro _ rfl
        rw [abS_no5 eq es s40 et t40 hi2] at K
        exact K _ hV hG.up1
    | 6, _ =>
      refine br_f (by decide) (br_f (by decide) (br_f (by decide) (br_f (by decide) (br_f (by decide) (br_t rfl ⟨ob, hb, ?_⟩)))))
      refine w_leave s40 fun f hf => ?_
      rintro _ rfl
      refine K _ ?_ ?_
      · rw [abS_6 eq es s40 hi]
        exact hV
      · rw [abS_6 eq es s40 hi]
        refine ⟨fun j hj k' hk' => ?_, hG.2.1, hl⟩
        show bL (f j) k' = decide (k' ∈ aO A ∧ va_up (aL A) s (aN A) k' = va_up (aL A) s (aN A) j)
        rw [hf j (hO j hj), qs_up, qs_up]
        by_cases c : j = s
        · subst c
          rw [if_pos rfl, bL_mk (by omega), if_pos rfl]
          refine decide_eq_decide.mpr ⟨fun z => ?_, fun z => ?_⟩
          · subst z; exact ⟨hi, if_pos rfl⟩
          · by_cases e : k' = j
            · exact e
            · rw [if_neg e] at z; exact absurd z.2 (hlt k' z.1)
        · rw [if_neg c, if_neg c, hm j (by have := hO j hj; omega)]
          by_cases c2 : aL A j = aL A s
          · rw [if_pos (decide_eq_true ⟨hj, c2, c⟩), hm k' hk']
            refine decide_eq_decide.mpr ⟨fun z => ⟨z.1, by rw [if_neg z.2.2, c2]; exact z.2.1⟩, fun z => ?_⟩
            by_cases e : k' = s
            · rw [if_pos e] at z; exact absurd z.2.symm (hlt j hj)
            · rw [if_neg e] at z; exact ⟨z.1, z.2.trans c2, e⟩
          · rw [if_neg (fun z => c2 (of_decide_eq_true z).2.1), hG.1 j hj k' hk']
            refine decide_eq_decide.mpr (and_congr_right fun hm' => ?_)
            by_cases e : k' = s
            · rw [if_pos e, e]; exact ⟨fun z => absurd z.symm c2, fun z => absurd z.symm (hlt j hj)⟩
            · rw [if_neg e]
    | 7, _ =>
      refine br_f (by decide) (br_f (by decide) (br_f (by decide) (br_f (by decide) (br_f (by decide) (br_f (by decide) (br_t rfl ⟨ob, hb, ?_⟩))))))
      refine w_leave s40 fun f hf => ?_
      rintro _ rfl
      refine ⟨_, hu_s, ?_⟩
      refine ⟨_, hu_s, ?_⟩
      rintro _ rfl
      rw [hu_hu]
      have hmem : ∀ j, j < 64 → bL (fL ob 7 &&& (mkL s ^^^ (-1))) j = decide (j ∈ lrm (aO A) s) := fun j hj => by
        rw [bL_andn (by omega) hj, hV.1 j hj, ← Bool.decide_and]
        exact decide_eq_decide.mpr mem_lrm.symm
      refine K _ ?_ ?_
      · rw [abS_7 eq es s40 hi]
        exact ⟨hmem, fun j hj => hV.2.1 j (mem_lrm.mp hj).1, CV_lrm (ob := ob) s hV.2.2⟩
      · rw [abS_7 eq es s40 hi]
        refine ⟨fun j hj k' hk' => ?_, fun j hj => hG.2.1 j (mem_lrm.mp hj).1, hl⟩
        obtain ⟨j1, j2⟩ := mem_lrm.mp hj
        show bL (f j) k' = decide (k' ∈ lrm (aO A) s ∧ aL A k' = aL A j)
        rw [hf j (hO j j1), if_neg j2, hm j (by have := hO j j1; omega)]
        by_cases c2 : aL A j = aL A s
        · rw [if_pos (decide_eq_true ⟨j1, c2, j2⟩), hm k' hk']
          refine decide_eq_decide.mpr ?_
          rw [mem_lrm, c2]
          exact ⟨fun z => ⟨⟨z.1, z.2.2⟩, z.2.1⟩, fun z => ⟨z.1.1, z.2, z.1.2⟩⟩
        · rw [if_neg (fun z => c2 (of_decide_eq_true z).2.1), hG.1 j j1 k' hk']
          refine decide_eq_decide.mpr ?_
          rw [mem_lrm]
          refine ⟨fun z => ⟨⟨z.1, fun e => c2 ?_⟩, z.2⟩, fun z => ⟨z.1.1, z.2⟩⟩
          rw [← z.2, e]
    | q + 8, h => omega
  · refine w_hasF s40 hV hi ⟨fun z => absurd rfl z, fun _ => ?_⟩
    rw [abS_no h0 es s40 hi] at K
    have := K ob hV hG.up1
    rwa [hu_id hb] at this
end
