section
/-! pure layer J: reading the reference's board -/
theorem w_isIn {p a b : Int32} {post : Int32 → Prop} (h1 : ¬ p < a → ¬ b < p → post 1) (h0 : (p < a ∨ b < p) → post 0) : wp_X8_isIn p a b post :=
  ⟨fun z => h0 (Or.inl z), fun z => ⟨fun y => h0 (Or.inr y), fun y => h1 z y⟩⟩
theorem fb_ct_ext {p : Nat → Bool} {n N : Nat} (h : n ≤ N) (h0 : ∀ k, n ≤ k → k < N → p k = false) : fb_ct p N = fb_ct p n := by
  obtain ⟨d, rfl⟩ : ∃ d, N = n + d := ⟨N - n, by omega⟩
  rw [fb_ct_split, fb_ct_zero.mpr fun k hk => h0 (n + k) (by omega) (by omega)]
  rfl
theorem fb_ct_one {a N : Nat} (h : a < N) : fb_ct (fun k => decide (k = a)) N = 1 := by
  have h1 := fb_ct_upd (fun _ => false) true h
  have h2 : fb_ct (fun _ => false) N = 0 := fb_ct_zero.mpr fun k _ => rfl
  have h3 : fb_ct (fun k => if k = a then true else false) N = fb_ct (fun k => decide (k = a)) N := fb_ct_cong fun k _ => by
    by_cases e : k = a <;> simp [e]
  rw [h2] at h1
  simp only [Bool.false_eq_true, if_false] at h1
  rw [← h3]
  simpa using h1
theorem fb_ct_list {l : List Nat} {N : Nat} (hnd : l.Nodup) (h : ∀ k, k ∈ l → k < N) : fb_ct (fun k => decide (k ∈ l)) N = l.length := by
  induction l with
  | nil => exact fb_ct_zero.mpr fun k _ => by simp
  | cons a l ih =>
    have hd := List.nodup_cons.mp hnd
    have h1 : fb_ct (fun k => decide (k ∈ a :: l)) N = fb_ct (fun k => decide (k = a) || decide (k ∈ l)) N := fb_ct_cong fun k _ => by
      rw [← Bool.decide_or]
      exact decide_eq_decide.mpr List.mem_cons
    rw [h1, fb_ct_or (p := fun k => decide (k = a)) (q := fun k => decide (k ∈ l)) fun k _ z => hd.1 (by
      have e : k = a := by simpa using z.1
      have e2 : k ∈ l := by simpa using z.2
      exact e ▸ e2), fb_ct_one (h a List.mem_cons_self), ih hd.2 fun k hk => h k (List.mem_cons_of_mem _ hk), List.length_cons]
    omega
theorem gD_mem {l : List Nat} {i : Nat} (h : i < l.length) : l.getD i 0 ∈ l := by rw [gD_get h]; exact List.getElem_mem h
theorem nd_len {l : List Nat} (hnd : l.Nodup) {N : Nat} (h : ∀ k, k ∈ l → k < N) : l.length ≤ N := by
  rw [← fb_ct_list hnd h]
  exact fb_ct_le _ _
theorem vis_T {D : Nat → Bool} {A : AB} {W H : Nat → Int32} {c r : Int32} {k : Nat} (h : D k = false) (h2 : covs A W H c r k = true) : visS D A W H c r k = true := by unfold visS; rw [h, h2]; rfl
theorem vis_D {D : Nat → Bool} {A : AB} {W H : Nat → Int32} {c r : Int32} {k : Nat} (h : D k = true) : visS D A W H c r k = false := by unfold visS; rw [h]; rfl
theorem vis_C {D : Nat → Bool} {A : AB} {W H : Nat → Int32} {c r : Int32} {k : Nat} (h : covs A W H c r k = false) : visS D A W H c r k = false := by unfold visS; rw [h, Bool.and_false]
section RD
variable {o : FO} {A : AB} {W H : Nat → Int32} {D : Nat → Bool}
theorem w_covers {s c r : Nat} {post : Int32 → Prop} (hb : ABb A W H) (hi : s ∈ aO A) (e0 : fA o 21 s = aC A s) (e1 : fA o 22 s = aR A s) (e2 : fA o 12 s = W s) (e3 : fA o 13 s = H s) (hc : c < 10000) (hr : r < 10000)
    (h : post (if covs A W H (nI c) (nI r) s then 1 else 0)) : wp_X8_covers (nI s) (nI c) (nI r) o post := by
  obtain ⟨s40, ⟨w, w1, w2, ew⟩, ⟨t, t1, t2, et⟩, hC, hR⟩ := hb s hi
  have hin : vp_in (nI s) 40 := vp_in_nI s40 (by decide)
  have ew' : (W s).toInt = w := by rw [ew, q_nI (by omega)]
  have et' : (H s).toInt = t := by rw [et, q_nI (by omega)]
  have one : (1 : Int32).toInt = 1 := rfl
  have a1 : (aC A s + W s).toInt = (aC A s).toInt + (W s).toInt := q_addI (by omega) (by omega)
  have a2 : (aR A s + H s).toInt = (aR A s).toInt + (H s).toInt := q_addI (by omega) (by omega)
  have b1 : (aC A s + W s - 1).toInt = (aC A s).toInt + (W s).toInt - 1 := by rw [q_subI (by omega) (by omega)]; omega
  have b2 : (aR A s + H s - 1).toInt = (aR A s).toInt + (H s).toInt - 1 := by rw [q_subI (by omega) (by omega)]; omega
  have ec : (nI c).toInt = c := q_nI (by omega)
  have er : (nI r).toInt = r := q_nI (by omega)
  rw [q_covs hb hi hc hr] at h
  refine ⟨hin, hin, hin, ?_⟩
  rw [qn_cl (by omega), e0, e1, e2, e3]
  refine w_isIn (fun z y => ⟨fun x => absurd x (by decide), fun _ => ⟨hin, hin, hin, w_isIn (fun z2 y2 => ⟨fun x => absurd x (by decide), fun _ => ?_⟩) (fun z2 => ⟨fun _ => ?_, fun x => absurd rfl x⟩)⟩⟩) (fun z => ⟨fun _ => ?_, fun x => absurd rfl x⟩)
  · rw [q_lt] at z y z2 y2
    rw [decide_eq_true (by omega)] at h
    exact h
  · rw [q_lt, q_lt] at z2
    rw [q_lt] at z y
    rw [decide_eq_false (by omega)] at h
    exact h
  · rw [q_lt, q_lt] at z
    rw [decide_eq_false (by omega)] at h
    exact h
theorem w_seenAt {c r : Nat} {post : Int32 → Prop} (hM : MR (fI o 18) (fA o 19) (fA o 20) (fA o 21) (fA o 22) (fA o 23) (fA o 24) A) (hb : ABb A (fA o 12) (fA o 13)) (hnd : (aO A).Nodup) (hD : ∀ k, k < 40 → (fA o 17 k = 0 ↔ D k = false)) (hc : c < 10000) (hr : r < 10000)
    (h : post (oI (topO (visS D A (fA o 12) (fA o 13) (nI c) (nI r)) (aO A)))) : wp_X8_seenAt (nI c) (nI r) o post := by
  obtain ⟨m1, m2, m3, m4, m5⟩ := hM
  have hlen : (aO A).length ≤ 40 := nd_len hnd fun k hk => (hb k hk).1
  refine lq1 (fun n i x => wp_X8_seenAt_5 (nI c) (nI r) o post n x i) (fun i x => x = oI (topO (visS D A (fA o 12) (fA o 13) (nI c) (nI r)) ((aO A).take i))) (aO A).length (by omega) ?_ ?_ 0 (-1) (by omega) rfl
  · rintro n x rfl
    refine ⟨fun _ => ?_, fun z => absurd (by rw [m1]; exact Int32.le_refl _) z⟩
    rw [List.take_length]
    exact h
  · rintro n i x hi rfl kk
    have hg := gD_mem hi
    have hs := (hb _ hg).1
    refine ⟨fun z => absurd z (by rw [m1]; exact nI_ge hi (by omega)), fun _ => ⟨vp_in_nI (by omega) (by decide), ?_⟩⟩
    rw [qn_cl (by omega), m2 i hi]
    refine ⟨vp_in_nI hs (by decide), ?_⟩
    rw [qn_cl (by omega)]
    have step : ∀ v, v = oI (topO (visS D A (fA o 12) (fA o 13) (nI c) (nI r)) ((aO A).take (i + 1))) → wp_X8_seenAt_5 (nI c) (nI r) o post n v (nI i + 1) := fun v hv => kk v hv
    have tk : ((aO A).take (i + 1)) = (aO A).take i ++ [(aO A).getD i 0] := take_snoc hi
    refine ⟨fun z => step _ ?_, fun z => ⟨vp_in_nI (by omega) (by decide), ?_⟩⟩
    · rw [tk, topO_snoc]
      have : D ((aO A).getD i 0) = true := by
        cases e : D ((aO A).getD i 0) with
        | true => rfl
        | false => exact absurd ((hD _ hs).mpr e) z
      rw [vis_D this]; rfl
    · obtain ⟨x0, x1, -⟩ := m4 _ hg
      have hd := (hD _ hs).mp z
      refine w_covers hb hg x0 x1 rfl rfl hc hr ?_
      cases ec : covs A (fA o 12) (fA o 13) (nI c) (nI r) ((aO A).getD i 0) with
      | false =>
        refine ⟨fun _ => step _ ?_, fun z => absurd rfl z⟩
        rw [tk, topO_snoc, vis_C ec]; rfl
      | true =>
        refine ⟨fun z => absurd z (by decide), fun _ => ⟨vp_in_nI (by omega) (by decide), ?_⟩⟩
        refine step _ ?_
        rw [tk, topO_snoc]
        have : visS D A (fA o 12) (fA o 13) (nI c) (nI r) ((aO A).getD i 0) = true := vis_T hd ec
        rw [if_pos this]
        rfl
theorem w_inGroup {s n : Nat} {post : Int32 → Prop} (hn : fI o 10 = nI n) (n40 : n ≤ 40) (hM : MR (fI o 18) (fA o 19) (fA o 20) (fA o 21) (fA o 22) (fA o 23) (fA o 24) A) (hi : s ∈ aO A) (hs : s < n)
    (h : post (nI (fb_ct (fun k => decide (k ∈ aO A ∧ aL A k = aL A s)) n))) : wp_X8_inGroup (nI s) o post := by
  obtain ⟨m1, m2, m3, m4, m5⟩ := hM
  refine lq1 (fun n' i x => wp_X8_inGroup_4 (nI s) o post n' x i) (fun i x => x = nI (fb_ct (fun k => decide (k ∈ aO A ∧ aL A k = aL A s)) i)) n (by omega) ?_ ?_ 0 0 (by omega) rfl
  · rintro n' x rfl
    exact ⟨fun _ => h, fun z => absurd (by rw [hn]; exact Int32.le_refl _) z⟩
  · rintro n' i x hi2 rfl kk
    have hin : vp_in (nI i) 40 := vp_in_nI (by omega) (by decide)
    refine ⟨fun z => absurd z (by rw [hn]; exact nI_ge hi2 (by omega)), fun _ => ⟨hin, ?_⟩⟩
    rw [qn_cl (by omega), m3 i (by omega), qn_cl (by omega)]
    have step : ∀ v, v = nI (fb_ct (fun k => decide (k ∈ aO A ∧ aL A k = aL A s)) (i + 1)) → wp_X8_inGroup_4 (nI s) o post n' v (nI i + 1) := fun v hv => kk v hv
    by_cases e : i ∈ aO A
    · rw [if_pos e]
      refine ⟨fun z => absurd z (by decide), fun _ => ⟨hin, vp_in_nI (by omega) (by decide), fun z => step _ ?_, fun z => step _ ?_⟩⟩
      · rw [fb_ct_succ, decide_eq_false (fun y => z ((m5 i e s hi).mpr y.2))]
        exact Int32.add_zero _
      · rw [fb_ct_succ, decide_eq_true ⟨e, (m5 i e s hi).mp z⟩, nI_1]
        rfl
    · rw [if_neg e]
      refine ⟨fun _ => step _ ?_, fun z => absurd rfl z⟩
      rw [fb_ct_succ, decide_eq_false (fun y => e y.1)]
      exact Int32.add_zero _
/-- a set of shapes, bit by bit -/
def setOf (P : Nat → Bool) (n : Nat) (x : Int64) : Prop := ∀ j, j < 64 → bL x j = (decide (j < n) && P j)
theorem setOf_step {P : Nat → Bool} {i : Nat} {x : Int64} (hi : i < 64) (h : setOf P i x) : setOf P (i + 1) (x ||| (if P i then mkL i else 0)) := fun j hj => by
  rw [bL_or, h j hj]
  by_cases e : j = i
  · subst e
    cases ep : P j with
    | true => rw [if_pos rfl, bL_mk hi]; simp
    | false => simp [bL_0]
  · have : (decide (j < i + 1)) = decide (j < i) := decide_eq_decide.mpr (by omega)
    rw [this]
    cases ep : P i with
    | true => rw [if_pos rfl, bL_mk hi]; simp [e]
    | false => simp [bL_0]
theorem w_there {n : Nat} {post : Int64 → FO → Prop} (hn : fI o 10 = nI n) (n40 : n ≤ 40) (h20 : ∀ k, k < 40 → fA o 20 k = if k ∈ aO A then 1 else 0)
    (h : ∀ x, setOf (fun k => decide (k ∈ aO A)) n x → post x (sI o 0 0)) : wp_X8_there o post := by
  rintro _ rfl
  have hn' : fI (sI o 0 0) 10 = nI n := hn
  refine lq1 (fun n' i x => wp_X8_there_9 post n' x i (sI o 0 0)) (fun i x => setOf (fun k => decide (k ∈ aO A)) i x) n (by omega) ?_ ?_ 0 0 (by omega) (fun j hj => by rw [bL_0]; simp)
  · intro n' x hx
    exact ⟨fun _ => h x hx, fun z => absurd (by rw [hn']; exact Int32.le_refl _) z⟩
  · intro n' i x hi hx kk
    refine ⟨fun z => absurd z (by rw [hn']; exact nI_ge hi (by omega)), fun _ => ⟨vp_in_nI (by omega) (by decide), ?_⟩⟩
    rw [qn_cl (by omega)]
    have e20 : fA (sI o 0 0) 20 i = if i ∈ aO A then 1 else 0 := h20 i (by omega)
    rw [e20]
    have st := setOf_step (i := i) (by omega) hx
    by_cases e : i ∈ aO A
    · rw [if_pos e]
      simp only [e, decide_true, if_true] at st
      exact ⟨fun z => absurd z (by decide), fun _ => kk _ st⟩
    · rw [if_neg e]
      simp only [e, decide_false, Bool.false_eq_true, if_false] at st
      exact ⟨fun _ => kk _ st, fun z => absurd rfl z⟩
theorem w_groupSet {s n : Nat} {post : Int64 → FO → Prop} (hn : fI o 10 = nI n) (n40 : n ≤ 40) (ht : fI o 0 = 0) (hM : MR (fI o 18) (fA o 19) (fA o 20) (fA o 21) (fA o 22) (fA o 23) (fA o 24) A) (hs : s < n)
    (h1 : s ∈ aO A → ∀ x, setOf (fun k => decide (k ∈ aO A ∧ aL A k = aL A s)) n x → post x o) (h0 : s ∉ aO A → post 0 o) : wp_X8_group_22 (nI s) post 1000 0 0 o := by
  obtain ⟨m1, m2, m3, m4, m5⟩ := hM
  by_cases hi : s ∈ aO A
  · refine lq1 (fun n' i x => wp_X8_group_22 (nI s) post n' x i o) (fun i x => setOf (fun k => decide (k ∈ aO A ∧ aL A k = aL A s)) i x) n (by omega) ?_ ?_ 0 0 (by omega) (fun j hj => by rw [bL_0]; simp)
    · intro n' x hx
      exact ⟨fun _ => h1 hi x hx, fun z => absurd (by rw [hn]; exact Int32.le_refl _) z⟩
    · intro n' i x hi2 hx kk
      have hin : vp_in (nI i) 40 := vp_in_nI (by omega) (by decide)
      have hin2 : vp_in (nI s) 40 := vp_in_nI (by omega) (by decide)
      refine ⟨fun z => absurd z (by rw [hn]; exact nI_ge hi2 (by omega)), fun _ => ⟨fun z => absurd ht z, fun _ => ⟨hin2, ?_⟩⟩⟩
      rw [qn_cl (by omega), m3 s (by omega), if_pos hi, qn_cl (by omega), m3 i (by omega)]
      refine ⟨fun z => absurd z (by decide), fun _ => ⟨hin, ?_⟩⟩
      have st := setOf_step (i := i) (by omega) hx
      by_cases e : i ∈ aO A
      · rw [if_pos e]
        refine ⟨fun z => absurd z (by decide), fun _ => ⟨hin, hin2, fun z => kk _ ?_, fun z => kk _ ?_⟩⟩
        · have : ¬ (i ∈ aO A ∧ aL A i = aL A s) := fun y => z ((m5 i e s hi).mpr y.2)
          simp only [this, decide_false, Bool.false_eq_true, if_false] at st
          exact st
        · have : (i ∈ aO A ∧ aL A i = aL A s) := ⟨e, (m5 i e s hi).mp z⟩
          simp only [this, and_self, decide_true, if_true] at st
          exact st
      · rw [if_neg e]
        refine ⟨fun _ => kk _ ?_, fun z => absurd rfl z⟩
        have : ¬ (i ∈ aO A ∧ aL A i = aL A s) := fun y => e y.1
        simp only [this, decide_false, Bool.false_eq_true, if_false] at st
        exact st
  · refine ⟨fun z => absurd z (by rw [hn]; exact nI_ge (a := 0) (by omega) (by omega)), fun _ => ⟨fun z => absurd ht z, fun _ => ⟨vp_in_nI (by omega) (by decide), ?_⟩⟩⟩
    rw [qn_cl (by omega), m3 s (by omega), if_neg hi]
    exact ⟨fun _ => h0 hi, fun z => absurd rfl z⟩
theorem w_aboveAt {s : Nat} {post : Int32 → FO → Prop} (ht : fI o 0 = 0) (hM : MR (fI o 18) (fA o 19) (fA o 20) (fA o 21) (fA o 22) (fA o 23) (fA o 24) A) (hO : ∀ k, k ∈ aO A → k < 40) (hnd : (aO A).Nodup) (hs : s < 40)
    (h1 : ∀ i, i < (aO A).length → (aO A).getD i 0 = s → post (nI i) o) (h0 : s ∉ aO A → post (-1) o) : wp_X8_above_21 (nI s) post 1000 (-1) 0 o := by
  obtain ⟨m1, m2, m3, m4, m5⟩ := hM
  have hlen : (aO A).length ≤ 40 := nd_len hnd hO
  refine lq1 (fun n' i x => wp_X8_above_21 (nI s) post n' x i o) (fun i x => (x = -1 ∧ ∀ j, j < i → (aO A).getD j 0 ≠ s) ∨ ∃ j, j < i ∧ (aO A).getD j 0 = s ∧ x = nI j) (aO A).length (by omega) ?_ ?_ 0 (-1) (by omega) (Or.inl ⟨rfl, fun j hj => by omega⟩)
  · intro n' x hx
    refine ⟨fun _ => ?_, fun z => absurd (by rw [m1]; exact Int32.le_refl _) z⟩
    rcases hx with ⟨rfl, h⟩ | ⟨j, hj, e, rfl⟩
    · refine h0 fun z => ?_
      obtain ⟨j, hj, e⟩ := List.mem_iff_getElem.mp z
      exact h j hj (by rw [gD_get hj]; exact e)
    · exact h1 j hj e
  · intro n' i x hi hx kk
    refine ⟨fun z => absurd z (by rw [m1]; exact nI_ge hi (by omega)), fun _ => ⟨fun z => absurd ht z, fun _ => ⟨vp_in_nI (by omega) (by decide), ?_⟩⟩⟩
    rw [qn_cl (by omega), m2 i hi]
    have hg := hO _ (gD_mem hi)
    refine pk_eq ((aO A).getD i 0) s (fun z => kk _ (Or.inr ⟨i, by omega, z, rfl⟩)) (fun z => kk _ ?_) |> fun y => ⟨y.2, y.1⟩
    rcases hx with ⟨rfl, h⟩ | ⟨j, hj, e⟩
    · exact Or.inl ⟨rfl, fun j hj => by
        by_cases ej : j = i
        · subst ej; exact z
        · exact h j (by omega)⟩
    · exact Or.inr ⟨j, by omega, e⟩
/-- the place of a shape in the order is how many lie below it -/
theorem below_ct {i : Nat} {f : Nat → Int32} (hf : (aO A).Pairwise (fun j k => f j < f k)) (hnd : (aO A).Nodup) (hO : ∀ k, k ∈ aO A → k < 40) (hi : i < (aO A).length) :
    fb_ct (fun k => decide (k ∈ aO A ∧ f k < f ((aO A).getD i 0))) 40 = i := by
  have h1 : fb_ct (fun k => decide (k ∈ aO A ∧ f k < f ((aO A).getD i 0))) 40 = fb_ct (fun k => decide (k ∈ (aO A).take i)) 40 := fb_ct_cong fun k _ => by
    refine decide_eq_decide.mpr ?_
    rw [gD_get hi]
    constructor
    · rintro ⟨hk, hlt⟩
      obtain ⟨j, hj, e⟩ := List.mem_iff_getElem.mp hk
      subst e
      by_cases c : j < i
      · rw [List.mem_take_iff_getElem]
        exact ⟨j, by omega, rfl⟩
      · by_cases c2 : j = i
        · subst c2; exact absurd hlt (Int32.lt_irrefl)
        · have := List.pairwise_iff_getElem.mp hf i j hi hj (by omega)
          rw [q_lt] at this hlt; omega
    · intro hk
      obtain ⟨j, hj, e⟩ := List.mem_take_iff_getElem.mp hk
      subst e
      exact ⟨List.getElem_mem _, List.pairwise_iff_getElem.mp hf j i (by omega) hi (by omega)⟩
  rw [h1, fb_ct_list ((List.take_sublist i (aO A)).nodup hnd) fun k hk => hO k (List.mem_of_mem_take hk), List.length_take]
  omega
theorem q_ix (a e i : Nat) : nI a * nI e + nI i = nI (a * e + i) := by rw [pk_mul, nI_add]
theorem q_ix40 (e i : Nat) : (40 : Int32) * nI e + nI i = nI (40 * e + i) := q_ix 40 e i
theorem q_ix200 (e i : Nat) : (200 : Int32) * nI e + nI i = nI (200 * e + i) := q_ix 200 e i
theorem q_ix6 (e i : Nat) : (6 : Int32) * nI e + nI i = nI (6 * e + i) := q_ix 6 e i
theorem q_ix20 (e i : Nat) : (20 : Int32) * nI e + nI i = nI (20 * e + i) := q_ix 20 e i
/-- the rows of a kept view -/
def MK (o : FO) (e : Nat) (E : AB) : Prop := fA o 37 e = nI (aO E).length ∧ ∀ i, i < (aO E).length → fA o 38 (40 * e + i) = nI ((aO E).getD i 0) ∧ fA o 39 (40 * e + i) = aC E ((aO E).getD i 0) ∧ fA o 40 (40 * e + i) = aR E ((aO E).getD i 0) ∧ fA o 41 (40 * e + i) = aK E ((aO E).getD i 0)
theorem w_viewedAt {e c r : Nat} {E : AB} {post : Int32 → Prop} (he : e < 8) (hK : MK o e E) (hb : ABb E (fA o 12) (fA o 13)) (hnd : (aO E).Nodup) (hD : ∀ k, k < 40 → (fA o 17 k = 0 ↔ D k = false)) (hc : c < 10000) (hr : r < 10000)
    (h0 : topO (visS D E (fA o 12) (fA o 13) (nI c) (nI r)) (aO E) = none → post (-1))
    (h1 : ∀ i, i < (aO E).length → topO (visS D E (fA o 12) (fA o 13) (nI c) (nI r)) (aO E) = some ((aO E).getD i 0) → post (nI (40 * e + i))) : wp_X8_viewedAt (nI e) (nI c) (nI r) o post := by
  obtain ⟨k1, k2⟩ := hK
  have hlen : (aO E).length ≤ 40 := nd_len hnd fun k hk => (hb k hk).1
  have hin : vp_in (nI e) 8 := vp_in_nI he (by decide)
  refine lq1 (fun n i x => wp_X8_viewedAt_6 (nI e) (nI c) (nI r) o post n x i) (fun i x => (x = -1 ∧ topO (visS D E (fA o 12) (fA o 13) (nI c) (nI r)) ((aO E).take i) = none) ∨ ∃ j, j < i ∧ x = nI (40 * e + j) ∧ topO (visS D E (fA o 12) (fA o 13) (nI c) (nI r)) ((aO E).take i) = some ((aO E).getD j 0)) (aO E).length (by omega) ?_ ?_ 0 (-1) (by omega) (Or.inl ⟨rfl, rfl⟩)
  · intro n x hx
    refine ⟨hin, ?_⟩
    rw [qn_cl (by omega), k1]
    refine ⟨fun _ => ?_, fun z => absurd (Int32.le_refl _) z⟩
    rw [List.take_length] at hx
    rcases hx with ⟨rfl, h⟩ | ⟨j, hj, rfl, h⟩
    · exact h0 h
    · exact h1 j hj h
  · intro n i x hi hx kk
    refine ⟨hin, ?_⟩
    rw [qn_cl (by omega), k1]
    have hg := gD_mem hi
    have hs := (hb _ hg).1
    obtain ⟨a38, a39, a40, -⟩ := k2 i hi
    have hix : vp_in (nI (40 * e + i)) 320 := vp_in_nI (by omega) (by decide)
    have hsx : vp_in (nI ((aO E).getD i 0)) 40 := vp_in_nI hs (by decide)
    have tk : ((aO E).take (i + 1)) = (aO E).take i ++ [(aO E).getD i 0] := take_snoc hi
    refine ⟨fun z => absurd z (nI_ge hi (by omega)), fun _ => ?_⟩
    rw [q_ix40, qn_cl (by omega), a38, qn_cl (by omega), a39, a40]
    refine ⟨hix, hix, hix, hsx, ?_⟩
    obtain ⟨s40, ⟨w, w1, w2, ew⟩, ⟨t, t1, t2, et⟩, hC, hR⟩ := hb _ hg
    have ew' : (fA o 12 ((aO E).getD i 0)).toInt = w := by rw [ew, q_nI (by omega)]
    have et' : (fA o 13 ((aO E).getD i 0)).toInt = t := by rw [et, q_nI (by omega)]
    have one : (1 : Int32).toInt = 1 := rfl
    have a1 : (aC E ((aO E).getD i 0) + fA o 12 ((aO E).getD i 0)).toInt = (aC E ((aO E).getD i 0)).toInt + (fA o 12 ((aO E).getD i 0)).toInt := q_addI (by omega) (by omega)
    have a2 : (aR E ((aO E).getD i 0) + fA o 13 ((aO E).getD i 0)).toInt = (aR E ((aO E).getD i 0)).toInt + (fA o 13 ((aO E).getD i 0)).toInt := q_addI (by omega) (by omega)
    have b1 : (aC E ((aO E).getD i 0) + fA o 12 ((aO E).getD i 0) - 1).toInt = (aC E ((aO E).getD i 0)).toInt + (fA o 12 ((aO E).getD i 0)).toInt - 1 := by rw [q_subI (by omega) (by omega)]; omega
    have b2 : (aR E ((aO E).getD i 0) + fA o 13 ((aO E).getD i 0) - 1).toInt = (aR E ((aO E).getD i 0)).toInt + (fA o 13 ((aO E).getD i 0)).toInt - 1 := by rw [q_subI (by omega) (by omega)]; omega
    have ec : (nI c).toInt = c := q_nI (by omega)
    have er : (nI r).toInt = r := q_nI (by omega)
    have hcv := q_covs hb hg hc hr
    have skip : visS D E (fA o 12) (fA o 13) (nI c) (nI r) ((aO E).getD i 0) = false → wp_X8_viewedAt_6 (nI e) (nI c) (nI r) o post n x (nI i + 1) := fun hv => by
      refine kk x ?_
      rw [tk, topO_snoc, hv]
      rcases hx with h | ⟨j, hj, h⟩
      · exact Or.inl h
      · exact Or.inr ⟨j, by omega, h⟩
    refine w_isIn (fun z y => ⟨fun x => absurd x (by decide), fun _ => ⟨hix, hix, hsx, w_isIn (fun z2 y2 => ⟨fun x => absurd x (by decide), fun _ => ⟨fun x => absurd x (by decide), fun _ => ⟨hsx, ?_⟩⟩⟩) (fun z2 => ⟨fun _ => ⟨fun _ => skip ?_, fun x => absurd rfl x⟩, fun x => absurd rfl x⟩)⟩⟩) (fun z => ⟨fun _ => ⟨fun _ => skip ?_, fun x => absurd rfl x⟩, fun x => absurd rfl x⟩)
    · rw [qn_cl (by omega)]
      rw [q_lt] at z y z2 y2
      have cv : covs E (fA o 12) (fA o 13) (nI c) (nI r) ((aO E).getD i 0) = true := by rw [hcv]; exact decide_eq_true (by omega)
      refine ⟨fun zd => skip ?_, fun zd => kk _ (Or.inr ⟨i, by omega, rfl, ?_⟩)⟩
      · have : D ((aO E).getD i 0) = true := by
          cases ed : D ((aO E).getD i 0) with
          | true => rfl
          | false => exact absurd ((hD _ hs).mpr ed) zd
        exact vis_D this
      · rw [tk, topO_snoc, if_pos]
        exact vis_T ((hD _ hs).mp zd) cv
    · rw [q_lt, q_lt] at z2
      rw [q_lt] at z y
      have cv : covs E (fA o 12) (fA o 13) (nI c) (nI r) ((aO E).getD i 0) = false := by rw [hcv]; exact decide_eq_false (by omega)
      exact vis_C cv
    · rw [q_lt, q_lt] at z
      have cv : covs E (fA o 12) (fA o 13) (nI c) (nI r) ((aO E).getD i 0) = false := by rw [hcv]; exact decide_eq_false (by omega)
      exact vis_C cv
/-- whether a shape is seen in a kept view -/
def seenIn (D : Nat → Bool) (E : AB) (W H : Nat → Int32) (c0 r0 w h s : Nat) : Prop := ∃ i, i < w * h ∧ cellT D E W H c0 r0 w i = some s
theorem w_isViewed {e c0 r0 w h s : Nat} {E : AB} {post : Int32 → Prop} (he : e < 8) (hK : MK o e E) (hb : ABb E (fA o 12) (fA o 13)) (hnd : (aO E).Nodup) (hD : ∀ k, k < 40 → (fA o 17 k = 0 ↔ D k = false))
    (e27 : fA o 27 e = nI c0) (e28 : fA o 28 e = nI r0) (e29 : fA o 29 e = nI w) (e30 : fA o 30 e = nI h) (hw : 1 ≤ w) (hcw : c0 + w ≤ 24) (hrh : r0 + h ≤ 16) (hs : s < 40)
    (k1 : seenIn D E (fA o 12) (fA o 13) c0 r0 w h s → post 1) (k0 : ¬ seenIn D E (fA o 12) (fA o 13) c0 r0 w h s → post 0) : wp_X8_isViewed (nI e) (nI s) o post := by
  have har : w * h ≤ 384 := q_area hcw hrh
  have hin : vp_in (nI e) 8 := vp_in_nI he (by decide)
  refine lq1 (fun n i x => wp_X8_isViewed_5 (nI e) (nI s) o post n x i) (fun i x => (x = 0 ∧ ∀ j, j < i → ¬ cellT D E (fA o 12) (fA o 13) c0 r0 w j = some s) ∨ (x = 1 ∧ ∃ j, j < i ∧ cellT D E (fA o 12) (fA o 13) c0 r0 w j = some s)) (w * h) (by omega) ?_ ?_ 0 0 (by omega) (Or.inl ⟨rfl, fun j hj => by omega⟩)
  · intro n x hx
    refine ⟨hin, hin, ?_⟩
    rw [qn_cl (by omega), e29, e30, pk_mul]
    refine ⟨fun _ => ?_, fun z => absurd (Int32.le_refl _) z⟩
    rcases hx with ⟨rfl, h⟩ | ⟨rfl, h⟩
    · exact ⟨rfl, k0 fun ⟨j, hj, z⟩ => h j hj z⟩
    · exact ⟨rfl, k1 h⟩
  · intro n i x hi hx kk
    refine ⟨hin, hin, ?_⟩
    rw [qn_cl (by omega), e29, e30, pk_mul]
    refine ⟨fun z => absurd z (nI_ge hi (by omega)), fun _ => ⟨hin, hin, nI_ne0 (by omega) (by omega), hin, hin, nI_ne0 (by omega) (by omega), ?_⟩⟩
    rw [e27, e28, pk_rem (by omega) (by omega) (by omega), pk_div (by omega) (by omega) (by omega), nI_add, nI_add]
    have hm : i % w < w := Nat.mod_lt _ (by omega)
    have hd : i / w < h := by
      rw [Nat.div_lt_iff_lt_mul (by omega), Nat.mul_comm]; exact hi
    have set1 : cellT D E (fA o 12) (fA o 13) c0 r0 w i = some s → wp_X8_isViewed_5 (nI e) (nI s) o post n 1 (nI i + 1) := fun hc => kk 1 (Or.inr ⟨rfl, i, by omega, hc⟩)
    have keep1 : x = 1 → wp_X8_isViewed_5 (nI e) (nI s) o post n 1 (nI i + 1) := fun z => kk 1 (by
      rcases hx with h | ⟨-, j, hj, h⟩
      · rw [z] at h; exact absurd h.1 (by decide)
      · exact Or.inr ⟨rfl, j, by omega, h⟩)
    have keep0 : x = 0 → ¬ cellT D E (fA o 12) (fA o 13) c0 r0 w i = some s → wp_X8_isViewed_5 (nI e) (nI s) o post n 0 (nI i + 1) := fun z hc => kk 0 (by
      rcases hx with h | h
      · exact Or.inl ⟨rfl, fun j hj => by
          by_cases ej : j = i
          · subst ej; exact hc
          · exact h.2 j (by omega)⟩
      · rw [z] at h; exact absurd h.1 (by decide))
    have hx01 : ¬ x = 0 → x = 1 := fun z => by
      rcases hx with h | h
      · exact absurd h.1 z
      · exact h.1
    refine w_viewedAt he hK hb hnd hD (by omega) (by omega) (fun hn => ?_) (fun j hj hsm => ?_)
    · refine ⟨fun z => keep1 (hx01 z), fun z => ⟨fun _ => keep0 z ?_, fun y => absurd rfl y⟩⟩
      unfold cellT
      rw [hn]; simp
    · have hg := gD_mem hj
      have hs2 := (hb _ hg).1
      have hlen : (aO E).length ≤ 40 := nd_len hnd fun k hk => (hb k hk).1
      have hne : ¬ nI (40 * e + j) = -1 := fun y => by
        have := congrArg Int32.toInt y
        rw [q_nI (by omega), q_m1] at this
        omega
      refine ⟨fun z => keep1 (hx01 z), fun z => ⟨fun y => absurd y hne, fun _ => ⟨fun _ => ⟨vp_in_nI (by omega) (by decide), ?_⟩, fun y => absurd y hne⟩⟩⟩
      rw [qn_cl (by omega), (hK.2 j hj).1]
      refine pk_eq ((aO E).getD j 0) s (fun y => ?_) (fun y => ?_) |> fun y => ⟨y.2, y.1⟩
      · refine set1 ?_
        unfold cellT
        rw [hsm, y]
      · refine keep0 z ?_
        unfold cellT
        rw [hsm]
        intro q
        cases q
        exact y rfl
theorem w_isEmpty {c0 r0 w h : Nat} {post : Int32 → Prop} (hM : MR (fI o 18) (fA o 19) (fA o 20) (fA o 21) (fA o 22) (fA o 23) (fA o 24) A) (hb : ABb A (fA o 12) (fA o 13)) (hnd : (aO A).Nodup) (hD : ∀ k, k < 40 → (fA o 17 k = 0 ↔ D k = false)) (hw : 1 ≤ w) (hcw : c0 + w ≤ 24) (hrh : r0 + h ≤ 16)
    (k1 : (∀ i, i < w * h → cellT D A (fA o 12) (fA o 13) c0 r0 w i = none) → post 1) (k0 : (∃ i, i < w * h ∧ cellT D A (fA o 12) (fA o 13) c0 r0 w i ≠ none) → post 0) : wp_X8_isEmpty (nI c0) (nI r0) (nI w) (nI h) o post := by
  have har : w * h ≤ 384 := q_area hcw hrh
  refine lq1 (fun n i x => wp_X8_isEmpty_6 (nI c0) (nI r0) (nI w) (nI h) o post n x i) (fun i x => (x = 1 ∧ ∀ j, j < i → cellT D A (fA o 12) (fA o 13) c0 r0 w j = none) ∨ (x = 0 ∧ ∃ j, j < i ∧ cellT D A (fA o 12) (fA o 13) c0 r0 w j ≠ none)) (w * h) (by omega) ?_ ?_ 0 1 (by omega) (Or.inl ⟨rfl, fun j hj => by omega⟩)
  · intro n x hx
    unfold wp_X8_isEmpty_6
    rw [pk_mul]
    refine ⟨fun _ => ?_, fun z => absurd (Int32.le_refl _) z⟩
    rcases hx with ⟨rfl, h⟩ | ⟨rfl, h⟩
    · exact ⟨rfl, k1 h⟩
    · exact ⟨rfl, k0 h⟩
  · intro n i x hi hx kk
    unfold wp_X8_isEmpty_6
    rw [pk_mul]
    refine ⟨fun z => absurd z (nI_ge hi (by omega)), fun _ => ?_⟩
    rcases hx with ⟨rfl, hx⟩ | ⟨rfl, j, hj, hx⟩
    · refine ⟨fun z => absurd z (by decide), fun _ => ⟨nI_ne0 (by omega) (by omega), nI_ne0 (by omega) (by omega), ?_⟩⟩
      rw [pk_rem (by omega) (by omega) (by omega), pk_div (by omega) (by omega) (by omega), nI_add, nI_add]
      have hm : i % w < w := Nat.mod_lt _ (by omega)
      have hd : i / w < h := by
        rw [Nat.div_lt_iff_lt_mul (by omega), Nat.mul_comm]; exact hi
      refine w_seenAt hM hb hnd hD (by omega) (by omega) ?_
      cases e : topO (visS D A (fA o 12) (fA o 13) (nI (c0 + i % w)) (nI (r0 + i / w))) (aO A) with
      | none =>
        refine ⟨fun z => absurd rfl z, fun _ => kk 1 (Or.inl ⟨rfl, fun j hj => ?_⟩)⟩
        by_cases ej : j = i
        · subst ej; exact e
        · exact hx j (by omega)
      | some s =>
        have hs := (hb _ (topO_mem e).1).1
        have hne : ¬ nI s = -1 := fun y => by
          have := congrArg Int32.toInt y
          rw [q_nI (by omega), q_m1] at this
          omega
        refine ⟨fun _ => kk 0 (Or.inr ⟨rfl, i, by omega, ?_⟩), fun z => absurd z hne⟩
        unfold cellT
        rw [e]; simp
    · exact ⟨fun _ => kk 0 (Or.inr ⟨rfl, j, by omega, hx⟩), fun z => absurd rfl z⟩
end RD
end
