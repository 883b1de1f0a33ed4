section
/-! pure layer I: the reference does acts -/
/-- a row holds a list of numbers -/
def LR (f : Nat → Int32) (l : List Nat) : Prop := ∀ i, i < l.length → f i = nI (l.getD i 0)
def MR (q : Int32) (f19 f20 f21 f22 f23 f24 : Nat → Int32) (A : AB) : Prop :=
  q = nI (aO A).length ∧ LR f19 (aO A) ∧ (∀ k, k < 40 → f20 k = if k ∈ aO A then 1 else 0) ∧ (∀ k, k ∈ aO A → f21 k = aC A k ∧ f22 k = aR A k ∧ f23 k = aK A k) ∧
  ∀ j, j ∈ aO A → ∀ k, k ∈ aO A → (f24 j = f24 k ↔ aL A j = aL A k)
theorem gD_get {l : List Nat} {i : Nat} (h : i < l.length) : l.getD i 0 = l[i] := by
  rw [List.getD_eq_getElem?_getD, List.getElem?_eq_getElem h]; rfl
theorem gD_app {l r : List Nat} {i : Nat} (h : i < l.length) : (l ++ r).getD i 0 = l.getD i 0 := by
  rw [List.getD_eq_getElem?_getD, List.getD_eq_getElem?_getD, List.getElem?_append_left h]
theorem gD_last {l : List Nat} {s : Nat} : (l ++ [s]).getD l.length 0 = s := by
  rw [List.getD_eq_getElem?_getD, List.getElem?_append_right (Nat.le_refl _), Nat.sub_self]; rfl
theorem LR_snoc {f : Nat → Int32} {l : List Nat} {s : Nat} (h : LR f l) : LR (va_up f l.length (nI s)) (l ++ [s]) := fun i hi => by
  rw [List.length_append] at hi
  have hi : i < l.length + 1 := hi
  rw [qs_up]
  by_cases e : i = l.length
  · subst e
    rw [if_pos rfl, gD_last]
  · rw [if_neg e, gD_app (by omega)]
    exact h i (by omega)
theorem take_snoc {l : List Nat} {i : Nat} (h : i < l.length) : l.take (i + 1) = l.take i ++ [l.getD i 0] := by
  rw [List.take_succ_eq_append_getElem h, gD_get h]
theorem lrm_snoc (l : List Nat) (k s : Nat) : lrm (l ++ [k]) s = if k = s then lrm l s else lrm l s ++ [k] := by
  unfold lrm
  rw [List.filter_append]
  by_cases e : k = s
  · subst e; simp
  · simp [e]
section MB
variable {o : FO} {q : Int32} {f19 f20 f21 f22 f23 f24 : Nat → Int32} {A : AB}
theorem w_takeOut {l : List Nat} {s : Nat} {post : FO → Prop} (hl : LR f19 l) (h40 : l.length ≤ 40) (hq : q = nI l.length) (hs : ∀ k, k ∈ l → k < 40) (s40 : s < 40)
    (K : ∀ f, LR f (lrm l s) → post (brd o (nI (lrm l s).length) f f20 f21 f22 f23 f24)) : wp_X8_takeOut (nI s) (brd o q f19 f20 f21 f22 f23 f24) post := by
  have key := lq2 (fun n i (x : Int32) (y : FO) => wp_X8_takeOut_4 (nI s) post n x i y) (fun i x y => x = nI (lrm (l.take i) s).length ∧ ∃ f, y = brd o q f f20 f21 f22 f23 f24 ∧ LR f (lrm (l.take i) s) ∧ ∀ j, i ≤ j → f j = f19 j) l.length (by omega) ?_ ?_ 0 0 (brd o q f19 f20 f21 f22 f23 f24) (by omega) ⟨rfl, f19, rfl, fun i hi => (by cases hi), fun j _ => rfl⟩
  · exact key
  · rintro n x y ⟨rfl, f, rfl, h1, -⟩
    have e : fI (brd o q f f20 f21 f22 f23 f24) 18 = nI l.length := hq
    refine ⟨fun _ => ?_, fun z => absurd (show fI (brd o q f f20 f21 f22 f23 f24) 18 ≤ nI l.length by rw [e]; exact Int32.le_refl _) z⟩
    rintro _ rfl
    rw [List.take_length] at h1 ⊢
    rw [brd_18]
    exact K f h1
  · rintro n i x y hi ⟨rfl, f, rfl, h1, h2⟩ kk
    have e : fI (brd o q f f20 f21 f22 f23 f24) 18 = nI l.length := hq
    have hle : (lrm (l.take i) s).length ≤ i := Nat.le_trans (lrm_le _ _) (by rw [List.length_take]; omega)
    have hgi : l.getD i 0 ∈ l := by rw [gD_get hi]; exact List.getElem_mem hi
    have hfi : f i = nI (l.getD i 0) := by rw [h2 i (Nat.le_refl _)]; exact hl i hi
    refine ⟨fun z => absurd z (by rw [e]; exact nI_ge hi (by omega)), fun _ => ⟨vp_in_nI (by omega) (by decide), vp_in_nI (by omega) (by decide), ?_⟩⟩
    rw [qn_cl (by omega), qn_cl (by omega), brd_19]
    rintro _ rfl
    refine ⟨vp_in_nI (by omega) (by decide), ?_⟩
    have e2 : fA (brd o q (va_up f (lrm (l.take i) s).length (fA (brd o q f f20 f21 f22 f23 f24) 19 i)) f20 f21 f22 f23 f24) 19 i = nI (l.getD i 0) := by
      show va_up f (lrm (l.take i) s).length (f i) i = _
      rw [qs_up]
      split
      · exact hfi
      · exact hfi
    rw [e2]
    have e3 : fA (brd o q f f20 f21 f22 f23 f24) 19 i = nI (l.getD i 0) := hfi
    rw [e3]
    refine pk_eq (l.getD i 0) s (fun z => ?_) (fun z => ?_) rfl rfl (by have := hs _ hgi; omega) (by omega) |> fun y => ⟨y.2, y.1⟩
    · refine kk _ _ ⟨?_, _, rfl, fun j hj => ?_, fun j hj => ?_⟩
      · rw [take_snoc hi, lrm_snoc, if_pos z]
        exact Int32.add_zero _
      · rw [take_snoc hi, lrm_snoc, if_pos z] at hj ⊢
        rw [qs_up, if_neg (by omega)]
        exact h1 j hj
      · rw [qs_up, if_neg (by omega)]
        exact h2 j (by omega)
    · refine kk _ _ ⟨?_, _, rfl, ?_, fun j hj => ?_⟩
      · rw [take_snoc hi, lrm_snoc, if_neg z, List.length_append, nI_1]
        rfl
      · rw [take_snoc hi, lrm_snoc, if_neg z]
        exact LR_snoc h1
      · rw [qs_up, if_neg (by omega)]
        exact h2 j (by omega)
theorem w_putUp {l : List Nat} {s : Nat} {post : FO → Prop} (h40 : l.length < 40) (hq : q = nI l.length)
    (K : post (brd o (nI (l.length + 1)) (va_up f19 l.length (nI s)) f20 f21 f22 f23 f24)) : wp_X8_putIn (nI s) 1 (brd o q f19 f20 f21 f22 f23 f24) post := by
  have e : fI (brd o q f19 f20 f21 f22 f23 f24) 18 = nI l.length := hq
  have fin : wp_X8_putIn_33 (nI s) 1 post (brd o q f19 f20 f21 f22 f23 f24) := by
    refine ⟨fun z => absurd z (by decide), fun _ => ?_⟩
    rw [e]
    refine ⟨vp_in_nI h40 (by decide), ?_⟩
    rw [qn_cl (by omega), brd_19]
    rintro _ rfl _ rfl
    have e2 : fI (brd o q (va_up f19 l.length (nI s)) f20 f21 f22 f23 f24) 18 = nI l.length := hq
    rw [e2, nI_1, brd_18]
    exact K
  exact ⟨fun _ => fin, fun _ => ⟨fun _ => fin, fun z => absurd z (by decide)⟩⟩
theorem w_putDown {l : List Nat} {s : Nat} {post : FO → Prop} (hl : LR f19 l) (h40 : l.length < 40) (hq : q = nI l.length)
    (K : ∀ f, LR f (s :: l) → post (brd o (nI (l.length + 1)) f f20 f21 f22 f23 f24)) : wp_X8_putIn (nI s) 0 (brd o q f19 f20 f21 f22 f23 f24) post := by
  have e : ∀ f, fI (brd o q f f20 f21 f22 f23 f24) 18 = nI l.length := fun f => hq
  have key : ∀ i n f, i ≤ l.length → i < n → (∀ j, j < i → f j = f19 j) → (∀ j, i ≤ j → j < l.length → f (j + 1) = f19 j) → wp_X8_putIn_5 (nI s) 0 post n (nI i) (brd o q f f20 f21 f22 f23 f24) := by
    intro i
    induction i with
    | zero =>
      intro n f hi hn h1 h2
      obtain ⟨n, rfl⟩ : ∃ n', n = n' + 1 := ⟨n - 1, by omega⟩
      refine ⟨fun _ => ⟨fun _ => ?_, fun z => absurd rfl z⟩, fun z => absurd (Int32.le_refl _) z⟩
      refine ⟨vp_in_nI (n := 0) (by decide) (by decide), ?_⟩
      rintro _ rfl
      have : (0 : Int32).toNatClampNeg = 0 := rfl
      rw [this, brd_19]
      rintro _ rfl
      rw [e, nI_1, brd_18]
      refine K _ fun j hj => ?_
      have hj : j < l.length + 1 := hj
      rw [qs_up]
      cases j with
      | zero => rfl
      | succ j =>
        rw [if_neg (by omega), h2 j (by omega) (by omega)]
        exact hl j (by omega)
    | succ i ih =>
      intro n f hi hn h1 h2
      obtain ⟨n, rfl⟩ : ∃ n', n = n' + 1 := ⟨n - 1, by omega⟩
      refine ⟨fun z => absurd z (nI_nle (by omega) (by omega)), fun _ => ⟨fun z => absurd rfl z, fun _ => ?_⟩⟩
      rw [nI_pred]
      refine ⟨vp_in_nI (by omega) (by decide), vp_in_nI (by omega) (by decide), ?_⟩
      rw [qn_cl (by omega), qn_cl (by omega), brd_19, pk_m1]
      rintro _ rfl
      refine ih n _ (by omega) (by omega) (fun j hj => ?_) (fun j hj hj2 => ?_)
      · rw [qs_up, if_neg (by omega)]
        exact h1 j (by omega)
      · rw [qs_up]
        by_cases ej : j = i
        · subst ej
          rw [if_pos rfl]
          exact h1 j (by omega)
        · rw [if_neg (by omega)]
          exact h2 j (by omega) hj2
  unfold wp_X8_putIn
  rw [e]
  exact key l.length 1000 f19 (Nat.le_refl _) (by omega) (fun j _ => rfl) (fun j h1 h2 => by omega)
/-- a number of no group -/
theorem w_freeGroup {n : Nat} {post : Int32 → Prop} (hn : fI o 10 = nI n) (n40 : n ≤ 40) (K : ∀ v, (∀ k, k < n → ¬ f20 k = 0 → ¬ f24 k = v) → post v) : wp_X8_freeGroup (brd o q f19 f20 f21 f22 f23 f24) post := by
  have e10 : fI (brd o q f19 f20 f21 f22 f23 f24) 10 = nI n := hn
  have inner : ∀ (k4 : Int32 → Int32 → Prop) (v : Int32), ((∀ k, k < n → ¬ f20 k = 0 → ¬ f24 k = v) → k4 v 1) → ((∃ k, k < n ∧ ¬ f20 k = 0 ∧ f24 k = v) → k4 (v + 1) 0) → wp_X8_freeGroup_12 (brd o q f19 f20 f21 f22 f23 f24) post k4 1000 v 1 0 := by
    intro k4 v hfree hused
    have key := lq1 (fun n' i (x : Int32) => wp_X8_freeGroup_12 (brd o q f19 f20 f21 f22 f23 f24) post k4 n' v x i) (fun i x => (x = 1 ∧ ∀ k, k < i → ¬ f20 k = 0 → ¬ f24 k = v) ∨ (x = 0 ∧ ∃ k, k < i ∧ ¬ f20 k = 0 ∧ f24 k = v)) n (by omega) ?_ ?_ 0 1 (by omega) (Or.inl ⟨rfl, fun k hk => by omega⟩)
    · exact key
    · rintro n' x hI
      refine ⟨fun _ => ?_, fun z => absurd (show fI (brd o q f19 f20 f21 f22 f23 f24) 10 ≤ nI n by rw [e10]; exact Int32.le_refl _) z⟩
      rcases hI with ⟨rfl, h⟩ | ⟨rfl, h⟩
      · refine ⟨fun z => absurd z (by decide), fun _ => ?_⟩
        show k4 (v + 0) 1
        rw [Int32.add_zero]
        exact hfree h
      · exact ⟨fun _ => hused h, fun z => absurd rfl z⟩
    · rintro n' i x hi hI kk
      refine ⟨fun z => absurd z (by rw [e10]; exact nI_ge hi (by omega)), fun _ => ?_⟩
      rcases hI with ⟨rfl, h⟩ | ⟨rfl, k, hk, h⟩
      · refine ⟨fun z => absurd z (by decide), fun _ => ⟨vp_in_nI (by omega) (by decide), ?_⟩⟩
        rw [qn_cl (by omega)]
        have yes : (¬ f20 i = 0 → ¬ f24 i = v) → wp_X8_freeGroup_43 (brd o q f19 f20 f21 f22 f23 f24) post k4 (fun x1 x2 x3 => wp_X8_freeGroup_12 (brd o q f19 f20 f21 f22 f23 f24) post k4 n' x1 x2 x3) v (nI i) := fun hh =>
          kk 1 (Or.inl ⟨rfl, fun k hk => by
            by_cases ek : k = i
            · subst ek; exact hh
            · exact h k (by omega)⟩)
        refine ⟨fun z => yes fun z2 => absurd z z2, fun z => ⟨vp_in_nI (by omega) (by decide), fun z2 => ?_, fun z2 => yes fun _ => z2⟩⟩
        exact kk 0 (Or.inr ⟨rfl, i, by omega, z, z2⟩)
      · exact ⟨fun _ => kk 0 (Or.inr ⟨rfl, k, by omega, h⟩), fun z => absurd rfl z⟩
  have outer : ∀ d v n', n - v = d → v ≤ n → d + 2 ≤ n' → (∀ w, w < v → ∃ k, k < n ∧ ¬ f20 k = 0 ∧ f24 k = nI w) → wp_X8_freeGroup_4 (brd o q f19 f20 f21 f22 f23 f24) post n' (nI v) 0 := by
    intro d
    induction d with
    | zero =>
      intro v n' hd hv hn' hu
      obtain ⟨n', rfl⟩ : ∃ n'', n' = n'' + 2 := ⟨n' - 2, by omega⟩
      refine ⟨fun z => absurd rfl z, fun _ => inner _ _ (fun hf => ⟨fun _ => K _ hf, fun z => absurd z (by decide)⟩) (fun hu2 => ?_)⟩
      have all : ∀ w, ∃ k, w < n + 1 → k < n ∧ ¬ f20 k = 0 ∧ f24 k = nI w := fun w => by
        by_cases hw : w < v
        · obtain ⟨k, hk⟩ := hu w hw
          exact ⟨k, fun _ => hk⟩
        · by_cases hw2 : w = v
          · subst hw2
            obtain ⟨k, hk⟩ := hu2
            exact ⟨k, fun _ => hk⟩
          · exact ⟨0, fun h => by omega⟩
      obtain ⟨i, j, hij, hj, ef⟩ := fb_twice (m := n) (n := n + 1) (f := fun w => Classical.choose (all w)) (fun w hw => (Classical.choose_spec (all w) hw).1) (Nat.lt_succ_self n)
      have s1 := (Classical.choose_spec (all i) (by omega)).2.2
      have s2 := (Classical.choose_spec (all j) hj).2.2
      have ef : Classical.choose (all i) = Classical.choose (all j) := ef
      rw [ef, s2] at s1
      have := q_nIi s1 (by omega) (by omega)
      omega
    | succ d ih =>
      intro v n' hd hv hn' hu
      obtain ⟨n', rfl⟩ : ∃ n'', n' = n'' + 2 := ⟨n' - 2, by omega⟩
      refine ⟨fun z => absurd rfl z, fun _ => inner _ _ (fun hf => ⟨fun _ => K _ hf, fun z => absurd z (by decide)⟩) (fun hu2 => ?_)⟩
      rw [nI_1]
      refine ih (v + 1) (n' + 1) (by omega) (by omega) (by omega) fun w hw => ?_
      by_cases hw2 : w = v
      · subst hw2; exact hu2
      · exact hu w (by omega)
  exact outer n 0 1000 (by omega) (by omega) (by omega) fun w hw => by omega
theorem w_moves {n s : Nat} {dx dy : Int32} {post : FO → Prop} (hn : fI o 10 = nI n) (n40 : n ≤ 40) (s40 : s < 40)
    (K : ∀ g21 g22, (∀ k, k < n → g21 k = if ¬ f20 k = 0 ∧ f24 k = f24 s then f21 k + dx else f21 k) → (∀ k, k < n → g22 k = if ¬ f20 k = 0 ∧ f24 k = f24 s then f22 k + dy else f22 k) → post (brd o q f19 f20 g21 g22 f23 f24)) :
    wp_X8_moves (nI s) dx dy (brd o q f19 f20 f21 f22 f23 f24) post := by
  have key := lq1 (fun n' i (y : FO) => wp_X8_moves_3 (nI s) dx dy post n' i y) (fun i y => ∃ g21 g22, y = brd o q f19 f20 g21 g22 f23 f24 ∧ (∀ k, k < i → g21 k = if ¬ f20 k = 0 ∧ f24 k = f24 s then f21 k + dx else f21 k) ∧ (∀ k, i ≤ k → g21 k = f21 k) ∧ (∀ k, k < i → g22 k = if ¬ f20 k = 0 ∧ f24 k = f24 s then f22 k + dy else f22 k) ∧ ∀ k, i ≤ k → g22 k = f22 k) n (by omega) ?_ ?_ 0 (brd o q f19 f20 f21 f22 f23 f24) (by omega) ⟨f21, f22, rfl, fun k hk => by omega, fun k _ => rfl, fun k hk => by omega, fun k _ => rfl⟩
  · exact key
  · rintro n' y ⟨g21, g22, rfl, h1, -, h3, -⟩
    have e10 : fI (brd o q f19 f20 g21 g22 f23 f24) 10 = nI n := hn
    exact ⟨fun _ => K g21 g22 h1 h3, fun z => absurd (show fI (brd o q f19 f20 g21 g22 f23 f24) 10 ≤ nI n by rw [e10]; exact Int32.le_refl _) z⟩
  · rintro n' i y hi ⟨g21, g22, rfl, h1, h2, h3, h4⟩ kk
    have e10 : fI (brd o q f19 f20 g21 g22 f23 f24) 10 = nI n := hn
    have hin : vp_in (nI i) 40 := vp_in_nI (by omega) (by decide)
    have skip : ¬ (¬ f20 i = 0 ∧ f24 i = f24 s) → wp_X8_moves_3 (nI s) dx dy post n' (nI i + 1) (brd o q f19 f20 g21 g22 f23 f24) := fun hno =>
      kk _ ⟨g21, g22, rfl, fun k hk => by
        by_cases ek : k = i
        · subst ek; rw [if_neg hno]; exact h2 k (Nat.le_refl _)
        · exact h1 k (by omega), fun k hk => h2 k (by omega), fun k hk => by
        by_cases ek : k = i
        · subst ek; rw [if_neg hno]; exact h4 k (Nat.le_refl _)
        · exact h3 k (by omega), fun k hk => h4 k (by omega)⟩
    refine ⟨fun z => absurd z (by rw [e10]; exact nI_ge hi (by omega)), fun _ => ⟨hin, ?_⟩⟩
    rw [qn_cl (by omega), qn_cl (by omega)]
    refine ⟨fun z => skip fun y => y.1 z, fun z => ⟨hin, vp_in_nI s40 (by decide), fun z2 => skip fun y => z2 y.2, fun z2 => ⟨hin, hin, ?_⟩⟩⟩
    rw [brd_21]
    rintro _ rfl
    refine ⟨hin, hin, ?_⟩
    rw [brd_22]
    rintro _ rfl
    refine kk _ ⟨_, _, rfl, fun k hk => ?_, fun k hk => ?_, fun k hk => ?_, fun k hk => ?_⟩
    · rw [qs_up]
      by_cases ek : k = i
      · subst ek
        rw [if_pos rfl, if_pos ⟨z, z2⟩]
        show g21 k + dx = _
        rw [h2 k (Nat.le_refl _)]
      · rw [if_neg ek]; exact h1 k (by omega)
    · rw [qs_up, if_neg (by omega)]; exact h2 k (by omega)
    · rw [qs_up]
      by_cases ek : k = i
      · subst ek
        rw [if_pos rfl, if_pos ⟨z, z2⟩]
        show g22 k + dy = _
        rw [h4 k (Nat.le_refl _)]
      · rw [if_neg ek]; exact h3 k (by omega)
    · rw [qs_up, if_neg (by omega)]; exact h4 k (by omega)
theorem w_joins {n s t : Nat} {post : FO → Prop} (hn : fI o 10 = nI n) (n40 : n ≤ 40) (s40 : s < 40) (t40 : t < 40)
    (K : ∀ g24, (∀ k, k < n → g24 k = if ¬ f20 k = 0 ∧ f24 k = f24 t then f24 s else f24 k) → post (brd o q f19 f20 f21 f22 f23 g24)) : wp_X8_joins (nI s) (nI t) (brd o q f19 f20 f21 f22 f23 f24) post := by
  refine ⟨vp_in_nI t40 (by decide), ?_⟩
  rw [qn_cl (by omega)]
  have key := lq1 (fun n' i (y : FO) => wp_X8_joins_10 (nI s) (nI t) post n' (f24 t) i y) (fun i y => ∃ g24, y = brd o q f19 f20 f21 f22 f23 g24 ∧ (∀ k, k < i → g24 k = if ¬ f20 k = 0 ∧ f24 k = f24 t then f24 s else f24 k) ∧ (∀ k, i ≤ k → g24 k = f24 k)) n (by omega) ?_ ?_ 0 (brd o q f19 f20 f21 f22 f23 f24) (by omega) ⟨f24, rfl, fun k hk => by omega, fun k _ => rfl⟩
  · exact key
  · rintro n' y ⟨g24, rfl, h1, -⟩
    have e10 : fI (brd o q f19 f20 f21 f22 f23 g24) 10 = nI n := hn
    exact ⟨fun _ => K g24 h1, fun z => absurd (show fI (brd o q f19 f20 f21 f22 f23 g24) 10 ≤ nI n by rw [e10]; exact Int32.le_refl _) z⟩
  · rintro n' i y hi ⟨g24, rfl, h1, h2⟩ kk
    have e10 : fI (brd o q f19 f20 f21 f22 f23 g24) 10 = nI n := hn
    have hin : vp_in (nI i) 40 := vp_in_nI (by omega) (by decide)
    have gs : g24 s = f24 s := by
      by_cases e : s < i
      · rw [h1 s e]
        split
        · rfl
        · rfl
      · exact h2 s (by omega)
    have put : ∀ v, (v = if ¬ f20 i = 0 ∧ f24 i = f24 t then f24 s else f24 i) → wp_X8_joins_62 (nI s) (nI t) post (fun x3 x4 o => wp_X8_joins_10 (nI s) (nI t) post n' x3 x4 o) (f24 t) (nI i) (nI i) v (brd o q f19 f20 f21 f22 f23 g24) := fun v hv => by
      refine ⟨hin, ?_⟩
      rw [qn_cl (by omega), brd_24]
      rintro _ rfl
      refine kk _ ⟨_, rfl, fun k hk => ?_, fun k hk => ?_⟩
      · rw [qs_up]
        by_cases ek : k = i
        · subst ek; rw [if_pos rfl]; exact hv
        · rw [if_neg ek]; exact h1 k (by omega)
      · rw [qs_up, if_neg (by omega)]; exact h2 k (by omega)
    have keep : ¬ (¬ f20 i = 0 ∧ f24 i = f24 t) → wp_X8_joins_55 (nI s) (nI t) post (fun x3 x4 o => wp_X8_joins_10 (nI s) (nI t) post n' x3 x4 o) (f24 t) (nI i) (nI i) (brd o q f19 f20 f21 f22 f23 g24) := fun hno => by
      refine ⟨hin, ?_⟩
      rw [qn_cl (by omega)]
      exact put _ (by rw [if_neg hno]; exact h2 i (Nat.le_refl _))
    refine ⟨fun z => absurd z (by rw [e10]; exact nI_ge hi (by omega)), fun _ => ⟨hin, ?_⟩⟩
    rw [qn_cl (by omega)]
    refine ⟨fun z => keep fun y => y.1 z, fun z => ⟨hin, ?_⟩⟩
    have e24 : fA (brd o q f19 f20 f21 f22 f23 g24) 24 i = f24 i := h2 i (Nat.le_refl _)
    rw [e24]
    refine ⟨fun z2 => keep fun y => z2 y.2, fun z2 => ⟨vp_in_nI s40 (by decide), ?_⟩⟩
    rw [qn_cl (by omega)]
    exact put _ (by rw [if_pos ⟨z, z2⟩]; exact gs)
/-- one act in the reference -/
theorem w_does {n k : Nat} {post : FO → Prop} (hn : fI o 10 = nI n) (n40 : n ≤ 40) (hk : k < 200) (hM : MR q f19 f20 f21 f22 f23 f24 A) (hO : ∀ j, j ∈ aO A → j < n) (hnd : (aO A).Nodup) (hlb : ∀ j, j ∈ aO A → aL A j < aN A)
    (hs : ∃ s, s < n ∧ fA o 4 k = nI s) (hq : ∃ q, q < 8 ∧ fA o 2 k = nI q) (hj : fA o 2 k = 5 → ∃ t, t < n ∧ fA o 5 k = nI t ∧ fA o 5 k ≠ fA o 4 k) (hnew : fA o 2 k = 0 → (fA o 4 k).toNatClampNeg ∉ aO A)
    (K : ∀ q' g19 g20 g21 g22 g23 g24, MR q' g19 g20 g21 g22 g23 g24 (abStep o k A) → post (brd o q' g19 g20 g21 g22 g23 g24)) : wp_X8_does (nI k) (brd o q f19 f20 f21 f22 f23 f24) post := by
  obtain ⟨s, hs, es⟩ := hs
  obtain ⟨kd, hkd, ek⟩ := hq
  obtain ⟨m1, m2, m3, m4, m5⟩ := hM
  have s40 : s < 40 := by omega
  have hin : vp_in (nI k) 200 := vp_in_nI hk (by decide)
  have hsin : vp_in (nI s) 40 := vp_in_nI s40 (by decide)
  have hlen : (aO A).length ≤ 40 := by
    have := fb_holes 40 (aO A).length (fun i => (aO A).getD i 0) (fun i hi => by
      have : (aO A).getD i 0 ∈ aO A := by rw [gD_get hi]; exact List.getElem_mem hi
      have := hO _ this; omega) (fun i j hij hj e => by
      simp only [gD_get hj, gD_get (Nat.lt_trans hij hj)] at e
      exact List.pairwise_iff_getElem.mp hnd i j (Nat.lt_trans hij hj) hj hij e)
    exact this
  have hlen2 : s ∉ aO A → (aO A).length < 40 := fun hn2 => by
    have := fb_holes 40 ((aO A) ++ [s]).length (fun i => ((aO A) ++ [s]).getD i 0) (fun i hi => by
      have : ((aO A) ++ [s]).getD i 0 ∈ (aO A) ++ [s] := by rw [gD_get hi]; exact List.getElem_mem hi
      rcases List.mem_append.mp this with z | z
      · have := hO _ z; omega
      · rw [List.mem_singleton.mp z]; exact s40) (fun i j hij hj e => by
      simp only [gD_get hj, gD_get (Nat.lt_trans hij hj)] at e
      have hnd2 : ((aO A) ++ [s]).Nodup := List.nodup_append.mpr ⟨hnd, by simp, fun x hx y hy z => hn2 (by rw [List.mem_singleton.mp hy] at z; exact z ▸ hx)⟩
      exact List.pairwise_iff_getElem.mp hnd2 i j (Nat.lt_trans hij hj) hj hij e)
    rw [List.length_append] at this
    exact this
  have e2 : ∀ q a b c d e f, fA (brd o q a b c d e f) 2 k = nI kd := fun _ _ _ _ _ _ _ => ek
  have e4 : ∀ q a b c d e f, fA (brd o q a b c d e f) 4 k = nI s := fun _ _ _ _ _ _ _ => es
  refine ⟨hin, hin, ?_⟩
  rw [qn_cl (by omega), e2, e4]
  have free : ∀ (x20 : Nat → Int32) (v : Int32), (∀ j, j < n → ¬ x20 j = 0 → ¬ f24 j = v) → (∀ j, j < 40 → j ≠ s → x20 j = f20 j) → ∀ j, j ∈ aO A → j ≠ s → ¬ f24 j = v := fun x20 v hf hx j hj hne => by
    refine hf j (hO j hj) ?_
    rw [hx j (by have := hO j hj; omega) hne, m3 j (by have := hO j hj; omega), if_pos hj]
    decide
  by_cases h0 : kd = 0
  · subst h0
    refine br_t' rfl ?_
    have hns : s ∉ aO A := by
      have := hnew ek
      rwa [es, qn_cl (by omega)] at this
    rw [abS_0 ek es s40] at K
    refine ⟨hsin, ?_⟩
    rw [qn_cl (by omega), brd_20]
    rintro _ rfl
    refine w_freeGroup hn n40 fun v hv => ⟨hsin, ?_⟩
    rw [brd_24]
    rintro _ rfl
    refine ⟨hsin, ?_⟩
    rw [brd_20]
    rintro _ rfl
    refine ⟨hsin, hsin, ?_⟩
    rw [brd_21]
    rintro _ rfl
    refine ⟨hsin, hsin, ?_⟩
    rw [brd_22]
    rintro _ rfl
    refine ⟨hsin, hsin, ?_⟩
    rw [brd_23]
    rintro _ rfl
    refine w_putUp (l := aO A) (hlen2 hns) m1 (K _ _ _ _ _ _ _ ⟨?_, LR_snoc m2, fun j hj => ?_, fun j hj => ?_, fun j hj j' hj' => ?_⟩)
    · show _ = nI (aO A ++ [s]).length
      rw [List.length_append]; rfl
    · show va_up (va_up f20 s 0) s 1 j = if j ∈ aO A ++ [s] then 1 else 0
      rw [va_uu, qs_up, m3 j hj]
      by_cases e : j = s
      · subst e; simp
      · simp [e]
    · show va_up f21 s (fA o 14 s) j = va_up (aC A) s (fA o 14 s) j ∧ va_up f22 s (fA o 15 s) j = va_up (aR A) s (fA o 15 s) j ∧ va_up f23 s (fA o 16 s) j = va_up (aK A) s (fA o 16 s) j
      simp only [qs_up]
      by_cases e : j = s
      · subst e; simp
      · simp only [e, if_false]
        rcases List.mem_append.mp hj with z | z
        · exact m4 j z
        · exact absurd (List.mem_singleton.mp z) e
    · show va_up f24 s v j = va_up f24 s v j' ↔ va_up (aL A) s (aN A) j = va_up (aL A) s (aN A) j'
      have hfr := free (va_up f20 s 0) v hv (fun j _ hne => by rw [qs_up, if_neg hne])
      have back : ∀ x, x ∈ aO A ++ [s] → x ≠ s → x ∈ aO A := fun x hx e => by
        rcases List.mem_append.mp hx with z | z
        · exact z
        · exact absurd (List.mem_singleton.mp z) e
      simp only [qs_up]
      by_cases e : j = s <;> by_cases e' : j' = s
      · simp [e, e']
      · rw [if_pos e, if_neg e', if_pos e, if_neg e']
        have a := hfr j' (back j' hj' e') e'
        have b := hlb j' (back j' hj' e')
        exact ⟨fun z => absurd z.symm a, fun z => by omega⟩
      · rw [if_neg e, if_pos e', if_neg e, if_pos e']
        have a := hfr j (back j hj e) e
        have b := hlb j (back j hj e)
        exact ⟨fun z => absurd z a, fun z => by omega⟩
      · rw [if_neg e, if_neg e', if_neg e, if_neg e']
        exact m5 j (back j hj e) j' (back j' hj' e')
  · have hne0 : ¬ (nI kd = (0 : Int32)) := fun z => h0 (q_nIi (b := 0) z (by omega) (by omega))
    have hne0' : ¬ fA o 2 k = 0 := by rw [ek]; exact hne0
    refine br_f' hne0 ⟨hsin, ?_⟩
    rw [qn_cl (by omega)]
    have e20 : ∀ j, j < n → fA (brd o q f19 f20 f21 f22 f23 f24) 20 j = if j ∈ aO A then 1 else 0 := fun j hj => m3 j (by omega)
    rw [e20 s hs]
    by_cases hi : s ∈ aO A
    · rw [if_pos hi]
      refine ⟨fun z => absurd z (by decide), fun _ => ⟨hin, ?_⟩⟩
      have main : (fA o 2 k = 5 → (fA o 5 k).toNatClampNeg ∈ aO A) → wp_X8_does_57 (nI k) post (nI s) (brd o q f19 f20 f21 f22 f23 f24) := fun h5 => by
        refine ⟨hin, ?_⟩
        rw [qn_cl (by omega), qn_cl (by omega), e2]
        have e5 : fA (brd o q f19 f20 f21 f22 f23 f24) 5 k = fA o 5 k := rfl
        have e6 : fA (brd o q f19 f20 f21 f22 f23 f24) 6 k = fA o 6 k := rfl
        match kd, hkd, h0 with
        | 0, _, h => exact absurd rfl h
        | 1, _, _ =>
          refine br_t' rfl ⟨hin, hin, ?_⟩
          rw [e5, e6]
          rw [abS_1 ek es s40 hi] at K
          refine w_moves hn n40 s40 fun g21 g22 h21 h22 => K _ _ _ _ _ _ _ ⟨m1, m2, m3, fun j hj => ?_, m5⟩
          obtain ⟨x1, x2, x3⟩ := m4 j hj
          have hj40 := hO j hj
          have c : (¬ f20 j = 0 ∧ f24 j = f24 s) ↔ aL A j = aL A s := by
            rw [m3 j (by omega), if_pos (show j ∈ aO A from hj)]
            exact ⟨fun z => (m5 j hj s hi).mp z.2, fun z => ⟨by decide, (m5 j hj s hi).mpr z⟩⟩
          refine ⟨?_, ?_, x3⟩
          · show g21 j = if aL A j = aL A s then aC A j + fA o 5 k else aC A j
            rw [h21 j hj40, x1]
            by_cases e : aL A j = aL A s
            · rw [if_pos e, if_pos (c.mpr e)]
            · rw [if_neg e, if_neg (fun z => e (c.mp z))]
          · show g22 j = if aL A j = aL A s then aR A j + fA o 6 k else aR A j
            rw [h22 j hj40, x2]
            by_cases e : aL A j = aL A s
            · rw [if_pos e, if_pos (c.mpr e)]
            · rw [if_neg e, if_neg (fun z => e (c.mp z))]
        | 2, _, _ =>
          refine br_f' (by decide) ⟨hin, br_t' rfl ⟨hin, hsin, ?_⟩⟩
          rw [e5, brd_23]
          rintro _ rfl
          rw [abS_2 ek es s40 hi] at K
          refine K _ _ _ _ _ _ _ ⟨m1, m2, m3, fun j hj => ?_, m5⟩
          obtain ⟨x1, x2, x3⟩ := m4 j hj
          refine ⟨x1, x2, ?_⟩
          show va_up f23 s (fA o 5 k) j = va_up (aK A) s (fA o 5 k) j
          rw [qs_up, qs_up]
          split
          · rfl
          · exact x3
        | 5, _, _ =>
          obtain ⟨t, ht, et, -⟩ := hj ek
          have h5' := h5 ek
          rw [et, qn_cl (by omega)] at h5'
          refine br_f' (by decide) ⟨hin, br_f' (by decide) ⟨hin, br_t' rfl ⟨hin, ?_⟩⟩⟩
          rw [e5, et]
          rw [abS_5 ek es s40 et (by omega) hi h5'] at K
          refine w_joins hn n40 s40 (by omega) fun g24 h24 => K _ _ _ _ _ _ _ ⟨m1, m2, m3, m4, fun j hj j' hj' => ?_⟩
          have val : ∀ x, x ∈ aO A → g24 x = if aL A x = aL A t then f24 s else f24 x := fun x hx => by
            have hx40 := hO x hx
            rw [h24 x hx40, m3 x (by omega), if_pos hx]
            by_cases e : aL A x = aL A t
            · rw [if_pos e, if_pos ⟨by decide, (m5 x hx t h5').mpr e⟩]
            · rw [if_neg e, if_neg (fun z => e ((m5 x hx t h5').mp z.2))]
          show g24 j = g24 j' ↔ (if aL A j = aL A t then aL A s else aL A j) = (if aL A j' = aL A t then aL A s else aL A j')
          rw [val j hj, val j' hj']
          by_cases c : aL A j = aL A t <;> by_cases c' : aL A j' = aL A t
          · simp [c, c']
          · rw [if_pos c, if_neg c', if_pos c, if_neg c']
            exact m5 s hi j' hj'
          · rw [if_neg c, if_pos c', if_neg c, if_pos c']
            exact m5 j hj s hi
          · rw [if_neg c, if_neg c', if_neg c, if_neg c']
            exact m5 j hj j' hj'
        | 6, _, _ =>
          refine br_f' (by decide) ⟨hin, br_f' (by decide) ⟨hin, br_f' (by decide) ⟨hin, br_t' rfl ⟨hsin, ?_⟩⟩⟩⟩
          rw [brd_20]
          rintro _ rfl
          refine w_freeGroup hn n40 fun v hv => ⟨hsin, ?_⟩
          rw [brd_24]
          rintro _ rfl
          refine ⟨hsin, ?_⟩
          rw [brd_20]
          rintro _ rfl
          rw [abS_6 ek es s40 hi] at K
          refine K _ _ _ _ _ _ _ ⟨m1, m2, fun j hj => ?_, m4, fun j hj j' hj' => ?_⟩
          · show va_up (va_up f20 s 0) s 1 j = if j ∈ aO A then 1 else 0
            rw [va_uu, qs_up, m3 j hj]
            by_cases e : j = s
            · subst e; rw [if_pos rfl, if_pos hi]
            · rw [if_neg e]
          · show va_up f24 s v j = va_up f24 s v j' ↔ va_up (aL A) s (aN A) j = va_up (aL A) s (aN A) j'
            have hfr := free (va_up f20 s 0) v hv (fun j _ hne => by rw [qs_up, if_neg hne])
            simp only [qs_up]
            by_cases e : j = s <;> by_cases e' : j' = s
            · simp [e, e']
            · rw [if_pos e, if_neg e', if_pos e, if_neg e']
              have a := hfr j' hj' e'
              have b := hlb j' hj'
              exact ⟨fun z => absurd z.symm a, fun z => by omega⟩
            · rw [if_neg e, if_pos e', if_neg e, if_pos e']
              have a := hfr j hj e
              have b := hlb j hj
              exact ⟨fun z => absurd z a, fun z => by omega⟩
            · rw [if_neg e, if_neg e', if_neg e, if_neg e']
              exact m5 j hj j' hj'
        | 3, _, _ =>
          refine br_f' (by decide) ⟨hin, br_f' (by decide) ⟨hin, br_f' (by decide) ⟨hin, br_f' (by decide) ?_⟩⟩⟩
          have hll := lrm_len hnd hi
          refine w_takeOut m2 hlen m1 (fun x hx => by have := hO x hx; omega) s40 fun f hf => ⟨hin, ?_⟩
          rw [e2]
          refine br_f (by decide) ⟨hsin, ?_⟩
          rw [qn_cl (by omega), brd_20]
          rintro _ rfl
          refine ⟨hsin, ?_⟩
          have : fA (brd o (nI (lrm (aO A) s).length) f (va_up f20 s (vp_nar FieldType.boolean 1)) f21 f22 f23 f24) 20 s = 1 := by
            show va_up f20 s 1 s = 1
            rw [qs_up, if_pos rfl]
          rw [this]
          refine ⟨fun z => absurd z (by decide), fun _ => ⟨hin, ?_⟩⟩
          rw [qn_cl (by omega), e2]
          refine br_t' rfl ?_
          rw [abS_3 ek es s40 hi] at K
          refine w_putUp (l := lrm (aO A) s) (by omega) rfl (K _ _ _ _ _ _ _ ⟨?_, LR_snoc hf, fun j hj => ?_, fun j hj => m4 j ?_, fun j hj j' hj' => m5 j ?_ j' ?_⟩)
          · show _ = nI (lrm (aO A) s ++ [s]).length
            rw [List.length_append]; rfl
          · show va_up f20 s 1 j = if j ∈ lrm (aO A) s ++ [s] then 1 else 0
            rw [qs_up, m3 j hj]
            by_cases e : j = s
            · subst e; simp
            · rw [if_neg e]
              have : j ∈ lrm (aO A) s ++ [s] ↔ j ∈ aO A := by rw [List.mem_append, List.mem_singleton, mem_lrm]; simp [e]
              simp only [this]
          · rcases List.mem_append.mp hj with z | z
            · exact (mem_lrm.mp z).1
            · rw [List.mem_singleton.mp z]; exact hi
          · rcases List.mem_append.mp hj with z | z
            · exact (mem_lrm.mp z).1
            · rw [List.mem_singleton.mp z]; exact hi
          · rcases List.mem_append.mp hj' with z | z
            · exact (mem_lrm.mp z).1
            · rw [List.mem_singleton.mp z]; exact hi
        | 4, _, _ =>
          refine br_f' (by decide) ⟨hin, br_f' (by decide) ⟨hin, br_f' (by decide) ⟨hin, br_f' (by decide) ?_⟩⟩⟩
          have hll := lrm_len hnd hi
          refine w_takeOut m2 hlen m1 (fun x hx => by have := hO x hx; omega) s40 fun f hf => ⟨hin, ?_⟩
          rw [e2]
          refine br_f (by decide) ⟨hsin, ?_⟩
          rw [qn_cl (by omega), brd_20]
          rintro _ rfl
          refine ⟨hsin, ?_⟩
          have : fA (brd o (nI (lrm (aO A) s).length) f (va_up f20 s (vp_nar FieldType.boolean 1)) f21 f22 f23 f24) 20 s = 1 := by
            show va_up f20 s 1 s = 1
            rw [qs_up, if_pos rfl]
          rw [this]
          refine ⟨fun z => absurd z (by decide), fun _ => ⟨hin, ?_⟩⟩
          rw [qn_cl (by omega), e2]
          refine br_f' (by decide) ?_
          rw [abS_4 ek es s40 hi] at K
          have hmem : ∀ j, j ∈ s :: lrm (aO A) s ↔ j ∈ aO A := fun j => by
            rw [List.mem_cons, mem_lrm]
            by_cases e : j = s
            · subst e; simp [hi]
            · simp [e]
          refine w_putDown (l := lrm (aO A) s) hf (by omega) rfl fun f' hf' => K _ _ _ _ _ _ _ ⟨rfl, hf', fun j hj => ?_, fun j hj => m4 j ((hmem j).mp hj), fun j hj j' hj' => m5 j ((hmem j).mp hj) j' ((hmem j').mp hj')⟩
          show va_up f20 s 1 j = if j ∈ s :: lrm (aO A) s then 1 else 0
          rw [qs_up, m3 j hj]
          simp only [hmem]
          by_cases e : j = s
          · subst e; rw [if_pos rfl, if_pos hi]
          · rw [if_neg e]
        | 7, _, _ =>
          refine br_f' (by decide) ⟨hin, br_f' (by decide) ⟨hin, br_f' (by decide) ⟨hin, br_f' (by decide) ?_⟩⟩⟩
          refine w_takeOut m2 hlen m1 (fun x hx => by have := hO x hx; omega) s40 fun f hf => ⟨hin, ?_⟩
          rw [e2]
          refine br_t rfl ⟨hsin, ?_⟩
          rw [qn_cl (by omega), brd_20]
          rintro _ rfl
          refine ⟨hsin, ?_⟩
          have : fA (brd o (nI (lrm (aO A) s).length) f (va_up f20 s (vp_nar FieldType.boolean 0)) f21 f22 f23 f24) 20 s = 0 := by
            show va_up f20 s 0 s = 0
            rw [qs_up, if_pos rfl]
          rw [this]
          refine ⟨fun _ => ?_, fun z => absurd rfl z⟩
          rw [abS_7 ek es s40 hi] at K
          refine K _ _ _ _ _ _ _ ⟨rfl, hf, fun j hj => ?_, fun j hj => m4 j (mem_lrm.mp hj).1, fun j hj j' hj' => m5 j (mem_lrm.mp hj).1 j' (mem_lrm.mp hj').1⟩
          show va_up f20 s 0 j = if j ∈ lrm (aO A) s then 1 else 0
          rw [qs_up, m3 j hj]
          simp only [mem_lrm]
          by_cases e : j = s
          · subst e; simp
          · simp [e]
        | kd + 8, h, _ => omega
      refine br_c' (fun h5 => ⟨hin, ?_⟩) (fun h5 => main fun z => absurd (ek.symm.trans z) h5)
      obtain ⟨t, ht, et, -⟩ := hj (ek.trans h5)
      have e5 : fA (brd o q f19 f20 f21 f22 f23 f24) 5 k = nI t := et
      rw [e5]
      refine ⟨vp_in_nI (by omega) (by decide), ?_⟩
      rw [qn_cl (by omega), e20 t ht]
      by_cases hi2 : t ∈ aO A
      · rw [if_pos hi2]
        refine ⟨fun z => absurd z (by decide), fun _ => main fun _ => ?_⟩
        rw [et, qn_cl (by omega)]
        exact hi2
      · rw [if_neg hi2]
        refine ⟨fun _ => ?_, fun z => absurd rfl z⟩
        rw [abS_no5 (ek.trans h5) es s40 et (by omega) hi2] at K
        exact K _ _ _ _ _ _ _ ⟨m1, m2, m3, m4, m5⟩
    · rw [if_neg hi]
      refine ⟨fun _ => ?_, fun z => absurd rfl z⟩
      rw [abS_no hne0' es s40 hi] at K
      exact K _ _ _ _ _ _ _ ⟨m1, m2, m3, m4, m5⟩
end MB
/-- all acts anew in the reference -/
theorem w_anew {o : FO} {n m : Nat} {post : FO → Prop} (hn : fI o 10 = nI n) (hm : fI o 1 = nI m) (n40 : n ≤ 40) (m200 : m ≤ 200) (hA : WFA o n m) (hS : WFS o n) (h20 : ∀ k, n ≤ k → k < 40 → fA o 20 k = 0)
    (K : ∀ q' g19 g20 g21 g22 g23 g24, MR q' g19 g20 g21 g22 g23 g24 (abFold o m) → post (brd o q' g19 g20 g21 g22 g23 g24)) : wp_X8_anew o post := by
  rintro _ rfl
  have e0 : sI o 18 0 = brd o 0 (fA o 19) (fA o 20) (fA o 21) (fA o 22) (fA o 23) (fA o 24) := by
    conv => lhs; rw [← brd_id o]
    rw [brd_18]
  rw [e0]
  have k1 := lq1 (fun n' i (y : FO) => wp_X8_anew_7 post n' i y) (fun i y => ∃ f20, y = brd o 0 (fA o 19) f20 (fA o 21) (fA o 22) (fA o 23) (fA o 24) ∧ (∀ k, k < i → f20 k = 0) ∧ ∀ k, i ≤ k → f20 k = fA o 20 k) n (by omega) ?_ ?_ 0 (brd o 0 (fA o 19) (fA o 20) (fA o 21) (fA o 22) (fA o 23) (fA o 24)) (by omega) ⟨fA o 20, rfl, fun k hk => by omega, fun k _ => rfl⟩
  · exact k1
  · rintro n' y ⟨f20, rfl, h1, h2⟩
    have e10 : fI (brd o 0 (fA o 19) f20 (fA o 21) (fA o 22) (fA o 23) (fA o 24)) 10 = nI n := hn
    refine ⟨fun _ => ?_, fun z => absurd (show fI (brd o 0 (fA o 19) f20 (fA o 21) (fA o 22) (fA o 23) (fA o 24)) 10 ≤ nI n by rw [e10]; exact Int32.le_refl _) z⟩
    have k2 := lq1 (fun n' i (y : FO) => wp_X8_anew_30 post n' i y) (fun i y => ∃ q g19 g20 g21 g22 g23 g24, y = brd o q g19 g20 g21 g22 g23 g24 ∧ MR q g19 g20 g21 g22 g23 g24 (abFold o i)) m (by omega) ?_ ?_ 0 (brd o 0 (fA o 19) f20 (fA o 21) (fA o 22) (fA o 23) (fA o 24)) (by omega) ⟨_, _, _, _, _, _, _, rfl, rfl, fun i hi => (by cases hi), fun k hk => ?_, fun k hk => (by cases hk), fun k hk => (by cases hk)⟩
    · exact k2
    · rintro n'' y ⟨q, g19, g20, g21, g22, g23, g24, rfl, hM⟩
      have e1 : fI (brd o q g19 g20 g21 g22 g23 g24) 1 = nI m := hm
      exact ⟨fun _ => K _ _ _ _ _ _ _ hM, fun z => absurd (show fI (brd o q g19 g20 g21 g22 g23 g24) 1 ≤ nI m by rw [e1]; exact Int32.le_refl _) z⟩
    · rintro n'' i y hi ⟨q, g19, g20, g21, g22, g23, g24, rfl, hM⟩ kk
      have e1 : fI (brd o q g19 g20 g21 g22 g23 g24) 1 = nI m := hm
      refine ⟨fun z => absurd z (by rw [e1]; exact nI_ge hi (by omega)), fun _ => ⟨vp_in_nI (by omega) (by decide), ?_⟩⟩
      rw [qn_cl (by omega)]
      have e7 : fA (brd o q g19 g20 g21 g22 g23 g24) 7 i = fA o 7 i := rfl
      rw [e7]
      have hf : abFold o (i + 1) = if fA o 7 i = 0 then abFold o i else abStep o i (abFold o i) := rfl
      obtain ⟨i1, i2, i3, i4, i5, i6, i7⟩ := hA i hi
      obtain ⟨w1, w2⟩ := abFold_ok m200 n40 hA hS i (by omega)
      refine ⟨fun z => kk _ ⟨q, g19, g20, g21, g22, g23, g24, rfl, ?_⟩, fun z => ?_⟩
      · rw [hf, if_pos z]; exact hM
      · refine w_does hn n40 (by omega) hM (fun j hj => (w1.2 j hj).1) w1.1 (fun j hj => (w1.2 j hj).2.1) i1 i2 i6 (fun e0 z2 => ?_) fun q' x19 x20 x21 x22 x23 x24 hM' => kk _ ⟨q', x19, x20, x21, x22, x23, x24, rfl, ?_⟩
        · obtain ⟨s, hs, es⟩ := i1
          rw [es, qn_cl (by omega)] at z2
          obtain ⟨j, j1, j2, j3⟩ := w2 s z2
          exact i7 e0 j j1 j2 (j3.trans es.symm)
        · rw [hf, if_neg z]; exact hM'
    · show f20 k = if k ∈ ([] : List Nat) then 1 else 0
      rw [if_neg (by simp)]
      by_cases e : k < n
      · exact h1 k e
      · rw [h2 k (by omega)]; exact h20 k (by omega) hk
  · rintro n' i y hi ⟨f20, rfl, h1, h2⟩ kk
    have e10 : fI (brd o 0 (fA o 19) f20 (fA o 21) (fA o 22) (fA o 23) (fA o 24)) 10 = nI n := hn
    refine ⟨fun z => absurd z (by rw [e10]; exact nI_ge hi (by omega)), fun _ => ⟨vp_in_nI (by omega) (by decide), ?_⟩⟩
    rw [qn_cl (by omega), brd_20]
    rintro _ rfl
    refine kk _ ⟨_, rfl, fun k hk => ?_, fun k hk => ?_⟩
    · rw [qs_up]
      by_cases e : k = i
      · rw [if_pos e]; rfl
      · rw [if_neg e]; exact h1 k (by omega)
    · rw [qs_up, if_neg (by omega)]; exact h2 k (by omega)
end
