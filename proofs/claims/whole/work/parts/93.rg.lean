section
/-! pure layer AG: the law -/
section LAW
theorem law_loop {sc : Nat → Int32} {L : Nat} (hL : L ≤ 4096) : ∀ n' i, n' + i = 513 → i ≤ 512 → ∀ (g : GH) (A : Rl → Nat) (ob : Rl → FO) (D : GD) (n m ne np : Nat) (E : Nat → AB), IV g A ob D n m ne np E → np ≤ i → wp_L_law_23 sc L n' (A rRm) (A rMd) (A rOut) (nI (8 * i)) g := by
  intro n'
  induction n' with
  | zero => intro i h1 h2; omega
  | succ n' ih =>
    intro i h1 h2 g A ob D n m ne np E h hnp
    refine ⟨fun _ => trivial, fun hz => ?_⟩
    have hz : ¬ nI L - 8 < nI (8 * i) := hz
    have h8 : (8 : Int32).toInt = 8 := by decide
    have e1 : (nI L).toInt = L := q_nI (by omega)
    have e2 : (nI (8 * i)).toInt = (8 * i : Nat) := q_nI (by omega)
    have e3 : (nI L - 8).toInt = (nI L).toInt - (8 : Int32).toInt := q_subI (by omega) (by omega)
    rw [q_lt] at hz
    have hb : 8 * i + 8 ≤ L := by omega
    have v : ∀ j, j < 8 → vp_in (nI (8 * i) + nI j) L := fun j hj => by
      rw [nI_add]
      exact vp_in_nI (by omega) (by omega)
    have v1 : vp_in (nI (8 * i) + 1) L := v 1 (by decide)
    have v2 : vp_in (nI (8 * i) + 2) L := v 2 (by decide)
    have v3 : vp_in (nI (8 * i) + 3) L := v 3 (by decide)
    have v4 : vp_in (nI (8 * i) + 4) L := v 4 (by decide)
    have v5 : vp_in (nI (8 * i) + 5) L := v 5 (by decide)
    have v6 : vp_in (nI (8 * i) + 6) L := v 6 (by decide)
    have v7 : vp_in (nI (8 * i) + 7) L := v 7 (by decide)
    have v0 : vp_in (nI (8 * i)) L := vp_in_nI (by omega) (by omega)
    have h512 : np < 512 := by omega
    have k : ∀ g', NX A np g' → wp_L_law_2433 sc L (fun x1 x2 x3 x4 g => wp_L_law_23 sc L n' x1 x2 x3 x4 g) (A rRm) (A rMd) (A rOut) (nI (8 * i)) g' := fun g' ⟨A', ob', D', a, b, c, d, E', r1, r2, r3, hd, hI⟩ => by
      have := ih (i + 1) (by omega) (by omega) g' A' ob' D' a b c d E' hI (by omega)
      rw [r1, r2, r3] at this
      show wp_L_law_23 sc L n' (A rRm) (A rMd) (A rOut) (nI (8 * i) + 8) g'
      have e8 : nI (8 * i) + 8 = nI (8 * (i + 1)) := nI_add (8 * i) 8
      rw [e8]
      exact this
    refine ⟨v0, ?_⟩
    refine ⟨fun _ => ⟨v1, v2, v3, v4, v5, v6, c_add h k _ _ _ _ _ _ (fun r g2 hh => ⟨v1, v2, v3, v4, v5, v6, hh⟩)⟩, fun _ => ?_⟩
    refine ⟨fun _ => ⟨v1, v2, v3, v4, c_move h k _ _ _ _ (fun r g2 hh => ⟨v1, v2, v3, v4, hh⟩)⟩, fun _ => ?_⟩
    refine ⟨fun _ => ⟨v1, v2, v3, c_paint h k _ _ _ (fun r g2 hh => ⟨v1, v2, v3, hh⟩)⟩, fun _ => ?_⟩
    refine ⟨fun _ => ⟨v1, v2, v3, fun z => c_layer h k _ _ 0 (fun r g2 hh => ⟨v1, v2, v3, fun _ => hh, fun y => absurd z y⟩), fun z => c_layer h k _ _ 1 (fun r g2 hh => ⟨v1, v2, v3, fun y => absurd y z, fun _ => hh⟩)⟩, fun _ => ?_⟩
    refine ⟨fun _ => ⟨v1, v2, v3, c_join h k _ _ _ (fun r g2 hh => ⟨v1, v2, v3, hh⟩)⟩, fun _ => ?_⟩
    refine ⟨fun _ => ⟨v1, v2, c_part h k _ _ (fun r g2 hh => ⟨v1, v2, hh⟩)⟩, fun _ => ?_⟩
    refine ⟨fun _ => ⟨v1, v2, c_drop h k _ _ (fun r g2 hh => ⟨v1, v2, hh⟩)⟩, fun _ => ?_⟩
    refine ⟨fun _ => ⟨v1, c_undo h k _ (fun r g2 hh => ⟨v1, hh⟩)⟩, fun _ => ?_⟩
    refine ⟨fun _ => ⟨v1, c_redo h k _ (fun r g2 hh => ⟨v1, hh⟩)⟩, fun _ => ?_⟩
    refine ⟨fun _ => c_acts h k, fun _ => ?_⟩
    refine ⟨fun _ => ⟨v1, c_isLive h k _ (fun r g2 hh => ⟨v1, hh⟩)⟩, fun _ => ?_⟩
    refine ⟨fun _ => ⟨v1, c_holder h k _ (fun r g2 hh => ⟨v1, hh⟩)⟩, fun _ => ?_⟩
    refine ⟨fun _ => c_shapes h k, fun _ => ?_⟩
    refine ⟨fun _ => c_there h k, fun _ => ?_⟩
    refine ⟨fun _ => ⟨v1, c_place h k _ (fun r g2 hh => ⟨v1, hh⟩)⟩, fun _ => ?_⟩
    refine ⟨fun _ => ⟨v1, c_colour h k _ (fun r g2 hh => ⟨v1, hh⟩)⟩, fun _ => ?_⟩
    refine ⟨fun _ => ⟨v1, c_above h k _ (fun r g2 hh => ⟨v1, hh⟩)⟩, fun _ => ?_⟩
    refine ⟨fun _ => ⟨v1, c_group h k _ (fun r g2 hh => ⟨v1, hh⟩)⟩, fun _ => ?_⟩
    refine ⟨fun _ => ⟨v1, v2, c_seen h k _ _ (fun r g2 hh => ⟨v1, v2, hh⟩)⟩, fun _ => ?_⟩
    refine ⟨fun _ => ⟨v1, v2, c_seenAnew h k _ _ (fun r g2 hh => ⟨v1, v2, hh⟩)⟩, fun _ => ?_⟩
    refine ⟨fun _ => ⟨v1, v2, v3, v4, v5, v6, v7, c_freeze h k _ _ _ _ _ _ _ (fun r g2 hh => ⟨v1, v2, v3, v4, v5, v6, v7, hh⟩)⟩, fun _ => ?_⟩
    refine ⟨fun _ => ⟨v1, c_withdraw h k _ (fun r g2 hh => ⟨v1, hh⟩)⟩, fun _ => ?_⟩
    refine ⟨fun _ => ⟨v1, v2, v3, c_viewed h k _ _ _ (fun r g2 hh => ⟨v1, v2, v3, hh⟩)⟩, fun _ => ?_⟩
    refine ⟨fun _ => ⟨v1, v2, c_area h k _ _ (fun r g2 hh => ⟨v1, v2, hh⟩)⟩, fun _ => ?_⟩
    refine ⟨fun _ => ⟨v1, v2, c_sell h h512 k _ _ (fun r g2 hh => ⟨v1, v2, hh⟩)⟩, fun _ => ?_⟩
    refine ⟨fun _ => ⟨v1, v2, v3, v4, c_resell h h512 k _ _ _ _ (fun r g2 hh => ⟨v1, v2, v3, v4, hh⟩)⟩, fun _ => ?_⟩
    refine ⟨fun _ => ⟨v1, c_takeDown h k _ (fun r g2 hh => ⟨v1, hh⟩)⟩, fun _ => ?_⟩
    refine ⟨fun _ => ⟨v1, v2, c_accept h k _ _ (fun r g2 hh => ⟨v1, v2, hh⟩)⟩, fun _ => ?_⟩
    refine ⟨fun _ => ⟨v1, v2, c_giveBack h h512 k _ _ (fun r g2 hh => ⟨v1, v2, hh⟩)⟩, fun _ => ?_⟩
    refine ⟨fun _ => ⟨v1, v2, c_copyState h k _ _ (fun r g2 hh => ⟨v1, v2, hh⟩)⟩, fun _ => ?_⟩
    refine ⟨fun _ => ⟨v1, v2, c_owner h k _ _ (fun r g2 hh => ⟨v1, v2, hh⟩)⟩, fun _ => ?_⟩
    refine ⟨fun _ => ⟨v1, c_money h k _ (fun r g2 hh => ⟨v1, hh⟩)⟩, fun _ => ?_⟩
    refine ⟨fun _ => ⟨v1, c_moneyAnew h k _ (fun r g2 hh => ⟨v1, hh⟩)⟩, fun _ => ?_⟩
    refine ⟨fun _ => ⟨v1, c_purse h k _ (fun r g2 hh => ⟨v1, hh⟩)⟩, fun _ => ?_⟩
    refine ⟨fun _ => c_house h k, fun _ => ?_⟩
    exact k g h.nx
/-- the heap behind the constructors -/
theorem law_start (sc : Nat → Int32) (L : Nat) (hL : L ≤ 4096) : wp_law sc L (fun _ => none) := by
  intro a1 _
  rintro _ rfl
  intro a5 h5
  rintro _ rfl
  intro a9 h9
  rintro _ rfl
  have l5 : a1 + 13 < a5 := by
    rcases Nat.lt_or_ge (a1 + 13) a5 with y | y
    · exact y
    · have := h5 (a1 + 13) y
      rw [hu_n (show a1 + 13 ≠ a1 by omega), hu_s] at this
      cases this
  have m9 : ∀ b x, hu (hu (hu (hu (hu (hu (hu (hu (fun _ => none) (a1 + 1) (0, fo0)) (a1 + 2) (0, fo0)) (a1 + 3) (0, fo0)) (a1 + 4) (0, fo0)) (a1 + 5) (2, fo0)) (a1 + 13) (2, fo0)) a1 (8, croom0 a1)) a5 (9, fo0) b = some x → a9 ≠ b := fun b x e z => by
    rw [z, e] at h9
    cases h9
  have p0 : (∀ r, (fun _ : Rl => False) r → (fun _ : Nat => (none : Option (Nat × FO))) ((fun _ : Rl => 0) r) = some (cR r, (fun _ : Rl => fo0) r)) ∧ (∀ r q, (fun _ : Rl => False) r → (fun _ : Rl => False) q → (fun _ : Rl => 0) r = (fun _ : Rl => 0) q → r = q) := ⟨fun _ h => h.elim, fun _ _ h => h.elim⟩
  have p1 := HPp_new (g := fun _ => none) (A := fun _ => 0) (ob := fun _ => fo0) (P := fun _ => False) (P' := fun q => q = rLs 0) p0 (r := rLs 0) (a := a1 + 1) (c := 0) (x := fo0) rfl rfl (fun q hq hne => absurd hq hne)
  have p2 := HPp_new (P' := fun q => q = rLs 1 ∨ q = rLs 0) p1 (r := rLs 1) (a := a1 + 2) (c := 0) (x := fo0) (by rw [hu_n (by omega)]) rfl (fun q hq hne => hq.resolve_left hne)
  have p3 := HPp_new (P' := fun q => q = rLs 2 ∨ q = rLs 1 ∨ q = rLs 0) p2 (r := rLs 2) (a := a1 + 3) (c := 0) (x := fo0) (by rw [hu_n (by omega), hu_n (by omega)]) rfl (fun q hq hne => hq.resolve_left hne)
  have p4 := HPp_new (P' := fun q => q = rLs 3 ∨ q = rLs 2 ∨ q = rLs 1 ∨ q = rLs 0) p3 (r := rLs 3) (a := a1 + 4) (c := 0) (x := fo0) (by rw [hu_n (by omega), hu_n (by omega), hu_n (by omega)]) rfl (fun q hq hne => hq.resolve_left hne)
  have p5 := HPp_new (P' := fun q => q = rBd ∨ q = rLs 3 ∨ q = rLs 2 ∨ q = rLs 1 ∨ q = rLs 0) p4 (r := rBd) (a := a1 + 5) (c := 2) (x := fo0) (by rw [hu_n (by omega), hu_n (by omega), hu_n (by omega), hu_n (by omega)]) rfl (fun q hq hne => hq.resolve_left hne)
  have p6 := HPp_new (P' := fun q => q = rSp ∨ q = rBd ∨ q = rLs 3 ∨ q = rLs 2 ∨ q = rLs 1 ∨ q = rLs 0) p5 (r := rSp) (a := a1 + 13) (c := 2) (x := fo0) (by rw [hu_n (by omega), hu_n (by omega), hu_n (by omega), hu_n (by omega), hu_n (by omega)]) rfl (fun q hq hne => hq.resolve_left hne)
  have p7 := HPp_new (P' := fun q => q = rRm ∨ q = rSp ∨ q = rBd ∨ q = rLs 3 ∨ q = rLs 2 ∨ q = rLs 1 ∨ q = rLs 0) p6 (r := rRm) (a := a1) (c := 8) (x := croom0 a1) (by rw [hu_n (by omega), hu_n (by omega), hu_n (by omega), hu_n (by omega), hu_n (by omega), hu_n (by omega)]) rfl (fun q hq hne => hq.resolve_left hne)
  have p8 := HPp_new (P' := fun q => q = rMd ∨ q = rRm ∨ q = rSp ∨ q = rBd ∨ q = rLs 3 ∨ q = rLs 2 ∨ q = rLs 1 ∨ q = rLs 0) p7 (r := rMd) (a := a5) (c := 9) (x := fo0) (h5 a5 (Nat.le_refl _)) rfl (fun q hq hne => hq.resolve_left hne)
  have p9 := HPp_new (P' := fun q => q = rOut ∨ q = rMd ∨ q = rRm ∨ q = rSp ∨ q = rBd ∨ q = rLs 3 ∨ q = rLs 2 ∨ q = rLs 1 ∨ q = rLs 0) p8 (r := rOut) (a := a9) (c := 10) (x := fo0) h9 rfl (fun q hq hne => hq.resolve_left hne)
  obtain ⟨A9, hA9⟩ : ∃ A9 : Rl → Nat, A9 = rup (rup (rup (rup (rup (rup (rup (rup (rup (fun _ => 0) (rLs 0) (a1 + 1)) (rLs 1) (a1 + 2)) (rLs 2) (a1 + 3)) (rLs 3) (a1 + 4)) rBd (a1 + 5)) rSp (a1 + 13)) rRm a1) rMd a5) rOut a9 := ⟨_, rfl⟩
  obtain ⟨ob9, hob9⟩ : ∃ ob9 : Rl → FO, ob9 = rup (rup (rup (rup (rup (rup (rup (rup (rup (fun _ => fo0) (rLs 0) fo0) (rLs 1) fo0) (rLs 2) fo0) (rLs 3) fo0) rBd fo0) rSp fo0) rRm (croom0 a1)) rMd fo0) rOut fo0 := ⟨_, rfl⟩
  rw [← hA9, ← hob9] at p9
  have w0 : A9 (rLs 0) = a1 + 1 := by rw [hA9]; rfl
  have w1 : A9 (rLs 1) = a1 + 2 := by rw [hA9]; rfl
  have w2 : A9 (rLs 2) = a1 + 3 := by rw [hA9]; rfl
  have w3 : A9 (rLs 3) = a1 + 4 := by rw [hA9]; rfl
  have wB : A9 rBd = a1 + 5 := by rw [hA9]; rfl
  have wS : A9 rSp = a1 + 13 := by rw [hA9]; rfl
  have wR : A9 rRm = a1 := by rw [hA9]; rfl
  have wM : A9 rMd = a5 := by rw [hA9]; rfl
  have wO : A9 rOut = a9 := by rw [hA9]; rfl
  have oR : ob9 rRm = croom0 a1 := by rw [hob9]; rfl
  have oL : ∀ k, k < 4 → ob9 (rLs k) = fo0 := fun k hk => by
    rw [hob9]
    match k, hk with
    | 0, _ => rfl
    | 1, _ => rfl
    | 2, _ => rfl
    | 3, _ => rfl
    | k + 4, h => omega
  have oB : ob9 rBd = fo0 := by rw [hob9]; rfl
  have oM : ob9 rMd = fo0 := by rw [hob9]; rfl
  have hal : ∀ q, al (0, 0, 0, 0, (fun _ => 0), 0) q → (q = rOut ∨ q = rMd ∨ q = rRm ∨ q = rSp ∨ q = rBd ∨ q = rLs 3 ∨ q = rLs 2 ∨ q = rLs 1 ∨ q = rLs 0) := fun q hq => by
    obtain ⟨x, y, z⟩ := q
    rcases hq with ⟨a, b, c⟩ | ⟨a, b, c⟩ | ⟨a, b, c⟩ | ⟨a, b, c⟩ | ⟨a, b, c⟩ | ⟨a, b, c⟩ | ⟨a, b, c⟩ | ⟨a, b, c⟩ | ⟨a, b, c⟩ | ⟨a, b, c⟩ | ⟨a, b, c⟩ | ⟨a, b, c⟩ | ⟨a, b, c⟩
    · have a : x = 0 := a
      have b : y = 0 := b
      have c : z = 0 := c
      subst a b c
      exact Or.inr (Or.inr (Or.inl rfl))
    · have a : x = 1 := a
      have b : y < 4 := b
      have c : z = 0 := c
      subst a c
      match y, b with
      | 0, _ => exact Or.inr (Or.inr (Or.inr (Or.inr (Or.inr (Or.inr (Or.inr (Or.inr rfl)))))))
      | 1, _ => exact Or.inr (Or.inr (Or.inr (Or.inr (Or.inr (Or.inr (Or.inr (Or.inl rfl)))))))
      | 2, _ => exact Or.inr (Or.inr (Or.inr (Or.inr (Or.inr (Or.inr (Or.inl rfl))))))
      | 3, _ => exact Or.inr (Or.inr (Or.inr (Or.inr (Or.inr (Or.inl rfl)))))
      | y + 4, h => omega
    · have a : x = 2 := a
      have b : y < 2 := b
      have c : z = 0 := c
      subst a c
      match y, b with
      | 0, _ => exact Or.inr (Or.inr (Or.inr (Or.inr (Or.inl rfl))))
      | 1, _ => exact Or.inr (Or.inr (Or.inr (Or.inl rfl)))
      | y + 2, h => omega
    · exact absurd b (Nat.not_lt_zero _)
    · exact absurd b (Nat.not_lt_zero _)
    · exact absurd b (Nat.not_lt_zero _)
    · exact absurd b (Nat.not_lt_zero _)
    · exact absurd b (Nat.not_lt_zero _)
    · exact absurd b (Nat.not_lt_zero _)
    · exact absurd b (Nat.not_lt_zero _)
    · exact absurd b (Nat.not_lt_zero _)
    · have a : x = 11 := a
      have b : y = 0 := b
      have c : z = 0 := c
      subst a b c
      exact Or.inl rfl
    · have a : x = 12 := a
      have b : y = 0 := b
      have c : z = 0 := c
      subst a b c
      exact Or.inr (Or.inl rfl)
  have hHP : HP (hu (hu (hu (hu (hu (hu (hu (hu (hu (fun _ => none) (a1 + 1) (0, fo0)) (a1 + 2) (0, fo0)) (a1 + 3) (0, fo0)) (a1 + 4) (0, fo0)) (a1 + 5) (2, fo0)) (a1 + 13) (2, fo0)) a1 (8, croom0 a1)) a5 (9, fo0)) a9 (10, fo0)) A9 ob9 (0, 0, 0, 0, (fun _ => 0), 0) := ⟨fun r hr => p9.1 r (hal r hr), fun r q hr hq => p9.2 r q (hal r hr) (hal q hq)⟩
  have hPT : PT A9 ob9 0 0 0 0 (fun _ => 0) := by
    unfold PT
    rw [oR, oL 0 (by decide), oL 1 (by decide), oL 2 (by decide), oL 3 (by decide), w0, w1, w2, w3, wB, wS]
    exact ⟨⟨rfl, rfl, rfl, rfl, rfl, rfl⟩, ⟨rfl, rfl, rfl, rfl⟩, fun j hj => absurd hj (Nat.not_lt_zero _), fun j hj => absurd hj (Nat.not_lt_zero _), fun j hj => absurd hj (Nat.not_lt_zero _), fun j hj => absurd hj (Nat.not_lt_zero _), fun j hj => absurd hj (Nat.not_lt_zero _)⟩
  have hCT : CTo ob9 0 0 0 0 (fun _ => 0) (fun _ => ab0) := by
    show CT (ob9 rRm) (ob9 rBd) (ob9 rMd) _ _ _ _ _ _ _ 0 0 0 0 _ _
    rw [oR, oB, oM]
    refine ⟨⟨rfl, rfl, rfl⟩, ⟨fun k hk => absurd hk (Nat.not_lt_zero _), fun k hk => absurd hk (Nat.not_lt_zero _)⟩, ⟨fun k hk => absurd hk (Nat.not_lt_zero _), fun k hk => absurd hk (Nat.not_lt_zero _)⟩, fun h1 hh1 => ⟨0, fun _ => 0, Nat.le_refl _, rfl, fun i hi => absurd hi (Nat.not_lt_zero _), fun i j _ hj => absurd hj (Nat.not_lt_zero _), fun i hi => absurd hi (Nat.not_lt_zero _), fun k hk => absurd hk (Nat.not_lt_zero _)⟩, fun k _ => ?_, ⟨⟨fun k _ => ?_, fun k hk => (by cases hk), List.Pairwise.nil⟩, ⟨fun k hk => (by cases hk), fun k hk => (by cases hk), ⟨(by decide : -((0 : Nat) : Int) ≤ (0 : Int32).toInt), (by decide : (0 : Int32).toInt ≤ 0)⟩, (by decide : 0 ≤ (0 : Int32).toInt), (by decide : (0 : Int32).toInt ≤ ((0 : Nat) : Int))⟩, ⟨rfl, fun i hi => (by cases hi), fun k _ => ?_, fun k hk => (by cases hk), fun k hk => (by cases hk)⟩⟩,
      fun e he => absurd he (Nat.not_lt_zero _), fun e _ _ => ⟨rfl, rfl, fun _ _ => rfl, fun _ _ => rfl, fun _ _ => rfl⟩, ⟨fun _ _ => rfl, fun _ _ => rfl, rfl⟩, ⟨fun p hp => absurd hp (Nat.not_lt_zero _), fun _ _ => rfl⟩⟩
    · show (0 : Int32) = 0 ↔ bL 0 k = false
      rw [bL_0]
      exact ⟨fun _ => rfl, fun _ => rfl⟩
    · show bL 0 k = _
      rw [bL_0]; rfl
    · show (0 : Int32) = if k ∈ ([] : List Nat) then 1 else 0
      rw [if_neg (by simp)]
  have hIV : IV _ A9 ob9 (0, 0, 0, 0, (fun _ => 0), 0) 0 0 0 0 (fun _ => ab0) := ⟨⟨hHP, hPT, ⟨Nat.le_refl _, Nat.le_refl _, Nat.le_refl _, Nat.le_refl _, Nat.le_refl _⟩, ⟨by decide, by decide, by decide, by decide⟩, fun e he => absurd he (Nat.not_lt_zero _)⟩, hCT⟩
  have key := law_loop (sc := sc) hL 513 0 rfl (by decide) _ A9 ob9 _ 0 0 0 0 _ hIV (Nat.le_refl _)
  rw [wR, wM, wO] at key
  exact key
end LAW
end
