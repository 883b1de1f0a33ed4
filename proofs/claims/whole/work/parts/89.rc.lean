section
/-! pure layer AC: the class measures a view and holds acts -/
def nam (o : FO) (k s : Nat) : Prop := fA o 4 k = nI s ∨ (fA o 2 k = 5 ∧ fA o 5 k = nI s)
def cAN (o : FO) (T : Nat → Option Nat) (i h c : Nat) : Bool := match T c with
  | none => false
  | some s => decide (s < i ∧ fA o 11 s = nI h)
def cTT (T : Nat → Option Nat) (i c : Nat) : Bool := match T c with
  | none => false
  | some s => decide (s < i)
theorem cAN_0 {o : FO} {T : Nat → Option Nat} {h N : Nat} : fb_ct (cAN o T 0 h) N = 0 := fb_ct_zero.mpr fun c _ => by
  unfold cAN
  split
  · rfl
  · exact decide_eq_false fun z => absurd z.1 (Nat.not_lt_zero _)
theorem cTT_0 {T : Nat → Option Nat} {N : Nat} : fb_ct (cTT T 0) N = 0 := fb_ct_zero.mpr fun c _ => by
  unfold cTT
  split
  · rfl
  · exact decide_eq_false (Nat.not_lt_zero _)
theorem cTT_s {T : Nat → Option Nat} {i N : Nat} : fb_ct (cTT T (i + 1)) N = fb_ct (cTT T i) N + fb_ct (fun c => decide (T c = some i)) N := by
  rw [← fb_ct_or (p := cTT T i) (q := fun c => decide (T c = some i)) (fun c _ z => by
    have z2 : T c = some i := of_decide_eq_true z.2
    have z1 := z.1
    unfold cTT at z1
    rw [z2] at z1
    have : i < i := of_decide_eq_true z1
    omega)]
  refine fb_ct_cong fun c _ => ?_
  unfold cTT
  cases e : T c with
  | none => simp
  | some s =>
    simp only [Option.some.injEq]
    rw [← Bool.decide_or]
    exact decide_eq_decide.mpr (by omega)
theorem cAN_y {o : FO} {T : Nat → Option Nat} {i h N : Nat} (hm : fA o 11 i = nI h) : fb_ct (cAN o T (i + 1) h) N = fb_ct (cAN o T i h) N + fb_ct (fun c => decide (T c = some i)) N := by
  rw [← fb_ct_or (p := cAN o T i h) (q := fun c => decide (T c = some i)) (fun c _ z => by
    have z2 : T c = some i := of_decide_eq_true z.2
    have z1 := z.1
    unfold cAN at z1
    rw [z2] at z1
    have : i < i ∧ fA o 11 i = nI h := of_decide_eq_true z1
    omega)]
  refine fb_ct_cong fun c _ => ?_
  unfold cAN
  cases e : T c with
  | none => simp
  | some s =>
    simp only [Option.some.injEq]
    rw [← Bool.decide_or]
    refine decide_eq_decide.mpr ⟨fun z => ?_, fun z => ?_⟩
    · by_cases c2 : s = i
      · exact Or.inr c2
      · exact Or.inl ⟨by omega, z.2⟩
    · rcases z with z | z
      · exact ⟨by omega, z.2⟩
      · subst z; exact ⟨by omega, hm⟩
theorem cAN_n {o : FO} {T : Nat → Option Nat} {i h N : Nat} (hm : ¬ fA o 11 i = nI h) : fb_ct (cAN o T (i + 1) h) N = fb_ct (cAN o T i h) N := fb_ct_cong fun c _ => by
  unfold cAN
  cases e : T c with
  | none => rfl
  | some s =>
    refine decide_eq_decide.mpr ⟨fun z => ?_, fun z => ⟨by omega, z.2⟩⟩
    by_cases c2 : s = i
    · subst c2; exact absurd z.2 hm
    · exact ⟨by omega, z.2⟩
section HM
variable {g : GH} {A : Rl → Nat} {ob : Rl → FO} {D : GD} {n m ne np : Nat}
theorem HQ.edN (h : HQ g A ob D n m ne np) (d1 : ne < D.2.2.1) {x : FO} (hx : fR x = fR (ob (rEd ne))) : HQ (hu g (A (rEd ne)) (4, x)) A (rup ob (rEd ne) x) D n m ne np := h.set (al_Ed d1) x (c := 4) rfl (fun _ => hx) ⟨(by decide : ¬ (5 : Nat) = 1), (by decide : ¬ (5 : Nat) = 8)⟩
theorem w_hold {k : Nat} (hk : k < 200) {o : FO} {post : FO → Prop} (h : post (sA o 6 k 1)) : wp_X3_hold (nI k) o post := by
  refine ⟨fun z => absurd z (nI_pos (by omega)), fun _ => ⟨fun z => absurd z (qn_le (N := 200) hk), fun _ => ⟨vp_in_nI hk (by decide), ?_⟩⟩⟩
  rintro _ rfl
  rw [qn_cl (by omega)]
  exact h
theorem w_addArea {a : Nat} {c : Int32} (ha : a < 6) {o : FO} {post : FO → Prop} (h : post (sI (sA o 4 a (fA o 4 a + c)) 5 (fI o 5 + c))) : wp_X3_addArea (nI a) c o post := by
  have hin : vp_in (nI a) 6 := vp_in_nI ha (by decide)
  refine ⟨fun z => absurd z (nI_pos (by omega)), fun _ => ⟨fun z => absurd z (qn_le (N := 6) ha), fun _ => ⟨hin, hin, ?_⟩⟩⟩
  rintro _ rfl _ rfl
  rw [qn_cl (by omega)]
  exact h
/-- an act names a shape -/
theorem w_naming {ac o : FO} {k s : Nat} {post : Int32 → Prop} (hac : acF ac o k) (h1 : nam o k s → post 1) (h0 : ¬ nam o k s → post 0) : wp_X0_isNaming (nI s) ac post := by
  obtain ⟨-, b1, b2, b3, -, -⟩ := hac
  unfold wp_X0_isNaming
  rw [b1, b2]
  refine ⟨fun z => h1 (Or.inl z), fun z => ⟨fun y => h0 fun x => ?_, fun y => ?_⟩⟩
  · rcases x with x | x
    · exact z x
    · exact y x.1
  · rw [b3 (Or.inr (Or.inr y))]
    exact ⟨fun x => h0 fun w => w.elim z (fun w => x w.2), fun x => h1 (Or.inr ⟨y, x⟩)⟩
theorem w_holdActs {o x : FO} {s : Nat} {post : GH → Prop} (h : HQ g A ob D n m ne np) (d1 : ne < D.2.2.1) (hac : ∀ k, k < m → acF (ob (rAc k)) o k) (hx : fR x = fR (ob (rEd ne)))
    (K : ∀ y, fR y = fR x → (∀ q, fI y q = fI x q) → fA y 4 = fA x 4 → (∀ k, k < 200 → (¬ fA y 6 k = 0 ↔ (¬ fA x 6 k = 0 ∨ (k < m ∧ ¬ fA o 7 k = 0 ∧ nam o k s)))) → post (hu g (A (rEd ne)) (4, y))) : wp_X7_holdActsOf (A rRm) (nI s) (A (rEd ne)) (hu g (A (rEd ne)) (4, x)) post := by
  have m200 := h.m200
  refine lq1 (fun n' i g' => wp_X7_holdActsOf_2 (A rRm) (nI s) (A (rEd ne)) post n' i g') (fun i g' => ∃ y, g' = hu g (A (rEd ne)) (4, y) ∧ fR y = fR x ∧ (∀ q, fI y q = fI x q) ∧ fA y 4 = fA x 4 ∧ ∀ k, k < 200 → (¬ fA y 6 k = 0 ↔ (¬ fA x 6 k = 0 ∨ (k < i ∧ ¬ fA o 7 k = 0 ∧ nam o k s)))) m (by omega) ?_ ?_ 0 _ (by omega) ⟨x, rfl, rfl, fun _ => rfl, rfl, fun k _ => ⟨Or.inl, fun z => z.elim id (fun w => absurd w.1 (Nat.not_lt_zero _))⟩⟩
  · rintro n' g' ⟨y, rfl, y1, y2, y3, y4⟩
    have h' := h.edN d1 (y1.trans hx)
    refine ⟨_, h'.rm, _, h'.l1, ?_⟩
    rw [h'.n1]
    exact ⟨fun _ => K y y1 y2 y3 y4, fun z => absurd (Int32.le_refl _) z⟩
  · rintro n' i g' hi ⟨y, rfl, y1, y2, y3, y4⟩ kk
    have h' := h.edN d1 (y1.trans hx)
    have eac : rup ob (rEd ne) y (rAc i) = ob (rAc i) := rup_k (by decide : ¬ (4 : Nat) = 5)
    have ha := hac i hi
    have skip : ¬ (¬ fA o 7 i = 0 ∧ nam o i s) → wp_X7_holdActsOf_48 (A rRm) (nI s) (A (rEd ne)) post (fun x3 g => wp_X7_holdActsOf_2 (A rRm) (nI s) (A (rEd ne)) post n' x3 g) (nI i) (hu g (A (rEd ne)) (4, y)) := fun z => kk _ ⟨y, rfl, y1, y2, y3, fun k hk => (y4 k hk).trans ⟨fun w => w.imp id (fun v => ⟨by omega, v.2⟩), fun w => w.imp id (fun v => by
      by_cases c : k = i
      · subst c; exact absurd v.2 z
      · exact ⟨by omega, v.2⟩)⟩⟩
    refine ⟨_, h'.rm, _, h'.l1, ?_⟩
    rw [h'.n1]
    refine ⟨fun z => absurd z (nI_ge hi (by omega)), fun _ => ⟨_, h'.rm, _, h'.l1, h'.in1 hi, _, h'.ac hi, _, h'.ac hi, ?_⟩⟩
    rw [eac, ha.2.2.2.2.2]
    refine ⟨fun z => skip fun w => w.1 z, fun z => ⟨_, h'.ac hi, ?_⟩⟩
    rw [eac]
    refine w_naming ha (fun hn => b1' ⟨_, hu_s, w_hold (by omega) ?_⟩ |> fun w => ⟨w.2, w.1⟩) (fun hn => b0 (skip fun w => hn w.2))
    rintro _ rfl
    rw [hu_hu]
    refine kk _ ⟨_, rfl, y1, y2, y3, fun k hk => ?_⟩
    show (¬ va_up (fA y 6) i 1 k = 0) ↔ _
    rw [qs_up]
    by_cases c : k = i
    · subst c
      rw [if_pos rfl]
      exact ⟨fun _ => Or.inr ⟨by omega, z, hn⟩, fun _ => by decide⟩
    · rw [if_neg c]
      exact (y4 k hk).trans ⟨fun w => w.imp id (fun v => ⟨by omega, v.2⟩), fun w => w.imp id (fun v => ⟨by omega, v.2⟩)⟩
theorem w_measure {o : FO} {F : AB} {c0 r0 w t : Nat} {post : GH → Prop} (h : HQ g A ob D n m ne np) (d1 : ne < D.2.2.1) (d2 : ne < D.2.2.2.1) (hW : fR (ob (rEd ne)) 1 = A (rWn ne)) (hac : ∀ k, k < m → acF (ob (rAc k)) o k) (hsh : ∀ j, j < n → shF (ob (rSh j)) o j) (hS : WFS o n)
    (e0 : fI (ob (rWn ne)) 0 = nI c0) (e1 : fI (ob (rWn ne)) 1 = nI r0) (e2 : fI (ob (rWn ne)) 2 = nI w) (e3 : fI (ob (rWn ne)) 3 = nI t) (hc : c0 < 24) (hcw : c0 + w ≤ 24) (hw1 : 1 ≤ w) (hrh : r0 + t ≤ 16)
    (hV : CV (ob rBd) F (fA o 12) (fA o 13)) (hb : ABb F (fA o 12) (fA o 13)) (z4 : ∀ j, fA (ob (rEd ne)) 4 j = 0) (z5 : fI (ob (rEd ne)) 5 = 0) (z6 : ∀ j, fA (ob (rEd ne)) 6 j = 0)
    (K : ∀ x, fR x = fR (ob (rEd ne)) → (∀ q, q ≠ 5 → fI x q = fI (ob (rEd ne)) q) → (∀ j, j < 6 → fA x 4 j = nI (fb_ct (cAN o (cellT (bL (fL (ob rRm) 6)) F (fA o 12) (fA o 13) c0 r0 w) n j) (w * t))) → fI x 5 = nI (fb_ct (cTT (cellT (bL (fL (ob rRm) 6)) F (fA o 12) (fA o 13) c0 r0 w) n) (w * t)) →
      (∀ k, k < 200 → (¬ fA x 6 k = 0 ↔ (k < m ∧ ¬ fA o 7 k = 0 ∧ ∃ s, s < n ∧ 0 < cellN (bL (fL (ob rRm) 6)) F (fA o 12) (fA o 13) c0 r0 w s (w * t) ∧ nam o k s))) → post (hu g (A (rEd ne)) (4, x))) : wp_X7_measureAndHold (A rRm) (A (rEd ne)) g post := by
  have n40 := h.n40
  have hed := h.1.get (rEd ne) (al_Ed d1)
  have g0 : hu g (A (rEd ne)) (4, ob (rEd ne)) = g := hu_id hed
  obtain ⟨T, hT⟩ : ∃ T, T = cellT (bL (fL (ob rRm) 6)) F (fA o 12) (fA o 13) c0 r0 w := ⟨_, rfl⟩
  have hN : ∀ s, cellN (bL (fL (ob rRm) 6)) F (fA o 12) (fA o 13) c0 r0 w s (w * t) = fb_ct (fun c => decide (T c = some s)) (w * t) := fun s => by rw [hT]; rfl
  rw [← hT] at K
  refine lq1 (fun n' i g' => wp_X7_measureAndHold_2 (A rRm) (A (rEd ne)) post n' i g') (fun i g' => ∃ x, g' = hu g (A (rEd ne)) (4, x) ∧ fR x = fR (ob (rEd ne)) ∧ (∀ q, q ≠ 5 → fI x q = fI (ob (rEd ne)) q) ∧ (∀ j, j < 6 → fA x 4 j = nI (fb_ct (cAN o T i j) (w * t))) ∧ fI x 5 = nI (fb_ct (cTT T i) (w * t)) ∧
    ∀ k, k < 200 → (¬ fA x 6 k = 0 ↔ (k < m ∧ ¬ fA o 7 k = 0 ∧ ∃ s, s < i ∧ 0 < cellN (bL (fL (ob rRm) 6)) F (fA o 12) (fA o 13) c0 r0 w s (w * t) ∧ nam o k s))) n (by omega) ?_ ?_ 0 g (by omega) ⟨ob (rEd ne), g0.symm, rfl, fun _ _ => rfl, fun j _ => by rw [z4, cAN_0]; rfl, by rw [z5, cTT_0]; rfl, fun k _ => ⟨fun z => absurd (z6 k) z, fun ⟨_, _, s, hs, _⟩ => absurd hs (Nat.not_lt_zero _)⟩⟩
  · rintro n' g' ⟨x, rfl, x1, x2, x3, x4, x5⟩
    have h' := h.edN d1 x1
    refine ⟨_, h'.rm, _, h'.l0, ?_⟩
    rw [h'.n0]
    exact ⟨fun _ => K x x1 x2 x3 x4 x5, fun z => absurd (Int32.le_refl _) z⟩
  · rintro n' i g' hi ⟨x, rfl, x1, x2, x3, x4, x5⟩ kk
    have h' := h.edN d1 x1
    have f5 : ∀ r : Rl, r.1 ≠ 5 → rup ob (rEd ne) x r = ob r := fun r hr => rup_k hr
    have hwn := h'.1.get (rWn ne) (al_Wn d2)
    rw [f5 (rWn ne) (by decide : ¬ (6 : Nat) = 5)] at hwn
    have hbd := h'.1.get rBd al_Bd
    rw [f5 rBd (by decide)] at hbd
    refine ⟨_, h'.rm, _, h'.l0, ?_⟩
    rw [h'.n0]
    have hx1 : fR x 1 = A (rWn ne) := by rw [x1]; exact hW
    refine ⟨fun z => absurd z (nI_ge hi (by omega)), fun _ => ⟨_, hu_s, _, h'.rm, _, h'.rm, ?_⟩⟩
    rw [hx1, h'.p4, f5 rRm (by decide)]
    refine ⟨_, hwn, w_countShown hwn hbd e0 e1 e2 e3 hc hcw hw1 hrh hV hb (by omega) ?_⟩
    have hle : cellN (bL (fL (ob rRm) 6)) F (fA o 12) (fA o 13) c0 r0 w i (w * t) ≤ 384 := Nat.le_trans cellN_le (q_area hcw hrh)
    obtain ⟨⟨a, ha, ea⟩, -⟩ := hS i hi
    refine pk_le (cellN (bL (fL (ob rRm) 6)) F (fA o 12) (fA o 13) c0 r0 w i (w * t)) 0 (fun z => ?_) (fun z => ⟨_, h'.rm, _, h'.l0, h'.in0 hi, _, h'.sh hi, _, h'.sh hi, _, hu_s, ?_⟩)
    · have zN : fb_ct (fun c => decide (T c = some i)) (w * t) = 0 := by rw [← hN]; omega
      refine kk _ ⟨x, rfl, x1, x2, fun j hj => ?_, ?_, fun k hk => (x5 k hk).trans ?_⟩
      · rw [x3 j hj]
        by_cases c : fA o 11 i = nI j
        · rw [cAN_y c, zN]; rfl
        · rw [cAN_n c]
      · rw [x4, cTT_s, zN]; rfl
      · refine and_congr_right fun _ => and_congr_right fun _ => ⟨fun ⟨s, s1, s2⟩ => ⟨s, by omega, s2⟩, fun ⟨s, s1, s2, s3⟩ => ⟨s, ?_, s2, s3⟩⟩
        by_cases c : s = i
        · subst c; omega
        · omega
    · rw [f5 (rSh i) (by decide : ¬ (3 : Nat) = 5), (hsh i hi).1, ea]
      refine w_addArea ha ?_
      rintro _ rfl
      rw [hu_hu]
      have h2 := h.edN d1 (x := sI (sA x 4 a (fA x 4 a + nI (cellN (bL (fL (ob rRm) 6)) F (fA o 12) (fA o 13) c0 r0 w i (w * t)))) 5 (fI x 5 + nI (cellN (bL (fL (ob rRm) 6)) F (fA o 12) (fA o 13) c0 r0 w i (w * t)))) x1
      refine ⟨_, h2.rm, w_holdActs h d1 hac x1 fun y y1 y2 y3 y4 => ?_⟩
      refine kk _ ⟨y, rfl, y1.trans x1, fun q hq => ?_, fun j hj => ?_, ?_, fun k hk => (y4 k hk).trans ?_⟩
      · rw [y2, qs_fIsI, if_neg hq]; exact x2 q hq
      · rw [y3]
        show va_up (fA x 4) a (fA x 4 a + nI _) j = _
        rw [qs_up]
        by_cases c : j = a
        · subst c
          rw [if_pos rfl, x3 j hj, cAN_y ea, hN, nI_add]
        · rw [if_neg c, x3 j hj, cAN_n (fun z => c (q_nIi (z.symm.trans ea) (by omega) (by omega)))]
      · rw [y2]
        show fI x 5 + nI _ = _
        rw [x4, cTT_s, hN, nI_add]
      · show (¬ fA x 6 k = 0 ∨ _) ↔ _
        rw [x5 k hk]
        constructor
        · rintro (⟨k1, k2, s, s1, s2⟩ | ⟨k1, k2, k3⟩)
          · exact ⟨k1, k2, s, by omega, s2⟩
          · exact ⟨k1, k2, i, by omega, z, k3⟩
        · rintro ⟨k1, k2, s, s1, s2, s3⟩
          by_cases c : s = i
          · subst c; exact Or.inr ⟨k1, k2, s3⟩
          · exact Or.inl ⟨k1, k2, s, by omega, s2, s3⟩
end HM
end
