section
/-! pure layer Q: calls that tell acts -/
theorem role_ne {q r : Rl} (h : q.1 ≠ r.1) : q ≠ r := fun e => h (congrArg Prod.fst e)
theorem shF_tl {o a : FO} {m hd j : Nat} {kd s x y : Int32} (h : shF a o j) : shF a (tl o m hd kd s x y) j := by
  unfold shF
  rw [tl_r (by decide : 9 < 11), tl_r (by decide : 9 < 12), tl_r (by decide : 9 < 13), tl_r (by decide : 9 < 14), tl_r (by decide : 9 < 15), tl_r (by decide : 9 < 16)]
  exact h
theorem WFS_tl {o : FO} {n m hd : Nat} {kd s x y : Int32} (h : WFS o n) : WFS (tl o m hd kd s x y) n := by
  unfold WFS
  rw [tl_r (by decide : 9 < 11), tl_r (by decide : 9 < 12), tl_r (by decide : 9 < 13), tl_r (by decide : 9 < 14), tl_r (by decide : 9 < 15)]
  exact h
theorem mCanT {o : FO} {s m : Nat} {F : AB} {b : Bool} {post : Int32 → Prop} (s40 : s < 40) (h20 : fA o 20 s = if s ∈ aO F then 1 else 0) (h17 : fA o 17 s = 0 ↔ b = false) (h1 : fI o 1 = nI m) (hc : s ∈ aO F ∧ b = false ∧ m < 200) (k : post 1) : wp_X8_canName (nI s) o post := by
  have hin : vp_in (nI s) 40 := vp_in_nI s40 (by decide)
  refine ⟨hin, ?_⟩
  rw [qn_cl (by omega), h20, if_pos hc.1, h1]
  exact ⟨fun z => absurd z (by decide), fun _ => ⟨hin, fun z => absurd (h17.mpr hc.2.1) z, fun _ => ⟨fun z => absurd z (nI_ge hc.2.2 (by decide)), fun _ => k⟩⟩⟩
theorem mCanF {o : FO} {s m : Nat} {F : AB} {b : Bool} {post : Int32 → Prop} (s40 : s < 40) (h20 : fA o 20 s = if s ∈ aO F then 1 else 0) (h17 : fA o 17 s = 0 ↔ b = false) (h1 : fI o 1 = nI m) (m200 : m ≤ 200) (hc : ¬ (s ∈ aO F ∧ b = false ∧ m < 200)) (k : post 0) : wp_X8_canName (nI s) o post := by
  have hin : vp_in (nI s) 40 := vp_in_nI s40 (by decide)
  refine ⟨hin, ?_⟩
  rw [qn_cl (by omega), h20, h1]
  by_cases hi : s ∈ aO F
  · rw [if_pos hi]
    refine ⟨fun z => absurd z (by decide), fun _ => ⟨hin, fun _ => k, fun z => ⟨fun _ => k, fun z2 => ?_⟩⟩⟩
    exfalso
    refine hc ⟨hi, h17.mp z, ?_⟩
    rcases Nat.lt_or_ge m 200 with y | y
    · exact y
    · exact absurd (nI_le y (by omega) : nI 200 ≤ nI m) z2
  · rw [if_neg hi]
    exact ⟨fun _ => k, fun z => absurd rfl z⟩
theorem w_canT {g : GH} {A : Rl → Nat} {ob : Rl → FO} {D : GD} {n m ne np s : Nat} {F : AB} {W H : Nat → Int32} {post : Prop} {px : String → Prop} (h : HQ g A ob D n m ne np) (hV : CV (ob rBd) F W H) (s40 : s < 40) (hc : s ∈ aO F ∧ bL (fL (ob rRm) 6) s = false ∧ m < 200) (k : post) : wp_X7_checkCanAct (A rRm) (nI s) g post px := by
  refine ⟨_, h.rm, _, h.bd, w_hasT s40 hV hc.1 (b1 ⟨_, h.rm, ?_⟩)⟩
  show (lg_cmp (fL (ob rRm) 6 &&& mkL s) 0 = 0 → _) ∧ (¬ lg_cmp (fL (ob rRm) 6 &&& mkL s) 0 = 0 → _)
  rw [bL_and (by omega)]
  exact ⟨fun _ => b0' ⟨_, h.rm, _, h.l1, by
    rw [h.n1]
    exact ⟨fun _ => k, fun z => absurd (nI_lt hc.2.2 (by decide)) z⟩⟩, fun z => absurd hc.2.1 z⟩
theorem w_canF {g : GH} {A : Rl → Nat} {ob : Rl → FO} {D : GD} {n m ne np s : Nat} {F : AB} {W H : Nat → Int32} {post : Prop} {px : String → Prop} (h : HQ g A ob D n m ne np) (hV : CV (ob rBd) F W H) (s40 : s < 40) (hc : ¬ (s ∈ aO F ∧ bL (fL (ob rRm) 6) s = false ∧ m < 200)) (k : px "java/lang/IllegalStateException") : wp_X7_checkCanAct (A rRm) (nI s) g post px := by
  have m200 := h.m200
  refine ⟨_, h.rm, _, h.bd, ?_⟩
  by_cases hi : s ∈ aO F
  · refine w_hasT s40 hV hi (b1 ⟨_, h.rm, ?_⟩)
    show (lg_cmp (fL (ob rRm) 6 &&& mkL s) 0 = 0 → _) ∧ (¬ lg_cmp (fL (ob rRm) 6 &&& mkL s) 0 = 0 → _)
    rw [bL_and (by omega)]
    refine ⟨fun z => b0' ⟨_, h.rm, _, h.l1, ?_⟩, fun _ => b1' k⟩
    rw [h.n1]
    refine ⟨fun z2 => ?_, fun _ => k⟩
    exfalso
    refine hc ⟨hi, z, ?_⟩
    rcases Nat.lt_or_ge m 200 with y | y
    · exact y
    · have := nI_le y (by omega)
      have z2 : nI m < nI 200 := z2
      rw [q_lt] at z2; rw [q_le] at this; omega
  · exact w_hasF s40 hV hi (b0 k)
/-- the class tells an act: the new object, the list, the board -/
theorem cl_tell {g : GH} {A : Rl → Nat} {ob : Rl → FO} {D : GD} {n m ne np hd a8 : Nat} {E : Nat → AB} {o0 : FO} {kd s f1 f2 x y : Int32} {rest : GH → Prop} (hQ : HQ g A ob D n m ne np)
    (hC : CT (ob rRm) (ob rBd) o0 (fun j => ob (rSh j)) (fun j => ob (rAc j)) (fun j => ob (rEd j)) (fun j => ob (rWn j)) (fun j => ob (rKb j)) (fun j => ob (rPy j)) (fun e j => ob (rCp e j)) n m ne np D.2.2.2.2.1 E)
    (ha : g a8 = none) (hh : hd < 6) (m200 : m < 200) (hs : ∃ q, q < n ∧ s = nI q) (hk : ∃ q, q < 8 ∧ kd = nI q) (hmv : kd = 1 → (-24 ≤ x.toInt ∧ x.toInt ≤ 24) ∧ (-16 ≤ y.toInt ∧ y.toInt ≤ 16)) (hj : kd = 5 → ∃ t, t < n ∧ x = nI t ∧ x ≠ s)
    (had : kd = 0 → ∀ j, j < m → fA o0 2 j = 0 → fA o0 4 j ≠ s) (hf1 : (kd = 1 ∨ kd = 2 ∨ kd = 5) → f1 = x) (hf2 : kd = 1 → f2 = y)
    (K : ∀ g' A' ob' D', HQ g' A' ob' D' n (m + 1) ne np → (A' rRm = A rRm ∧ A' rMd = A rMd ∧ A' rOut = A rOut) → (ob' rRm = ob rRm ∧ ob' rMd = ob rMd ∧ ob' rOut = ob rOut) → WFA (tl o0 m hd kd s x y) n (m + 1) →
      CV (ob' rBd) (abFold (tl o0 m hd kd s x y) (m + 1)) (fA o0 12) (fA o0 13) → CG (ob' rBd) (abFold (tl o0 m hd kd s x y) (m + 1)) (m + 1) →
      (∀ q g19 g20 g21 g22 g23 g24, MR q g19 g20 g21 g22 g23 g24 (abFold (tl o0 m hd kd s x y) (m + 1)) → CT (ob' rRm) (ob' rBd) (brd (tl o0 m hd kd s x y) q g19 g20 g21 g22 g23 g24) (fun j => ob' (rSh j)) (fun j => ob' (rAc j)) (fun j => ob' (rEd j)) (fun j => ob' (rWn j)) (fun j => ob' (rKb j)) (fun j => ob' (rPy j)) (fun e j => ob' (rCp e j)) n (m + 1) ne np D'.2.2.2.2.1 E) → rest g') :
    ∀ g9, g9 = hu g a8 (1, fo0) → ∃ o12, g9 a8 = some (1, o12) ∧ wp_X0_init (nI hd) kd s f1 f2 o12 (fun o14 => ∀ g15, g15 = hu g9 a8 (1, o14) → ∃ o17, g15 (A rRm) = some (8, o17) ∧ wp_X7_tell (A rRm) a8 g15 rest) := by
  rintro _ rfl
  refine ⟨_, hu_s, ?_⟩
  rintro _ rfl _ rfl _ rfl _ rfl _ rfl _ rfl
  rintro _ rfl
  rw [hu_hu]
  obtain ⟨X, hX⟩ : ∃ X, X = sI (sI (sI (sI (sI (sI fo0 5 1) 0 (nI hd)) 1 kd) 2 s) 3 f1) 4 f2 := ⟨_, rfl⟩
  rw [← hX]
  have h1 := hQ.newAc (x := X) ha
  have eA : ∀ q : Rl, q.1 ≠ 4 → rup A (rAc m) a8 q = A q := fun q hq => rup_k hq
  have eO : ∀ q : Rl, q.1 ≠ 4 → rup ob (rAc m) X q = ob q := fun q hq => rup_k hq
  have hrm := h1.rm
  rw [eA rRm (by decide)] at hrm
  have hA : WFA (tl o0 m hd kd s x y) n (m + 1) := hC.2.2.1.1.tl hh hs hk hmv hj had
  have hacm : acF X (tl o0 m hd kd s x y) m := by
    unfold acF
    rw [tl_2, tl_3, tl_4, tl_5, tl_6, tl_7, if_pos (rfl : m = m), if_pos (rfl : m = m), if_pos (rfl : m = m), if_pos (rfl : m = m), if_pos (rfl : m = m), if_pos (rfl : m = m), hX]
    exact ⟨rfl, rfl, rfl, hf1, hf2, rfl⟩
  have key := w_tell (hd := hd) (o := tl o0 m hd kd s x y) (post := rest) h1 (Nat.lt_succ_self m) m200 (by rw [rup_s, hX]; rfl) (by rw [rup_s]; exact hacm) (fun j hj => by rw [eO (rSh j) (by decide : ¬ (3 : Nat) = 4)]; exact shF_tl (hC.2.1.2 j hj)) hA (WFS_tl hC.2.1.1) (by rw [tl_7, if_pos rfl])
    (by rw [eO rBd (by decide), tl_fold, tl_r (by decide : 9 < 12), tl_r (by decide : 9 < 13)]; exact hC.2.2.2.2.2.1.1) (by rw [eO rBd (by decide), tl_fold]; exact hC.2.2.2.2.2.1.2.1) (fun g' ob' q1 q2 q3 q4 q5 => ?_)
  · rw [eA rRm (by decide), rup_s] at key
    exact ⟨_, hrm, key⟩
  · have q2' : ∀ q : Rl, q.1 ≠ 2 → q.1 ≠ 1 → q.1 ≠ 4 → ob' q = ob q := fun q a b c => by
      rw [q2 q (role_ne a) (role_ne b) (fun z => c z.1)]
      exact eO q c
    have qm : ob' (rAc m) = X := by
      rw [q2 (rAc m) (role_ne (by decide : ¬ (4 : Nat) = 2)) (role_ne (by decide : ¬ (4 : Nat) = 1)) (fun z => Nat.lt_irrefl _ z.2), rup_s]
    rw [tl_r (by decide : 9 < 12), tl_r (by decide : 9 < 13)] at q4
    refine K g' (rup A (rAc m) a8) ob' (D.1, m + 1, D.2.2) q1 ⟨eA _ (by decide), eA _ (by decide), eA _ (by decide)⟩ ⟨q2' _ (by decide) (by decide) (by decide), q2' _ (by decide) (by decide) (by decide), q2' _ (by decide) (by decide) (by decide)⟩ hA q4 q5 fun q g19 g20 g21 g22 g23 g24 hM => ?_
    have f3 : (fun j => ob' (rSh j)) = fun j => ob (rSh j) := funext fun j => q2' _ (by decide : ¬ (3 : Nat) = 2) (by decide : ¬ (3 : Nat) = 1) (by decide : ¬ (3 : Nat) = 4)
    have f5 : (fun j => ob' (rEd j)) = fun j => ob (rEd j) := funext fun j => q2' _ (by decide : ¬ (5 : Nat) = 2) (by decide : ¬ (5 : Nat) = 1) (by decide : ¬ (5 : Nat) = 4)
    have f6 : (fun j => ob' (rWn j)) = fun j => ob (rWn j) := funext fun j => q2' _ (by decide : ¬ (6 : Nat) = 2) (by decide : ¬ (6 : Nat) = 1) (by decide : ¬ (6 : Nat) = 4)
    have f7 : (fun j => ob' (rKb j)) = fun j => ob (rKb j) := funext fun j => q2' _ (by decide : ¬ (7 : Nat) = 2) (by decide : ¬ (7 : Nat) = 1) (by decide : ¬ (7 : Nat) = 4)
    have f10 : (fun j => ob' (rPy j)) = fun j => ob (rPy j) := funext fun j => q2' _ (by decide : ¬ (10 : Nat) = 2) (by decide : ¬ (10 : Nat) = 1) (by decide : ¬ (10 : Nat) = 4)
    have f9 : (fun e j => ob' (rCp e j)) = fun e j => ob (rCp e j) := funext fun e => funext fun j => q2' _ (by decide : ¬ (9 : Nat) = 2) (by decide : ¬ (9 : Nat) = 1) (by decide : ¬ (9 : Nat) = 4)
    rw [f3, f5, f6, f7, f10, f9, q2' rRm (by decide) (by decide) (by decide)]
    refine hC.tell hh (fun k hk => ?_) (by show acF (ob' (rAc m)) _ m; rw [qm]; exact hacm) (by show fI (ob' (rAc m)) 6 = 0; rw [qm, hX]; rfl) hA q4 q5 hM
    have ek : rup ob (rAc m) X (rAc k) = ob (rAc k) := rup_j (show k ≠ m by omega)
    have := q3 k hk
    rw [ek] at this
    exact this
theorem h20_of {n : Nat} {o : FO} {F : AB} {b : Nat} (hM : ∀ k, k < 40 → fA o 20 k = if k ∈ aO F then 1 else 0) (hw : ABW n F b) : ∀ k, n ≤ k → k < 40 → fA o 20 k = 0 := fun k h1 h2 => by
  rw [hM k h2, if_neg fun z => by have := (hw.2 k z).1; omega]
end
