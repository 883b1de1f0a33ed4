section
/-! pure layer X: sharing and paying -/
def arS (ar : Nat → Int32) (e : Nat) : Nat → Int32
  | 0 => 0
  | i + 1 => arS ar e i + ar (6 * e + i)
def lft (ar : Nat → Int32) (e : Nat) (amt : Int32) : Nat → Int32
  | 0 => amt
  | i + 1 => lft ar e amt i - shP ar e amt i
theorem arS_6 (ar : Nat → Int32) (e : Nat) : arS ar e 6 = arSum ar e := rfl
theorem lft_6 (ar : Nat → Int32) (e : Nat) (amt : Int32) : lft ar e amt 6 = shL ar e amt := rfl
theorem shr_cong {fr ar f g : Nat → Int32} {e h : Nat} {amt : Int32} (hf : f h = g h) : shr fr ar e amt f h = shr fr ar e amt g h := by
  unfold shr
  rw [hf]
theorem pyF_cong {fr ar f g : Nat → Int32} {py : FO} {ne : Nat} (hv : (fI py 0 = -1 ∧ ∃ a, a < 6 ∧ fI py 1 = nI a) ∨ ∃ e, e < ne ∧ fI py 0 = nI e) (hf : ∀ h, h < 6 → f h = g h) : ∀ h, h < 6 → pyF fr ar py f h = pyF fr ar py g h := fun h hh => by
  unfold pyF
  rcases hv with ⟨z, a, ha, ea⟩ | ⟨e, -, -⟩
  · rw [if_pos z, if_pos z, ea, qn_cl (by omega), qs_up, qs_up, hf a ha, hf h hh]
  · split
    · rename_i z
      rw [qs_up, qs_up]
      by_cases c : h = (fI py 1).toNatClampNeg
      · rw [if_pos c, if_pos c, ← c, hf h hh]
      · rw [if_neg c, if_neg c, hf h hh]
    · exact shr_cong (hf h hh)
/-- what sharing needs of the editions -/
def shOK (ob : Rl → FO) (fr ar : Nat → Int32) (ne : Nat) : Prop := ∀ e, e < ne → (∀ h, h < 6 → fA (ob (rEd e)) 4 h = ar (6 * e + h)) ∧ fI (ob (rEd e)) 5 = arSum ar e ∧ ¬ fI (ob (rEd e)) 5 ≤ 0 ∧ ∃ f, f < 6 ∧ fI (ob (rEd e)) 0 = nI f ∧ fr e = nI f
theorem le_of_eq0 {x : Int32} (h : ¬ x ≤ 0) : ¬ x = 0 := fun z => h (by rw [z]; exact Int32.le_refl _)
theorem shr_val {fr ar f : Nat → Int32} {e h fz : Nat} {amt : Int32} (hf : fr e = nI fz) (hz : fz < 6) : shr fr ar e amt f h = if h = fz then f h + shP ar e amt h + shL ar e amt else f h + shP ar e amt h := by
  unfold shr
  rw [hf, qn_cl (by omega)]
  by_cases c : h = fz
  · rw [if_pos c, if_pos c]
  · rw [if_neg c, if_neg c, Int32.add_zero]
section SHR
variable {g : GH} {A : Rl → Nat} {ob : Rl → FO} {D : GD} {n m ne np : Nat}
theorem w_share {fr ar : Nat → Int32} {e k1 f1 : Nat} {amt : Int32} {post : GH → Prop} (h : HQ g A ob D n m ne np) (hS : shOK ob fr ar ne) (he : e < ne) (K : ∀ φ, (∀ j, j < 6 → φ j = shr fr ar e amt (fA (ob rRm) k1) j) → post (hu g (A rRm) (8, sAr (ob rRm) k1 φ))) : wp_X3_share (A (rEd e)) amt (A rRm) k1 f1 g post := by
  obtain ⟨s1, s2, s3, fz, s4, s5, s6⟩ := hS e he
  have g0 : hu g (A rRm) (8, sAr (ob rRm) k1 (fA (ob rRm) k1)) = g := by rw [sAr_id]; exact hu_id h.rm
  have st : ∀ φ, HQ (hu g (A rRm) (8, sAr (ob rRm) k1 φ)) A (rup ob rRm (sAr (ob rRm) k1 φ)) D n m ne np := fun φ => h.setRm _ rfl
  have rd : ∀ φ, hu g (A rRm) (8, sAr (ob rRm) k1 φ) (A rRm) = some (8, sAr (ob rRm) k1 φ) := fun φ => hu_s
  have red : ∀ φ, hu g (A rRm) (8, sAr (ob rRm) k1 φ) (A (rEd e)) = some (4, ob (rEd e)) := fun φ => by
    have := (st φ).edA he
    rwa [rup_k (show (rEd e).1 ≠ rRm.1 from (by decide : ¬ (5 : Nat) = 0))] at this
  have r1 : ∀ φ, fA (sAr (ob rRm) k1 φ) k1 = φ := fun φ => by rw [qs_fArA, if_pos rfl]
  have fin : ∀ φ, (∀ j, j < 6 → φ j = fA (ob rRm) k1 j + shP ar e amt j) → wp_X3_share_66 (A (rEd e)) amt (A rRm) k1 f1 post (lft ar e amt 6) (hu g (A rRm) (8, sAr (ob rRm) k1 φ)) := fun φ hφ => by
    have hz : vp_in (nI fz) 6 := vp_in_nI s4 (by decide)
    refine ⟨_, red φ, ?_⟩
    rw [s5]
    refine ⟨fun z => absurd z (nI_pos (by omega)), fun _ => ⟨_, red φ, _, rd φ, ?_⟩⟩
    rw [s5]
    refine ⟨fun z => absurd z (qn_le (N := 6) s4), fun _ => ⟨_, red φ, _, rd φ, by rw [s5]; exact hz, _, rd φ, by rw [s5]; exact hz, ?_⟩⟩
    rintro _ rfl
    rw [hu_hu, s5, qn_cl (by omega), sAr_sA, r1]
    refine K _ fun j hj => ?_
    rw [qs_up, shr_val s6 s4, hφ fz s4, ← lft_6]
    by_cases c : j = fz
    · subst c; rw [if_pos rfl, if_pos rfl]
    · rw [if_neg c, if_neg c]; exact hφ j hj
  have key := lq2 (fun n' i x g' => wp_X3_share_5 (A (rEd e)) amt (A rRm) k1 f1 post n' x i g') (fun i x g' => x = lft ar e amt i ∧ ∃ φ, g' = hu g (A rRm) (8, sAr (ob rRm) k1 φ) ∧ (∀ j, j < i → φ j = fA (ob rRm) k1 j + shP ar e amt j) ∧ ∀ j, i ≤ j → φ j = fA (ob rRm) k1 j) 6 (by decide) ?_ ?_ 0 amt g (by decide) ⟨rfl, _, g0.symm, fun j hj => by omega, fun j _ => rfl⟩
  · exact key
  · rintro n' x g' ⟨rfl, φ, rfl, i1, -⟩
    exact ⟨fun _ => fin φ i1, fun z => absurd (Int32.le_refl _) z⟩
  · rintro n' i x g' hi ⟨rfl, φ, rfl, i1, i2⟩ kk
    have hin : vp_in (nI i) 6 := vp_in_nI hi (by decide)
    have h6 := qn_le (N := 6) hi
    refine ⟨fun z => absurd z h6, fun _ => ⟨_, rd φ, fun z => absurd z h6, fun _ => ⟨_, red φ, fun z => absurd z s3, fun _ => ⟨_, red φ, _, red φ, hin, _, red φ, le_of_eq0 s3, ?_⟩⟩⟩⟩
    have ev : (amt * fA (ob (rEd e)) 4 (nI i).toNatClampNeg) / fI (ob (rEd e)) 5 = shP ar e amt i := by
      rw [qn_cl (by omega), s1 i hi, s2]; rfl
    rw [ev]
    refine ⟨_, rd φ, hin, _, rd φ, hin, ?_⟩
    rintro _ rfl
    rw [hu_hu, qn_cl (by omega), sAr_sA, r1]
    refine kk _ _ ⟨rfl, _, rfl, fun j hj => ?_, fun j hj => ?_⟩
    · rw [qs_up]
      by_cases c : j = i
      · subst c; rw [if_pos rfl, i2 j (Nat.le_refl _)]
      · rw [if_neg c]; exact i1 j (by omega)
    · rw [qs_up, if_neg (by omega)]; exact i2 j (by omega)
theorem m_shares {o : FO} {e fz : Nat} {amt : Int32} {post : FO → Prop} (he : e < 8) (hz : fz < 6) (h26 : fA o 26 e = nI fz) (hne : ¬ arSum (fA o 35) e = 0) (K : ∀ φ, (∀ j, j < 6 → φ j = shr (fA o 26) (fA o 35) e amt (fA o 46) j) → post (sAr o 46 φ)) : wp_X8_shares (nI e) amt o post := by
  refine lq1 (fun n' i x => wp_X8_shares_5 (nI e) amt post n' x i o) (fun i x => x = arS (fA o 35) e i) 6 (by decide) ?_ ?_ 0 0 (by decide) rfl
  · rintro n' x rfl
    refine ⟨fun _ => ?_, fun z => absurd (Int32.le_refl _) z⟩
    rw [arS_6]
    have r46 : ∀ φ, fA (sAr o 46 φ) 46 = φ := fun φ => by rw [qs_fArA, if_pos rfl]
    refine lq2 (fun n' i x y => wp_X8_shares_39 (nI e) amt post n' (arSum (fA o 35) e) x i y) (fun i x y => x = lft (fA o 35) e amt i ∧ ∃ φ, y = sAr o 46 φ ∧ (∀ j, j < i → φ j = fA o 46 j + shP (fA o 35) e amt j) ∧ ∀ j, i ≤ j → φ j = fA o 46 j) 6 (by decide) ?_ ?_ 0 amt o (by decide) ⟨rfl, fA o 46, (sAr_id o 46).symm, fun j hj => by omega, fun j _ => rfl⟩
    · rintro n'' x y ⟨rfl, φ, rfl, i1, -⟩
      have e26 : fA (sAr o 46 φ) 26 (nI e).toNatClampNeg = nI fz := by rw [qn_cl (by omega)]; exact h26
      have hzin : vp_in (nI fz) 6 := vp_in_nI hz (by decide)
      refine ⟨fun _ => ⟨vp_in_nI he (by decide), by rw [e26]; exact hzin, by rw [e26]; exact hzin, ?_⟩, fun z => absurd (Int32.le_refl _) z⟩
      rintro _ rfl
      rw [e26, qn_cl (by omega), sAr_sA, r46]
      refine K _ fun j hj => ?_
      rw [qs_up, shr_val h26 hz, i1 fz hz, ← lft_6]
      by_cases c : j = fz
      · subst c; rw [if_pos rfl, if_pos rfl]
      · rw [if_neg c, if_neg c]; exact i1 j hj
    · rintro n'' i x y hi ⟨rfl, φ, rfl, i1, i2⟩ kk
      have hin : vp_in (nI i) 6 := vp_in_nI hi (by decide)
      refine ⟨fun z => absurd z (qn_le (N := 6) hi), fun _ => ?_⟩
      rw [q_ix6, qn_cl (show 6 * e + i < 2147483648 by omega), qn_cl (show i < 2147483648 by omega)]
      refine ⟨vp_in_nI (by omega) (by decide), hne, hin, hin, ?_⟩
      rintro _ rfl
      rw [sAr_sA, r46]
      refine kk _ _ ⟨rfl, _, rfl, fun j hj => ?_, fun j hj => ?_⟩
      · rw [qs_up]
        by_cases c : j = i
        · subst c; rw [if_pos rfl, i2 j (Nat.le_refl _)]; rfl
        · rw [if_neg c]; exact i1 j (by omega)
      · rw [qs_up, if_neg (by omega)]; exact i2 j (by omega)
  · rintro n' i x hi rfl kk
    refine ⟨fun z => absurd z (qn_le (N := 6) hi), fun _ => ?_⟩
    rw [q_ix6]
    refine ⟨vp_in_nI (by omega) (by decide), ?_⟩
    rw [qn_cl (by omega)]
    exact kk _ rfl
theorem w_pay {fr ar : Nat → Int32} {p k1 f1 : Nat} {post : GH → Prop} (h : HQ g A ob D n m ne np) (hS : shOK ob fr ar ne) (hal : p < D.2.2.2.2.2) (hv : (fI (ob (rPy p)) 0 = -1 ∧ ∃ a, a < 6 ∧ fI (ob (rPy p)) 1 = nI a) ∨ ∃ e, e < ne ∧ fI (ob (rPy p)) 0 = nI e)
    (K : ∀ φ, (∀ j, j < 6 → φ j = pyF fr ar (ob (rPy p)) (fA (ob rRm) k1) j) → post (hu g (A rRm) (8, sAr (ob rRm) k1 φ))) : wp_X7_payHands (A rRm) (A (rPy p)) (A rRm) k1 f1 g post := by
  have ne8 := h.ne8
  have gp : g (A (rPy p)) = some (5, ob (rPy p)) := h.1.get _ (al_Py hal)
  refine ⟨_, gp, _, h.rm, ?_⟩
  rcases hv with ⟨e0, a, ha, ea⟩ | ⟨e, he, ee⟩
  · have hin : vp_in (nI a) 6 := vp_in_nI ha (by decide)
    rw [e0]
    refine w_isEdF h (fun ⟨s, hs, z⟩ => oI_ne (s := s) (by omega) z.symm) (b0 ⟨_, gp, ?_⟩)
    rw [ea]
    refine ⟨fun z => absurd z (nI_pos (by omega)), fun _ => ⟨_, gp, _, h.rm, ?_⟩⟩
    rw [ea]
    refine ⟨fun z => absurd z (qn_le (N := 6) ha), fun _ => ⟨_, gp, _, h.rm, by rw [ea]; exact hin, _, gp, _, h.rm, by rw [ea]; exact hin, ?_⟩⟩
    rintro _ rfl
    have e1 : sA (ob rRm) k1 (nI a).toNatClampNeg (fA (ob rRm) k1 (nI a).toNatClampNeg + fI (ob (rPy p)) 2) = sAr (ob rRm) k1 (va_up (fA (ob rRm) k1) a (fA (ob rRm) k1 a + fI (ob (rPy p)) 2)) := by
      rw [qn_cl (by omega)]
      conv => lhs; rw [← sAr_id (ob rRm) k1]
      rw [sAr_sA, qs_fArA, if_pos rfl]
    rw [ea, e1]
    refine K _ fun j hj => ?_
    unfold pyF
    rw [if_pos e0, ea, qn_cl (by omega)]
  · rw [ee]
    refine w_isEdT h he (b1 ⟨_, h.rm, _, gp, _, h.l2, by rw [ee]; exact h.in2 he, ?_⟩)
    rw [ee]
    refine ⟨_, h.ed he, _, gp, _, h.ed he, ?_⟩
    rw [h.ped he]
    refine w_share h hS he fun φ hφ => K φ fun j hj => ?_
    unfold pyF
    rw [if_neg (by rw [ee]; exact oI_ne (by omega)), ee, qn_cl (by omega)]
    exact hφ j hj
theorem w_enter {fr ar : Nat → Int32} {post : GH → Prop} (h : HQ g A ob D n m ne np) (hS : shOK ob fr ar ne) (hal : np < D.2.2.2.2.2) (h512 : np < 512) (hv : (fI (ob (rPy np)) 0 = -1 ∧ ∃ a, a < 6 ∧ fI (ob (rPy np)) 1 = nI a) ∨ ∃ e, e < ne ∧ fI (ob (rPy np)) 0 = nI e)
    (K : ∀ g' ob' φ, HQ g' A ob' D n m ne (np + 1) → ob' rRm = sAr (ob rRm) 7 φ → (∀ q : Rl, q.1 ≠ 0 → q.1 ≠ 1 → ob' q = ob q) → (∀ j, j < 6 → φ j = pyF fr ar (ob (rPy np)) (fA (ob rRm) 7) j) → post g') : wp_X7_enter (A rRm) (A (rPy np)) g post := by
  refine ⟨_, h.rm, _, h.rm, w_pay h hS hal hv fun φ hφ => ?_⟩
  have h1 := h.setRm (sAr (ob rRm) 7 φ) rfl
  refine ⟨_, h1.rm, _, h1.l3, ?_⟩
  rw [h1.n3]
  refine ⟨fun z => absurd z (qn_le (N := 512) h512), fun _ => ⟨_, h1.rm, _, h1.l3, ?_, fun j hj => ?_, ⟨5, _, by decide, h1.1.get (rPy np) (al_Py hal)⟩, ?_⟩⟩
  · rw [h1.n3]; exact vp_in_nI h512 (by decide)
  · rw [h1.n3, qn_cl (by omega)] at hj
    exact ⟨5, _, by decide, by rw [h1.2.1.2.2.2.2.2.1 j hj]; exact h1.1.get _ (h1.alPy hj)⟩
  · rintro _ rfl
    have h2 := h1.addPy hal h512
    refine K _ _ φ h2 ?_ (fun q a b => ?_) hφ
    · rw [rup_k (show rRm.1 ≠ (rLs 3).1 by decide), rup_s]
    · rw [rup_k (show q.1 ≠ (rLs 3).1 from b), rup_k (show q.1 ≠ rRm.1 from a)]
end SHR
section CMA
variable {g : GH} {A : Rl → Nat} {ob : Rl → FO} {D : GD} {n m ne np : Nat} {E : Nat → AB} {K : GH → Prop}
theorem IV.shOK (h : IV g A ob D n m ne np E) : shOK ob (fA (ob rMd) 26) (fA (ob rMd) 35) ne := fun e he => by
  obtain ⟨-, ⟨f, f1, f2, f3⟩, -, ⟨a1, a2, a3⟩, -⟩ := h.ed he
  exact ⟨a1, a2, a3, f, f1, f2, f3⟩
theorem c_moneyAnew (h : IV g A ob D n m ne np E) (k : ∀ g', NX A np g' → K g') (p : Int32) {post : Int32 → GH → Prop} (hp : ∀ xx g', (∃ o, g' (A rMd) = some (9, o) ∧ wp_X8_moneyAnew p o (fun v o' => LW (A rMd) (A rOut) K xx v o' g')) → post xx g') : wp_L_moneyAnew (A rRm) p (A rOut) g post := by
  by_cases hs : ∃ y, y < 6 ∧ p = nI y
  · obtain ⟨y, hy, rfl⟩ := hs
    have np512 := h.1.np512
    have hin : vp_in (nI y) 6 := vp_in_nI hy (by decide)
    have g0 : hu g (A rRm) (8, sAr (ob rRm) 8 (fA (ob rRm) 8)) = g := by rw [sAr_id]; exact hu_id h.1.rm
    have st : ∀ φ, IV (hu g (A rRm) (8, sAr (ob rRm) 8 φ)) A (rup ob rRm (sAr (ob rRm) 8 φ)) D n m ne np E := fun φ => ⟨h.1.setRm _ rfl, h.2⟩
    have r8 : ∀ φ, fA (sAr (ob rRm) 8 φ) 8 = φ := fun φ => by rw [qs_fArA, if_pos rfl]
    refine ⟨_, h.1.rm, w_handT hy ⟨_, h.1.rm, _, h.1.rm, ?_⟩⟩
    refine lq1 (fun n' i g' => wp_J7_fill_53178_5 (A rRm) 8 22 0 (fun g4 => wp_X7_moneyAnew_14 (A rRm) (nI y) (fun r1 g5 => ∃ o7, g5 (A rOut) = some (10, o7) ∧ ∀ g9, g9 = hu g5 (A rOut) (10, sB o7 0 0 r1.toInt64) → post 0 g9) (fun E9 g4 => (E9 = "java/lang/IndexOutOfBoundsException" ∧ post 1 g4)) 1000 0 g4) n' i 6 g') (fun i g' => ∃ φ, g' = hu g (A rRm) (8, sAr (ob rRm) 8 φ) ∧ ∀ j, j < i → φ j = 0) 6 (by decide) ?_ ?_ 0 g (by decide) ⟨_, g0.symm, fun j hj => by omega⟩
    · rintro n' g' ⟨φ, rfl, i1⟩
      refine ⟨fun _ => ?_, fun z => absurd (Int32.le_refl _) z⟩
      refine lq1 (fun n' i g' => wp_X7_moneyAnew_14 (A rRm) (nI y) (fun r1 g5 => ∃ o7, g5 (A rOut) = some (10, o7) ∧ ∀ g9, g9 = hu g5 (A rOut) (10, sB o7 0 0 r1.toInt64) → post 0 g9) (fun E9 g4 => (E9 = "java/lang/IndexOutOfBoundsException" ∧ post 1 g4)) n' i g') (fun i g' => ∃ φ, g' = hu g (A rRm) (8, sAr (ob rRm) 8 φ) ∧ ∀ j, j < 6 → φ j = pyAll (fA (ob rMd) 26) (fA (ob rMd) 35) (fun p => ob (rPy p)) i j) np (by omega) ?_ ?_ 0 _ (by omega) ⟨φ, rfl, fun j hj => i1 j hj⟩
      · rintro n'' g' ⟨ψ, rfl, j1⟩
        have hs := st ψ
        refine ⟨_, hs.1.rm, _, hs.1.l3, ?_⟩
        rw [hs.1.n3]
        refine ⟨fun _ => ⟨_, hs.1.rm, _, hs.1.rm, hin, ?_⟩, fun z => absurd (Int32.le_refl _) z⟩
        have hout := hs.1.out
        rw [rup_k (show rOut.1 ≠ rRm.1 by decide)] at hout
        have hmd := hs.1.md
        rw [rup_k (show rMd.1 ≠ rRm.1 by decide)] at hmd
        refine ⟨_, hout, ?_⟩
        rw [rup_s, qn_cl (by omega), r8, j1 y hy]
        have e7 : pyAll (fA (ob rMd) 26) (fA (ob rMd) 35) (fun p => ob (rPy p)) np y = fA (ob rMd) 46 y := (h.pyy.2 y hy).trans (h.mo.1 y hy)
        rw [e7]
        rintro _ rfl
        refine hp 0 _ ⟨_, by rw [hu_n (fun z => h.om z.symm)]; exact hmd, m_hand1 hy (b1 ?_)⟩
        rintro _ rfl
        refine t_ok rfl ⟨hin, ?_⟩
        rw [qn_cl (by omega)]
        have hq := hs.qV k (v := fA (ob rMd) 46 y) (x := sB (ob rOut) 0 0 (fA (ob rMd) 46 y).toInt64) rfl
        rw [rup_k (show rMd.1 ≠ rRm.1 by decide)] at hq
        exact hq
      · rintro n'' i g' hi ⟨ψ, rfl, j1⟩ kk
        have hs := st ψ
        refine ⟨_, hs.1.rm, _, hs.1.l3, ?_⟩
        rw [hs.1.n3]
        refine ⟨fun z => absurd z (nI_ge hi (by omega)), fun _ => ⟨_, hs.1.rm, _, hs.1.l3, hs.1.in3 hi, _, hs.1.py hi, _, hs.1.rm, _, hs.1.rm, ?_⟩⟩
        rw [hs.1.ppy hi]
        have hO : shOK (rup ob rRm (sAr (ob rRm) 8 ψ)) (fA (ob rMd) 26) (fA (ob rMd) 35) ne := h.shOK
        refine w_pay hs.1 hO (Nat.lt_of_lt_of_le hi h.1.2.2.1.2.2.2.2) (h.pyy.1 i hi) fun χ hχ => ?_
        rw [hu_hu, rup_s]
        have e2 : sAr (sAr (ob rRm) 8 ψ) 8 χ = sAr (ob rRm) 8 χ := FO_ext (fun _ => rfl) (fun _ => rfl) (fun _ => rfl) (fun q => by rw [qs_fArA, qs_fArA, qs_fArA]; split <;> rfl) (fun _ => rfl)
        rw [e2]
        rw [rup_s, r8] at hχ
        refine kk _ ⟨χ, rfl, fun j hj => ?_⟩
        rw [hχ j hj]
        exact pyF_cong (h.pyy.1 i hi) j1 j hj
    · rintro n' i g' hi ⟨φ, rfl, i1⟩ kk
      refine ⟨fun z => absurd z (qn_le (N := 6) hi), fun _ => ⟨_, hu_s, vp_in_nI hi (by decide), ?_⟩⟩
      rintro _ rfl
      rw [hu_hu, qn_cl (by omega), sAr_sA]
      refine kk _ ⟨_, rfl, fun j hj => ?_⟩
      rw [qs_up]
      by_cases c : j = i
      · rw [if_pos c]
      · rw [if_neg c]; exact i1 j (by omega)
  · refine ⟨_, h.1.rm, w_handF hs ⟨rfl, hp 1 _ ⟨_, h.md, m_hand0 hs (b0 ?_)⟩⟩⟩
    rintro _ rfl
    exact t_no (Or.inl rfl) (h.qT k (by decide))
end CMA
end
