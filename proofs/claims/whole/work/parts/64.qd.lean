section
/-! pure layer D: the class's board: what it says, and reading it -/
def sAr (o : FO) (k : Nat) (f : Nat → Int32) : FO := (o.1, o.2.1, o.2.2.1, va_up o.2.2.2.1 k f, o.2.2.2.2)
def sBr (o : FO) (k : Nat) (f : Nat → Int64) : FO := (o.1, o.2.1, o.2.2.1, o.2.2.2.1, va_up o.2.2.2.2 k f)
theorem qs_fIrA (o : FO) (k j : Nat) (f : Nat → Int32) : fI (sAr o k f) j = fI o j := rfl
theorem qs_fLrA (o : FO) (k j : Nat) (f : Nat → Int32) : fL (sAr o k f) j = fL o j := rfl
theorem qs_fRrA (o : FO) (k j : Nat) (f : Nat → Int32) : fR (sAr o k f) j = fR o j := rfl
theorem qs_fArA (o : FO) (k j : Nat) (f : Nat → Int32) : fA (sAr o k f) j = if j = k then f else fA o j := rfl
theorem qs_fBrA (o : FO) (k j : Nat) (f : Nat → Int32) : fB (sAr o k f) j = fB o j := rfl
theorem qs_fIrB (o : FO) (k j : Nat) (f : Nat → Int64) : fI (sBr o k f) j = fI o j := rfl
theorem qs_fLrB (o : FO) (k j : Nat) (f : Nat → Int64) : fL (sBr o k f) j = fL o j := rfl
theorem qs_fRrB (o : FO) (k j : Nat) (f : Nat → Int64) : fR (sBr o k f) j = fR o j := rfl
theorem qs_fArB (o : FO) (k j : Nat) (f : Nat → Int64) : fA (sBr o k f) j = fA o j := rfl
theorem qs_fBrB (o : FO) (k j : Nat) (f : Nat → Int64) : fB (sBr o k f) j = if j = k then f else fB o j := rfl
theorem va_uu {α : Type} (f : Nat → α) (k : Nat) (x y : α) : va_up (va_up f k x) k y = va_up f k y := by
  funext j; unfold va_up; split <;> rfl
theorem va_ux {α : Type} (f : Nat → α) (k : Nat) : va_up f k (f k) = f := by
  funext j; unfold va_up; split
  · rename_i e; rw [e]
  · rfl
theorem sAr_sA (o : FO) (k i : Nat) (f : Nat → Int32) (x : Int32) : sA (sAr o k f) k i x = sAr o k (va_up f i x) := by
  show (o.1, o.2.1, o.2.2.1, va_up (va_up o.2.2.2.1 k f) k (va_up (va_up o.2.2.2.1 k f k) i x), o.2.2.2.2) = (o.1, o.2.1, o.2.2.1, va_up o.2.2.2.1 k (va_up f i x), o.2.2.2.2)
  rw [va_uu, qs_up, if_pos rfl]
theorem sBr_sB (o : FO) (k i : Nat) (f : Nat → Int64) (x : Int64) : sB (sBr o k f) k i x = sBr o k (va_up f i x) := by
  show (o.1, o.2.1, o.2.2.1, o.2.2.2.1, va_up (va_up o.2.2.2.2 k f) k (va_up (va_up o.2.2.2.2 k f k) i x)) = (o.1, o.2.1, o.2.2.1, o.2.2.2.1, va_up o.2.2.2.2 k (va_up f i x))
  rw [va_uu, qs_up, if_pos rfl]
theorem sAr_id (o : FO) (k : Nat) : sAr o k (fA o k) = o := by
  show (o.1, o.2.1, o.2.2.1, va_up o.2.2.2.1 k (o.2.2.2.1 k), o.2.2.2.2) = o
  rw [va_ux]
theorem sBr_id (o : FO) (k : Nat) : sBr o k (fB o k) = o := by
  show (o.1, o.2.1, o.2.2.1, o.2.2.2.1, va_up o.2.2.2.2 k (o.2.2.2.2 k)) = o
  rw [va_ux]
/-- what a class board shows: places, colours and layers -/
def CV (ob : FO) (A : AB) (W H : Nat → Int32) : Prop :=
  (∀ k, k < 64 → bL (fL ob 7) k = decide (k ∈ aO A)) ∧ (∀ k, k ∈ aO A → fA ob 0 k = aC A k ∧ fA ob 1 k = aR A k ∧ fA ob 2 k = W k ∧ fA ob 3 k = H k ∧ fA ob 4 k = aK A k) ∧
  (aO A).Pairwise (fun j k => fA ob 5 j < fA ob 5 k)
/-- its groups, and the bounds of its layers -/
def CG (ob : FO) (A : AB) (t : Nat) : Prop :=
  (∀ j, j ∈ aO A → ∀ k, k < 64 → bL (fB ob 6 j) k = decide (k ∈ aO A ∧ aL A k = aL A j)) ∧ (∀ j, j ∈ aO A → (fI ob 9).toInt ≤ (fA ob 5 j).toInt ∧ (fA ob 5 j).toInt ≤ (fI ob 8).toInt) ∧
  (-(t : Int) ≤ (fI ob 9).toInt ∧ (fI ob 9).toInt ≤ 0) ∧ (0 ≤ (fI ob 8).toInt ∧ (fI ob 8).toInt ≤ t)
theorem br_bp {b : Bool} {c : Prop} {post : Int32 → Prop} (e : c ↔ b = false) (h : post (if b then 1 else 0)) : (c → post 0) ∧ (¬ c → post 1) := by
  cases b
  · exact ⟨fun _ => h, fun n => absurd (e.mpr rfl) n⟩
  · exact ⟨fun z => absurd (e.mp z) (by decide), fun _ => h⟩
theorem w_has {k : Nat} (hk : k < 40) {o : FO} {post : Int32 → Prop} (h : post (if bL (fL o 7) k then 1 else 0)) : wp_X1_has (nI k) o post :=
  ⟨fun h => absurd h (nI_pos (n31 hk)), fun _ => ⟨fun h => absurd h (qn_le (N := 40) hk), fun _ => br_bp (bL_and (by omega)) h⟩⟩
theorem w_hasT {k : Nat} (hk : k < 40) {o : FO} {A : AB} {W H : Nat → Int32} {post : Int32 → Prop} (hV : CV o A W H) (hi : k ∈ aO A) (h : post 1) : wp_X1_has (nI k) o post := by
  refine w_has hk ?_
  rw [hV.1 k (by omega), decide_eq_true hi]
  exact h
theorem w_hasF {k : Nat} (hk : k < 40) {o : FO} {A : AB} {W H : Nat → Int32} {post : Int32 → Prop} (hV : CV o A W H) (hi : k ∉ aO A) (h : post 0) : wp_X1_has (nI k) o post := by
  refine w_has hk ?_
  rw [hV.1 k (by omega), decide_eq_false hi]
  exact h
theorem w_groupSize {k : Nat} (hk : k < 40) {o : FO} {A : AB} {W H : Nat → Int32} {post : Int32 → Prop} (hV : CV o A W H) (hi : k ∈ aO A) (h : post (nI (fb_ct (bL (fB o 6 k)) 64))) : wp_X1_groupSize (nI k) o post := by
  refine w_hasT hk hV hi ⟨fun z => absurd z (by decide), fun _ => ⟨vp_in_nI hk (by decide), ?_⟩⟩
  rw [qn_cl (by omega)]
  exact q_bc h
theorem w_countBelow {s : Nat} (hs : s < 40) {o : FO} {A : AB} {W H : Nat → Int32} {post : Int32 → Prop} (hV : CV o A W H) (h : post (nI (fb_ct (fun k => decide (k ∈ aO A ∧ fA o 5 k < fA o 5 s)) 40))) : wp_X1_countBelow (nI s) o post := by
  refine lq1 (fun n i x => wp_X1_countBelow_4 (nI s) o post n x i) (fun i x => x = nI (fb_ct (fun k => decide (k ∈ aO A ∧ fA o 5 k < fA o 5 s)) i)) 40 (by decide) ?_ ?_ 0 0 (by decide) rfl
  · rintro n x rfl
    exact ⟨fun _ => h, fun z => absurd (Int32.le_refl _) z⟩
  · rintro n i x hi rfl kk
    refine ⟨fun z => absurd z (qn_le (N := 40) hi), fun _ => ?_⟩
    by_cases e : i ∈ aO A
    · refine w_hasT hi hV e ⟨fun z => absurd z (by decide), fun _ => ⟨vp_in_nI hi (by decide), vp_in_nI hs (by decide), ?_⟩⟩
      rw [qn_cl (by omega), qn_cl (by omega)]
      refine ⟨fun z => kk _ ?_, fun z => kk _ ?_⟩
      · have : ¬ (i ∈ aO A ∧ fA o 5 i < fA o 5 s) := fun y => by
          have := y.2; rw [q_lt] at this; rw [q_le] at z; omega
        rw [fb_ct_succ, decide_eq_false this]; rfl
      · have : (i ∈ aO A ∧ fA o 5 i < fA o 5 s) := ⟨e, by rw [q_lt]; rw [q_le] at z; omega⟩
        rw [fb_ct_succ, decide_eq_true this, nI_1]; rfl
    · refine w_hasF hi hV e ⟨fun _ => kk _ ?_, fun z => absurd rfl z⟩
      have : ¬ (i ∈ aO A ∧ fA o 5 i < fA o 5 s) := fun y => e y.1
      rw [fb_ct_succ, decide_eq_false this]; rfl
/-! what covers a cell -/
def covs (A : AB) (W H : Nat → Int32) (c r : Int32) (s : Nat) : Bool := decide (¬ c < aC A s ∧ ¬ aC A s + W s ≤ c ∧ ¬ r < aR A s ∧ ¬ aR A s + H s ≤ r)
def visS (D : Nat → Bool) (A : AB) (W H : Nat → Int32) (c r : Int32) (s : Nat) : Bool := !D s && covs A W H c r s
theorem w_showing {k : Nat} (hk : k < 40) {m : Int64} {o : FO} {A : AB} {W H : Nat → Int32} {post : Int32 → Prop} (hV : CV o A W H) (h1 : k ∈ aO A → bL m k = false → post 1) (h0 : (k ∉ aO A ∨ bL m k = true) → post 0) : wp_X1_isShowing (nI k) m o post := by
  by_cases e : k ∈ aO A
  · refine w_hasT hk hV e ⟨fun z => absurd z (by decide), fun _ => ?_⟩
    show (¬ lg_cmp (m &&& mkL k) 0 = 0 → post 0) ∧ (lg_cmp (m &&& mkL k) 0 = 0 → post 1)
    rw [bL_and (by omega)]
    exact ⟨fun z => h0 (Or.inr (by simpa using z)), fun z => h1 e z⟩
  · exact w_hasF hk hV e ⟨fun _ => h0 (Or.inl e), fun z => absurd rfl z⟩
theorem w_covering {k : Nat} (hk : k < 40) {c r : Int32} {o : FO} {A : AB} {W H : Nat → Int32} {post : Int32 → Prop} (hV : CV o A W H) (hi : k ∈ aO A) (h : post (if covs A W H c r k then 1 else 0)) : wp_X1_isCovering (nI k) c r o post := by
  obtain ⟨h0, h1, h2, h3, -⟩ := hV.2.1 k hi
  unfold wp_X1_isCovering
  rw [qn_cl (by omega), h0, h1, h2, h3]
  have hin : vp_in (nI k) 40 := vp_in_nI hk (by decide)
  unfold covs at h
  refine ⟨hin, fun a => ?_, fun a => ⟨hin, hin, fun b => ?_, fun b => ⟨hin, fun c' => ?_, fun c' => ⟨hin, hin, fun d => ?_, fun d => ?_⟩⟩⟩⟩
  · rw [decide_eq_false (fun z => z.1 a)] at h; exact h
  · rw [decide_eq_false (fun z => z.2.1 b)] at h; exact h
  · rw [decide_eq_false (fun z => z.2.2.1 c')] at h; exact h
  · rw [decide_eq_false (fun z => z.2.2.2 d)] at h; exact h
  · rw [decide_eq_true ⟨a, b, c', d⟩] at h; exact h
theorem w_uppermost {c r : Int32} {m : Int64} {o : FO} {A : AB} {W H : Nat → Int32} {post : Int32 → Prop} (hV : CV o A W H) (hO : ∀ k, k ∈ aO A → k < 40) (h : post (oI (topO (visS (bL m) A W H c r) (aO A)))) : wp_X1_uppermostAt c r m o post := by
  refine lq1 (fun n i x => wp_X1_uppermostAt_6 c r m o post n x i) (fun i x => ∃ q : Option Nat, x = oI q ∧ (q = none → ∀ k, k < i → k ∈ aO A → visS (bL m) A W H c r k = false) ∧ (∀ s, q = some s → s < i ∧ s ∈ aO A ∧ visS (bL m) A W H c r s = true ∧ ∀ k, k < i → k ∈ aO A → visS (bL m) A W H c r k = true → ¬ fA o 5 s < fA o 5 k)) 40 (by decide) ?_ ?_ 0 (-1) (by decide) ⟨none, rfl, fun _ k hk => by omega, fun s hs => by cases hs⟩
  · rintro n x ⟨q, rfl, hq1, hq2⟩
    refine ⟨fun _ => ?_, fun z => absurd (Int32.le_refl _) z⟩
    have : topO (visS (bL m) A W H c r) (aO A) = q := by
      cases q with
      | none => exact topO_none.mpr fun k hk => hq1 rfl k (hO k hk) hk
      | some s =>
        obtain ⟨-, s1, s2, s3⟩ := hq2 s rfl
        exact topO_of hV.2.2 s1 s2 fun k hk => s3 k (hO k hk) hk
    rw [this] at h
    exact h
  · rintro n i x hi ⟨q, rfl, hq1, hq2⟩ kk
    have hin : vp_in (nI i) 40 := vp_in_nI hi (by decide)
    have skip : (i ∉ aO A ∨ visS (bL m) A W H c r i = false) → wp_X1_uppermostAt_6 c r m o post n (oI q) (nI i + 1) := fun hno => by
      refine kk _ ⟨q, rfl, fun z k hk hm => ?_, fun s hs => ?_⟩
      · by_cases e : k = i
        · subst e; exact hno.resolve_left (fun y => y hm)
        · exact hq1 z k (by omega) hm
      · obtain ⟨s0, s1, s2, s3⟩ := hq2 s hs
        refine ⟨by omega, s1, s2, fun k hk hm hv => ?_⟩
        by_cases e : k = i
        · subst e; rw [hno.resolve_left (fun y => y hm)] at hv; cases hv
        · exact s3 k (by omega) hm hv
    have take : i ∈ aO A → visS (bL m) A W H c r i = true → (∀ s, q = some s → ¬ fA o 5 i ≤ fA o 5 s) → wp_X1_uppermostAt_6 c r m o post n (nI i) (nI i + 1) := fun hm hv hb => by
      refine kk _ ⟨some i, rfl, fun z => (by cases z), fun s hs => ?_⟩
      cases hs
      refine ⟨by omega, hm, hv, fun k hk hkm hkv hlt => ?_⟩
      by_cases e : k = i
      · subst e; exact Int32.lt_irrefl hlt
      · cases q with
        | none => rw [hq1 rfl k (by omega) hkm] at hkv; cases hkv
        | some s =>
          obtain ⟨-, s1, s2, s3⟩ := hq2 s rfl
          have a := hb s rfl
          have b := s3 k (by omega) hkm hkv
          rw [q_lt] at hlt b; rw [q_le] at a; omega
    refine ⟨fun z => absurd z (qn_le (N := 40) hi), fun _ => w_showing hi hV (fun e1 e2 => ⟨fun z => absurd z (by decide), fun _ => w_covering hi hV e1 ?_⟩) (fun e => ⟨fun _ => skip ?_, fun z => absurd rfl z⟩)⟩
    · cases ec : covs A W H c r i with
      | false => exact ⟨fun _ => skip (Or.inr (by simp [visS, ec])), fun z => absurd rfl z⟩
      | true =>
        have hv : visS (bL m) A W H c r i = true := by simp [visS, ec, e2]
        refine ⟨fun z => absurd z (by decide), fun _ => ⟨fun z => ?_, fun z => ⟨hin, ?_, ?_⟩⟩⟩
        · refine take e1 hv fun s hs => ?_
          subst hs
          have := (hq2 s rfl).2.1
          exact absurd z (by
            have hs40 := hO s this
            show ¬ nI s = -1
            intro y
            have := congrArg Int32.toInt y
            rw [q_nI (by omega)] at this
            have e : (-1 : Int32).toInt = -1 := by decide
            omega)
        · cases q with
          | none => exact absurd rfl z
          | some s => exact vp_in_nI (hO s (hq2 s rfl).2.1) (by decide)
        · cases q with
          | none => exact absurd rfl z
          | some s =>
            have hs40 := hO s (hq2 s rfl).2.1
            show (fA o 5 (nI i).toNatClampNeg ≤ fA o 5 (nI s).toNatClampNeg → _) ∧ (¬ fA o 5 (nI i).toNatClampNeg ≤ fA o 5 (nI s).toNatClampNeg → _)
            rw [qn_cl (by omega), qn_cl (by omega)]
            refine ⟨fun z2 => ?_, fun z2 => take e1 hv fun s' hs' => by cases hs'; exact z2⟩
            show wp_X1_uppermostAt_6 c r m o post n (oI (some s)) (nI i + 1)
            refine kk _ ⟨some s, rfl, fun z => (by cases z), fun s' hs' => ?_⟩
            cases hs'
            obtain ⟨s0, s1, s2, s3⟩ := hq2 s rfl
            refine ⟨by omega, s1, s2, fun k hk hkm hkv => ?_⟩
            by_cases e : k = i
            · subst e; rw [q_lt]; rw [q_le] at z2; omega
            · exact s3 k (by omega) hkm hkv
    · rcases e with e | e
      · exact Or.inl e
      · exact Or.inr (by simp [visS, e])
end
