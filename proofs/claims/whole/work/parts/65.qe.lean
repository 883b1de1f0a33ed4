section
/-! pure layer E: columns that a row shows, and counting cells -/
theorem q_m1 : (-1 : Int32).toInt = -1 := by decide
theorem q_24 : (24 : Int32).toInt = 24 := by decide
theorem q_0 : (0 : Int32).toInt = 0 := by decide
/-- bounds of places that keep all sums small -/
def ABb (A : AB) (W H : Nat → Int32) : Prop := ∀ s, s ∈ aO A → s < 40 ∧ (∃ w, 1 ≤ w ∧ w ≤ 24 ∧ W s = nI w) ∧ (∃ w, 1 ≤ w ∧ w ≤ 16 ∧ H s = nI w) ∧ (-5000 ≤ (aC A s).toInt ∧ (aC A s).toInt ≤ 5000) ∧ (-5000 ≤ (aR A s).toInt ∧ (aR A s).toInt ≤ 5000)
theorem q_covs {A : AB} {W H : Nat → Int32} (hb : ABb A W H) {s : Nat} (hs : s ∈ aO A) {c r : Nat} (hc : c < 10000) (hr : r < 10000) :
    covs A W H (nI c) (nI r) s = decide ((aC A s).toInt ≤ c ∧ (c : Int) < (aC A s).toInt + (W s).toInt ∧ (aR A s).toInt ≤ r ∧ (r : Int) < (aR A s).toInt + (H s).toInt) := by
  obtain ⟨-, ⟨w, w1, w2, ew⟩, ⟨h, h1, h2, eh⟩, hC, hR⟩ := hb s hs
  unfold covs
  have ew' : (W s).toInt = w := by rw [ew, q_nI (by omega)]
  have eh' : (H s).toInt = h := by rw [eh, q_nI (by omega)]
  have e1 : (aC A s + W s).toInt = (aC A s).toInt + (W s).toInt := q_addI (by omega) (by omega)
  have e2 : (aR A s + H s).toInt = (aR A s).toInt + (H s).toInt := q_addI (by omega) (by omega)
  have ec : (nI c).toInt = c := q_nI (by omega)
  have er : (nI r).toInt = r := q_nI (by omega)
  refine decide_eq_decide.mpr ?_
  rw [q_lt, q_le, q_lt, q_le, e1, e2, ec, er]
  omega
theorem q_nn {x : Int32} (h : 0 ≤ x.toInt) : x = nI x.toInt.toNat := by
  apply q_inj
  have := Int32.toInt_lt x
  rw [q_nI (by omega)]
  omega
/-- the columns that one shape covers in a row -/
def colsOf (A : AB) (W H : Nat → Int32) (r : Int32) (s : Nat) (x : Int32) : Prop := ∀ j, j < 32 → bI x j = (decide (j < 24) && covs A W H (nI j) r s)
theorem w_columns {s : Nat} {r : Nat} {o : FO} {A : AB} {W H : Nat → Int32} {post : Int32 → Prop} (hV : CV o A W H) (hb : ABb A W H) (hi : s ∈ aO A) (hr : r < 1000) (h : ∀ x, colsOf A W H (nI r) s x → post x) : wp_X1_columnsCovered (nI s) (nI r) o post := by
  obtain ⟨g0, g1, g2, g3, -⟩ := hV.2.1 s hi
  obtain ⟨hs, ⟨w, w1, w2, ew⟩, ⟨t, t1, t2, et⟩, hC, hR⟩ := hb s hi
  unfold wp_X1_columnsCovered
  rw [qn_cl (by omega), g0, g1, g2, g3]
  have hin : vp_in (nI s) 40 := vp_in_nI hs (by decide)
  have ew' : (W s).toInt = w := by rw [ew, q_nI (by omega)]
  have et' : (H s).toInt = t := by rw [et, q_nI (by omega)]
  have e1 : (aC A s + W s).toInt = (aC A s).toInt + (W s).toInt := q_addI (by omega) (by omega)
  have e2 : (aR A s + H s).toInt = (aR A s).toInt + (H s).toInt := q_addI (by omega) (by omega)
  have er : (nI r).toInt = r := q_nI (by omega)
  have none0 : (∀ j : Nat, j < 24 → ¬ ((aC A s).toInt ≤ j ∧ (j : Int) < (aC A s).toInt + (W s).toInt ∧ (aR A s).toInt ≤ r ∧ (r : Int) < (aR A s).toInt + (H s).toInt)) → post 0 := fun hn => h 0 fun j hj => by
    rw [bI_0]
    by_cases e : j < 24
    · rw [q_covs hb hi (by omega) (by omega), decide_eq_false (hn j e)]; simp
    · simp [e]
  refine ⟨hin, fun a => none0 fun j _ z => ?_, fun a => ⟨hin, hin, fun b => ⟨hin, hin, hin, ?_⟩, fun b => none0 fun j _ z => ?_⟩⟩
  · rw [q_lt, er] at a; omega
  · rw [q_lt, er] at a b
    rw [e2] at b
    have hfrom : (if aC A s < 0 then 0 else aC A s) = nI (if (aC A s).toInt < 0 then 0 else (aC A s).toInt.toNat) := by
      by_cases e : (aC A s).toInt < 0
      · rw [if_pos (by rw [q_lt]; exact e), if_pos e]; rfl
      · rw [if_neg (by rw [q_lt]; exact e), if_neg e]; exact q_nn (by omega)
    have hto : (24 < (aC A s).toInt + (W s).toInt → (if 24 < aC A s + W s then 24 else aC A s + W s).toInt = 24) ∧ (¬ 24 < (aC A s).toInt + (W s).toInt → (if 24 < aC A s + W s then 24 else aC A s + W s).toInt = (aC A s).toInt + (W s).toInt) :=
      ⟨fun e => by rw [if_pos (by rw [q_lt, e1]; exact e)]; rfl, fun e => by rw [if_neg (by rw [q_lt, e1]; exact e), e1]⟩
    rw [hfrom]
    have hp2 : ((aC A s).toInt < 0 → (if (aC A s).toInt < 0 then 0 else (aC A s).toInt.toNat) = 0) ∧ (¬ (aC A s).toInt < 0 → ((if (aC A s).toInt < 0 then 0 else (aC A s).toInt.toNat : Nat) : Int) = (aC A s).toInt) :=
      ⟨fun e => if_pos e, fun e => by rw [if_neg e]; omega⟩
    generalize (if (aC A s).toInt < 0 then 0 else (aC A s).toInt.toNat) = p at hp2
    generalize (if 24 < aC A s + W s then 24 else aC A s + W s) = q at hto
    have hpb : p ≤ 5000 := by omega
    refine ⟨fun z => none0 fun j hj y => ?_, fun z => ?_⟩
    · rw [q_le, q_nI (by omega)] at z
      omega
    · rw [q_le, q_nI (by omega)] at z
      have hqq : q = nI q.toInt.toNat := q_nn (by omega)
      have hqv : (q.toInt.toNat : Int) = q.toInt := by omega
      generalize q.toInt.toNat = qn at hqq hqv
      have hqn : qn ≤ 24 := by omega
      have hpq : p < qn := by omega
      rw [hqq, pk_sub (by omega)]
      refine h _ fun j hj => ?_
      rw [bI_set (by omega) (by omega) hj]
      by_cases e : j < 24
      · rw [q_covs hb hi (by omega) (by omega)]
        simp only [e, decide_true, Bool.true_and]
        refine decide_eq_decide.mpr ?_
        omega
      · have : ¬ (p ≤ j ∧ j < p + (qn - p)) := by omega
        simp [e, this]
  · rw [q_lt, er, e2] at b; omega
/-- the columns in which a row shows a shape -/
def colsIn (D : Nat → Bool) (A : AB) (W H : Nat → Int32) (r : Int32) (s : Nat) (x : Int32) : Prop := ∀ j, j < 32 → bI x j = (decide (j < 24) && decide (topO (visS D A W H (nI j) r) (aO A) = some s))
theorem w_shown {s : Nat} {r : Nat} {m : Int64} {o : FO} {A : AB} {W H : Nat → Int32} {post : Int32 → Prop} (hV : CV o A W H) (hb : ABb A W H) (hs : s < 40) (hr : r < 1000) (h : ∀ x, colsIn (bL m) A W H (nI r) s x → post x) : wp_X1_columnsShown (nI s) (nI r) m o post := by
  unfold wp_X1_columnsShown
  refine w_showing hs hV (fun hi hd => ⟨fun _ => w_columns hV hb hi hr fun x0 hx0 => ?_, fun z => absurd z (by decide)⟩) (fun hno => ⟨fun z => absurd rfl z, fun _ => h 0 fun j hj => ?_⟩)
  · have fin : ∀ x, (∀ j, j < 32 → (bI x j = true ↔ (j < 24 ∧ covs A W H (nI j) (nI r) s = true ∧ ∀ k, k < 40 → k ∈ aO A → bL m k = false → fA o 5 s < fA o 5 k → covs A W H (nI j) (nI r) k = false))) → colsIn (bL m) A W H (nI r) s x := fun x hx j hj => by
      rw [Bool.eq_iff_iff, hx j hj]
      simp only [Bool.and_eq_true, decide_eq_true_eq]
      constructor
      · rintro ⟨a, b, c⟩
        refine ⟨a, topO_of hV.2.2 hi (by simp [visS, hd, b]) fun k hk hv hlt => ?_⟩
        have hv1 : bL m k = false := by
          cases e : bL m k with
          | false => rfl
          | true => simp [visS, e] at hv
        have hv2 : covs A W H (nI j) (nI r) k = true := by
          simp [visS, hv1] at hv; exact hv
        rw [c k (hb k hk).1 hk hv1 hlt] at hv2
        cases hv2
      · rintro ⟨a, b⟩
        have hv := (topO_mem b).2
        refine ⟨a, by simp [visS, hd] at hv; exact hv, fun k hk hm hd2 hlt => ?_⟩
        cases ec : covs A W H (nI j) (nI r) k with
        | false => rfl
        | true =>
          have hks : k ≠ s := fun z => by subst z; exact Int32.lt_irrefl hlt
          have := topO_max hV.2.2 b k hm (by simp [visS, hd2, ec]) hks
          rw [q_lt] at this hlt; omega
    refine lq1 (fun n i x => wp_X1_columnsShown_22 (nI s) (nI r) m o post n x i) (fun i x => ∀ j, j < 32 → (bI x j = true ↔ (j < 24 ∧ covs A W H (nI j) (nI r) s = true ∧ ∀ k, k < i → k ∈ aO A → bL m k = false → fA o 5 s < fA o 5 k → covs A W H (nI j) (nI r) k = false))) 40 (by decide) ?_ ?_ 0 x0 (by decide) ?_
    · intro n x hx
      exact ⟨fun _ => h x (fin x hx), fun z => absurd (Int32.le_refl _) z⟩
    · intro n i x hi hx kk
      refine ⟨fun z => absurd z (qn_le (N := 40) hi), fun _ => ⟨fun z => ?_, fun _ => ?_⟩⟩
      · subst z
        refine h 0 (fin 0 fun j hj => ?_)
        rw [bI_0]
        refine ⟨fun z => (by cases z), fun z => ?_⟩
        have := (hx j hj).mpr ⟨z.1, z.2.1, fun k hk => z.2.2 k (by omega)⟩
        rw [bI_0] at this; cases this
      · have skip : (i ∈ aO A → bL m i = false → ¬ fA o 5 s < fA o 5 i) → wp_X1_columnsShown_22 (nI s) (nI r) m o post n x (nI i + 1) := fun hno => by
          refine kk x fun j hj => ?_
          rw [hx j hj]
          refine ⟨fun z => ⟨z.1, z.2.1, fun k hk hm hd2 hlt => ?_⟩, fun z => ⟨z.1, z.2.1, fun k hk => z.2.2 k (by omega)⟩⟩
          by_cases e : k = i
          · subst e; exact absurd hlt (hno hm hd2)
          · exact z.2.2 k (by omega) hm hd2 hlt
        refine w_showing hi hV (fun e1 e2 => ⟨fun z => absurd z (by decide), fun _ => ⟨vp_in_nI hi (by decide), vp_in_nI hs (by decide), ?_⟩⟩) (fun hno => ⟨fun _ => skip fun y1 y2 => ?_, fun z => absurd rfl z⟩)
        · rw [qn_cl (by omega), qn_cl (by omega)]
          refine ⟨fun z => skip fun _ _ y => ?_, fun z => w_columns hV hb e1 hr fun y hy => ?_⟩
          · rw [q_lt] at y; rw [q_le] at z; omega
          · show wp_X1_columnsShown_22 (nI s) (nI r) m o post n (x &&& (y ^^^ -1)) (nI i + 1)
            refine kk _ fun j hj => ?_
            have hlt : fA o 5 s < fA o 5 i := by rw [q_lt]; rw [q_le] at z; omega
            rw [bI_and, bI_not hj, hy j hj, Bool.and_eq_true, hx j hj]
            constructor
            · rintro ⟨⟨a, b, c⟩, d⟩
              simp only [a, decide_true, Bool.true_and, Bool.not_eq_true'] at d
              refine ⟨a, b, fun k hk hm hd2 hl => ?_⟩
              by_cases e : k = i
              · subst e; exact d
              · exact c k (by omega) hm hd2 hl
            · rintro ⟨a, b, c⟩
              refine ⟨⟨a, b, fun k hk => c k (by omega)⟩, ?_⟩
              rw [c i (by omega) e1 e2 hlt]; simp
        · rcases hno with e | e
          · exact absurd y1 e
          · rw [e] at y2; cases y2
    · intro j hj
      rw [hx0 j hj]
      simp only [Bool.and_eq_true, decide_eq_true_eq]
      exact ⟨fun z => ⟨z.1, z.2, fun k hk => by omega⟩, fun z => ⟨z.1, z.2.1⟩⟩
  · rw [bI_0]
    have : ¬ topO (visS (bL m) A W H (nI j) (nI r)) (aO A) = some s := fun z => by
      have := topO_mem z
      rcases hno with e | e
      · exact e this.1
      · simp [visS, e] at this
    simp [this]
/-! bits of an int -/
def uI (x : Int32) : Nat := x.toUInt32.toNat
theorem uI_lt (x : Int32) : uI x < 4294967296 := x.toUInt32.toNat_lt
theorem uI_add (x y : Int32) : uI (x + y) = (uI x + uI y) % 4294967296 := by
  show (x.toUInt32 + y.toUInt32).toNat = _
  exact UInt32.toNat_add _ _
theorem uI_and (x y : Int32) : uI (x &&& y) = uI x &&& uI y := by
  show (x.toUInt32 &&& y.toUInt32).toNat = _
  exact UInt32.toNat_and _ _
theorem uI_sub {x y : Int32} (h : uI y ≤ uI x) : uI (x - y) = uI x - uI y := by
  show (x.toUInt32 - y.toUInt32).toNat = _
  exact UInt32.toNat_sub_of_le _ _ (UInt32.le_iff_toNat_le.mpr h)
theorem uI_shr (x : Int32) (s : UInt32) : uI (x.toUInt32 >>> s).toInt32 = uI x / 2 ^ (s.toNat % 32) := by
  show (x.toUInt32 >>> s).toNat = _
  rw [UInt32.toNat_shiftRight, Nat.shiftRight_eq_div_pow]
  rfl
def bil (x : Int32) (k : Int32) : Int32 := (x.toUInt32 >>> (k.toUInt32 &&& Int32.toUInt32 31)).toInt32
def bi1 (x : Int32) : Int32 := x - (bil x 1 &&& 1431655765)
def bi2 (x : Int32) : Int32 := (x &&& 858993459) + (bil x 2 &&& 858993459)
def bi3 (x : Int32) : Int32 := (x + bil x 4) &&& 252645135
def bi4 (x : Int32) : Int32 := x + bil x 8
def bi5 (x : Int32) : Int32 := x + bil x 16
theorem bil_k (x : Int32) (k : Int32) {n d : Nat} (h : (k.toUInt32 &&& Int32.toUInt32 31).toNat % 32 = n) (hd : 2 ^ n = d) : uI (bil x k) = uI x / d := by
  unfold bil
  rw [uI_shr, h, hd]
theorem q_S1 {p0 p1 p2 p3 z : Nat} (h0 : p0 ≤ 8) (hz : z = p0 + 256 * p1 + 65536 * p2 + 16777216 * p3) : z / 256 = p1 + 256 * p2 + 65536 * p3 := by omega
theorem q_S2 {c0 c1 c2 c3 z : Nat} (h0 : c0 ≤ 16) (h1 : c1 ≤ 16) (hz : z = c0 + 256 * c1 + 65536 * c2 + 16777216 * c3) : z / 65536 = c2 + 256 * c3 := by omega
theorem q_S4 {d0 d1 d2 d3 : Nat} (h0 : d0 + d2 ≤ 32) : ((d0 + 256 * d1 + 65536 * d2 + 16777216 * d3) + (d2 + 256 * d3)) % 64 = d0 + d2 := by omega
theorem q_fold4 {p0 p1 p2 p3 z w1 w2 : Nat} (h0 : p0 ≤ 8) (h1 : p1 ≤ 8) (h2 : p2 ≤ 8) (h3 : p3 ≤ 8)
    (hz : z = p0 + 256 * p1 + 65536 * p2 + 16777216 * p3)
    (e1 : w1 = (z + z / 256) % 4294967296) (e2 : w2 = (w1 + w1 / 65536) % 4294967296) : w2 % 64 = p0 + p1 + p2 + p3 := by
  rw [q_S1 h0 hz, hz] at e1
  have f1 : w1 = (p0 + p1) + 256 * (p1 + p2) + 65536 * (p2 + p3) + 16777216 * p3 := by
    rw [Nat.mod_eq_of_lt (by clear e1 e2 hz; omega)] at e1
    rw [e1]
    clear e1 e2 hz
    omega
  clear e1 hz
  rw [q_S2 (by omega) (by omega) f1, f1] at e2
  rw [Nat.mod_eq_of_lt (by clear e2 f1; omega)] at e2
  rw [e2, q_S4 (by clear e2 f1; omega)]
  clear e2 f1
  omega
theorem q_bi {x : Int32} {post : Int32 → Prop} (k : post (nI (fb_ct (bI x) 32))) : wp_J6_bitCount_0f7a4 x post := by
  have e0 : wp_J6_bitCount_0f7a4 x post = post (bi5 (bi4 (bi3 (bi2 (bi1 x)))) &&& 63) := rfl
  rw [e0]
  have m1 : uI 1431655765 = qrep 85 4 := by decide +kernel
  have m2 : uI 858993459 = qrep 51 4 := by decide +kernel
  have m3 : uI 252645135 = qrep 15 4 := by decide +kernel
  have hx := uI_lt x
  have e1 : uI (bi1 x) = qs1 4 (uI x) := by
    unfold bi1 qs1
    have h1 : uI (bil x 1 &&& 1431655765) = (uI x / 2 &&& qrep 85 4) := by rw [uI_and, bil_k x 1 (n := 1) (by decide) rfl, m1]
    have h2 : (uI x / 2 &&& qrep 85 4) ≤ uI x / 2 := Nat.and_le_left
    rw [uI_sub (by rw [h1]; omega), h1]
  have h4 : qrep 51 4 = 858993459 := by decide +kernel
  have h3 : ∀ a, (a &&& qrep 51 4) ≤ qrep 51 4 := fun a => Nat.and_le_right
  have e2 : uI (bi2 (bi1 x)) = qs2 4 (qs1 4 (uI x)) := by
    unfold bi2
    rw [uI_add, uI_and, uI_and, bil_k _ 2 (n := 2) (by decide) rfl, m2, e1]
    exact Nat.mod_eq_of_lt (by
      have := h3 (qs1 4 (uI x))
      have := h3 (qs1 4 (uI x) / 2 ^ 2)
      omega)
  obtain ⟨-, hs⟩ := q_swar 4 (uI x)
  have h5 : qs2 4 (qs1 4 (uI x)) ≤ 1717986918 := by
    unfold qs2
    have := h3 (qs1 4 (uI x))
    have := h3 (qs1 4 (uI x) / 4)
    omega
  have e3 : uI (bi3 (bi2 (bi1 x))) = qbs 4 (uI x) := by
    unfold bi3
    rw [uI_and, uI_add, bil_k _ 4 (n := 4) (by decide) rfl, m3, e2, Nat.mod_eq_of_lt (by omega)]
    exact hs
  have e4 := uI_add (bi3 (bi2 (bi1 x))) (bil (bi3 (bi2 (bi1 x))) 8)
  rw [bil_k _ 8 (n := 8) (d := 256) (by decide) rfl, e3] at e4
  have e5 := uI_add (bi4 (bi3 (bi2 (bi1 x)))) (bil (bi4 (bi3 (bi2 (bi1 x)))) 16)
  rw [bil_k _ 16 (n := 16) (d := 65536) (by decide) rfl] at e5
  have hz : qbs 4 (uI x) = qp8 (uI x % 256) + 256 * qp8 (uI x / 256 % 256) + 65536 * qp8 (uI x / 256 / 256 % 256) + 16777216 * qp8 (uI x / 256 / 256 / 256 % 256) := by
    simp only [qbs]; omega
  have e7 := q_fold4 (qp8_le _) (qp8_le _) (qp8_le _) (qp8_le _) hz e4 e5
  have e8 : qtt 4 (uI x) = uI (bi5 (bi4 (bi3 (bi2 (bi1 x))))) % 64 := by
    refine Eq.trans ?_ e7.symm
    simp only [qtt]; omega
  have e9 := pk_and (bi5 (bi4 (bi3 (bi2 (bi1 x))))) (m := 63) 6 (by decide)
  have e11 : fb_ct (bI x) 32 = qtt 4 (uI x) := q_tt 4 (uI x)
  rw [e11, e8] at k
  rw [e9]
  exact k
/-- what a window's cell shows: the i-th cell of w columns from (c0, r0) -/
def cellT (D : Nat → Bool) (A : AB) (W H : Nat → Int32) (c0 r0 w i : Nat) : Option Nat := topO (visS D A W H (nI (c0 + i % w)) (nI (r0 + i / w))) (aO A)
def cellN (D : Nat → Bool) (A : AB) (W H : Nat → Int32) (c0 r0 w s n : Nat) : Nat := fb_ct (fun i => decide (cellT D A W H c0 r0 w i = some s)) n
theorem fb_ct_win {q : Nat → Bool} {c0 w : Nat} (hw : c0 + w ≤ 32) : fb_ct (fun j => decide (c0 ≤ j ∧ j < c0 + w) && q j) 32 = fb_ct (fun c => q (c0 + c)) w := by
  rw [show 32 = c0 + (32 - c0) by omega, fb_ct_split, show 32 - c0 = w + (32 - c0 - w) by omega, fb_ct_split]
  have h1 : fb_ct (fun j => decide (c0 ≤ j ∧ j < c0 + w) && q j) c0 = 0 := fb_ct_zero.mpr fun k hk => by
    have : ¬ (c0 ≤ k ∧ k < c0 + w) := by omega
    show (decide (c0 ≤ k ∧ k < c0 + w) && q k) = false
    rw [decide_eq_false this, Bool.false_and]
  have h2 : fb_ct (fun k => decide (c0 ≤ c0 + (w + k) ∧ c0 + (w + k) < c0 + w) && q (c0 + (w + k))) (32 - c0 - w) = 0 := fb_ct_zero.mpr fun k hk => by
    have : ¬ (c0 ≤ c0 + (w + k) ∧ c0 + (w + k) < c0 + w) := by omega
    show (decide (c0 ≤ c0 + (w + k) ∧ c0 + (w + k) < c0 + w) && q (c0 + (w + k))) = false
    rw [decide_eq_false this, Bool.false_and]
  have h3 : fb_ct (fun k => decide (c0 ≤ c0 + k ∧ c0 + k < c0 + w) && q (c0 + k)) w = fb_ct (fun c => q (c0 + c)) w := fb_ct_cong fun k hk => by
    have : (c0 ≤ c0 + k ∧ c0 + k < c0 + w) := by omega
    show (decide (c0 ≤ c0 + k ∧ c0 + k < c0 + w) && q (c0 + k)) = q (c0 + k)
    rw [decide_eq_true this, Bool.true_and]
  rw [h1, h2, h3]; omega
theorem w_countShown {g : GH} {aw ab : Nat} {wo o : FO} {c0 r0 w h s : Nat} {m : Int64} {A : AB} {W H : Nat → Int32} {post : Int32 → Prop} (hw : g aw = some (7, wo)) (ho : g ab = some (2, o))
    (e0 : fI wo 0 = nI c0) (e1 : fI wo 1 = nI r0) (e2 : fI wo 2 = nI w) (e3 : fI wo 3 = nI h) (hc : c0 < 24) (hcw : c0 + w ≤ 24) (hw1 : 1 ≤ w) (hrh : r0 + h ≤ 16) (hV : CV o A W H) (hb : ABb A W H) (hs : s < 40)
    (k : post (nI (cellN (bL m) A W H c0 r0 w s (w * h)))) : wp_X6_countShown aw ab (nI s) m g post := by
  refine ⟨wo, hw, wo, hw, ?_⟩
  rw [e0, e2]
  refine ⟨wo, hw, ?_⟩
  rw [e1]
  have key := lq1 (fun n i x => wp_X6_countShown_22 aw ab (nI s) m g post n ((((1 : Int32) <<< (nI w &&& 31)) - 1) <<< (nI c0 &&& 31)) x i) (fun i x => r0 ≤ i ∧ x = nI (cellN (bL m) A W H c0 r0 w s (w * (i - r0)))) (r0 + h) (by omega) ?_ ?_ r0 0 (by omega) ⟨Nat.le_refl _, by rw [Nat.sub_self, Nat.mul_zero]; rfl⟩
  · exact key
  · rintro n x ⟨-, rfl⟩
    refine ⟨wo, hw, wo, hw, ?_⟩
    rw [e1, e3, nI_add]
    refine ⟨fun _ => ?_, fun z => absurd (Int32.le_refl _) z⟩
    rw [show r0 + h - r0 = h by omega]
    exact k
  · rintro n i x hi ⟨hri, rfl⟩ kk
    refine ⟨wo, hw, wo, hw, ?_⟩
    rw [e1, e3, nI_add]
    refine ⟨fun z => absurd z (nI_ge hi (by omega)), fun _ => ⟨o, ho, w_shown hV hb hs (by omega) fun y hy => q_bi ?_⟩⟩
    rw [nI_add]
    refine kk _ ⟨by omega, ?_⟩
    have e4 : fb_ct (bI (((((1 : Int32) <<< (nI w &&& 31)) - 1) <<< (nI c0 &&& 31)) &&& y)) 32 = fb_ct (fun c => decide (cellT (bL m) A W H c0 r0 w (w * (i - r0) + c) = some s)) w := by
      have : fb_ct (bI (((((1 : Int32) <<< (nI w &&& 31)) - 1) <<< (nI c0 &&& 31)) &&& y)) 32 = fb_ct (fun j => decide (c0 ≤ j ∧ j < c0 + w) && (decide (j < 24) && decide (topO (visS (bL m) A W H (nI j) (nI i)) (aO A) = some s))) 32 := fb_ct_cong fun j hj => by
        rw [bI_and, bI_set hc hcw hj, hy j hj]
      rw [this, fb_ct_win (by omega)]
      refine fb_ct_cong fun c hcw2 => ?_
      have h1 : c0 + c < 24 := by omega
      have h2 : (w * (i - r0) + c) % w = c := by rw [Nat.mul_add_mod]; exact Nat.mod_eq_of_lt hcw2
      have h3 : (w * (i - r0) + c) / w = i - r0 := by rw [Nat.mul_add_div (by omega), Nat.div_eq_of_lt hcw2]; rfl
      unfold cellT
      rw [h2, h3, show r0 + (i - r0) = i by omega]
      simp [h1]
    rw [e4]
    unfold cellN
    rw [show w * (i + 1 - r0) = w * (i - r0) + w by rw [show i + 1 - r0 = (i - r0) + 1 by omega, Nat.mul_add, Nat.mul_one], fb_ct_split]
theorem cellN_le {D : Nat → Bool} {A : AB} {W H : Nat → Int32} {c0 r0 w s n : Nat} : cellN D A W H c0 r0 w s n ≤ n := fb_ct_le _ _
theorem q_area {w h c0 r0 : Nat} (hcw : c0 + w ≤ 24) (hrh : r0 + h ≤ 16) : w * h ≤ 384 := Nat.le_trans (Nat.mul_le_mul (show w ≤ 24 by omega) (show h ≤ 16 by omega)) (by decide)
theorem w_anyShown {g : GH} {aw ab : Nat} {wo o : FO} {c0 r0 w h : Nat} {m : Int64} {A : AB} {W H : Nat → Int32} {post : Int32 → Prop} (hw : g aw = some (7, wo)) (ho : g ab = some (2, o))
    (e0 : fI wo 0 = nI c0) (e1 : fI wo 1 = nI r0) (e2 : fI wo 2 = nI w) (e3 : fI wo 3 = nI h) (hc : c0 < 24) (hcw : c0 + w ≤ 24) (hw1 : 1 ≤ w) (hrh : r0 + h ≤ 16) (hV : CV o A W H) (hb : ABb A W H)
    (k1 : (∃ i, i < w * h ∧ cellT (bL m) A W H c0 r0 w i ≠ none) → post 1) (k0 : (∀ i, i < w * h → cellT (bL m) A W H c0 r0 w i = none) → post 0) : wp_X6_isAnyShown aw ab m g post := by
  refine lq0 (fun n i => wp_X6_isAnyShown_3 aw ab m g post n i) (fun i => ∀ s, s < i → cellN (bL m) A W H c0 r0 w s (w * h) = 0) 40 (by decide) ?_ ?_ 0 (by decide) (fun s hs => by omega)
  · intro n hI
    refine ⟨fun _ => k0 fun i hi => ?_, fun z => absurd (Int32.le_refl _) z⟩
    cases e : cellT (bL m) A W H c0 r0 w i with
    | none => rfl
    | some s =>
      have hs := (hb s (topO_mem e).1).1
      have := fb_ct_zero.mp (hI s hs) i hi
      simp [e] at this
  · intro n i hi hI kk
    refine ⟨fun z => absurd z (qn_le (N := 40) hi), fun _ => ⟨wo, hw, w_countShown hw ho e0 e1 e2 e3 hc hcw hw1 hrh hV hb hi ?_⟩⟩
    have hl : cellN (bL m) A W H c0 r0 w i (w * h) ≤ 384 := Nat.le_trans cellN_le (q_area hcw hrh)
    refine pk_le (cellN (bL m) A W H c0 r0 w i (w * h)) 0 (fun z => ?_) (fun z => ?_)
    · refine kk fun s hs => ?_
      by_cases e : s = i
      · subst e; omega
      · exact hI s (by omega)
    · obtain ⟨j, hj, e⟩ := fb_ct_pos.mp z
      exact k1 ⟨j, hj, by simp only [decide_eq_true_eq] at e; rw [e]; simp⟩
end
