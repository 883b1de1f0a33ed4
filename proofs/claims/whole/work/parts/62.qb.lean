section
/-! pure layer B: the board as it is meant -/
theorem q_addI {x y : Int32} (h1 : -2147483648 ≤ x.toInt + y.toInt) (h2 : x.toInt + y.toInt < 2147483648) : (x + y).toInt = x.toInt + y.toInt := by
  rw [Int32.toInt_add]; exact Int.bmod_eq_of_le (by omega) (by omega)
theorem q_subI {x y : Int32} (h1 : -2147483648 ≤ x.toInt - y.toInt) (h2 : x.toInt - y.toInt < 2147483648) : (x - y).toInt = x.toInt - y.toInt := by
  rw [Int32.toInt_sub]; exact Int.bmod_eq_of_le (by omega) (by omega)
theorem q_le {x y : Int32} : x ≤ y ↔ x.toInt ≤ y.toInt := Int32.le_iff_toInt_le
theorem q_lt {x y : Int32} : x < y ↔ x.toInt < y.toInt := Int32.lt_iff_toInt_lt
theorem q_nI {k : Nat} (h : k < 2147483648) : (nI k).toInt = (k : Int) := nI_toInt (by omega)
theorem q_inj {x y : Int32} (h : x.toInt = y.toInt) : x = y := Int32.toInt_inj.mp h
theorem q_nIi {a b : Nat} (h : nI a = nI b) (ha : a < 2147483648) (hb : b < 2147483648) : a = b := (nI_eq (by omega) (by omega)).mp h
/-- a list without one -/
def lrm (l : List Nat) (s : Nat) : List Nat := l.filter (fun k => k != s)
theorem mem_lrm {l : List Nat} {s k : Nat} : k ∈ lrm l s ↔ k ∈ l ∧ k ≠ s := by simp [lrm]
theorem lrm_nodup {l : List Nat} {s : Nat} (h : l.Nodup) : (lrm l s).Nodup := List.Pairwise.filter _ h
theorem lrm_len {l : List Nat} {s : Nat} (h : l.Nodup) (hs : s ∈ l) : (lrm l s).length + 1 = l.length := by
  induction l with
  | nil => cases hs
  | cons k l ih =>
    have hd := List.nodup_cons.mp h
    by_cases e : k = s
    · subst e
      have : lrm (k :: l) k = l := by
        unfold lrm
        rw [List.filter_cons_of_neg (by simp)]
        exact List.filter_eq_self.mpr fun a ha => by
          have : a ≠ k := fun z => hd.1 (z ▸ ha)
          simp [this]
      rw [this]; rfl
    · have h2 : lrm (k :: l) s = k :: lrm l s := by
        unfold lrm
        rw [List.filter_cons_of_pos (by simp [e])]
      rw [h2, List.length_cons, List.length_cons, ih hd.2 (by
        rcases List.mem_cons.mp hs with z | z
        · exact absurd z.symm e
        · exact z)]
theorem lrm_le (l : List Nat) (s : Nat) : (lrm l s).length ≤ l.length := List.length_filter_le _ _
/-- the board: shapes from below to above, columns, rows, colours, marks of groups, the next mark -/
abbrev AB : Type := List Nat × (Nat → Int32) × (Nat → Int32) × (Nat → Int32) × (Nat → Nat) × Nat
abbrev aO (A : AB) : List Nat := A.1
abbrev aC (A : AB) : Nat → Int32 := A.2.1
abbrev aR (A : AB) : Nat → Int32 := A.2.2.1
abbrev aK (A : AB) : Nat → Int32 := A.2.2.2.1
abbrev aL (A : AB) : Nat → Nat := A.2.2.2.2.1
abbrev aN (A : AB) : Nat := A.2.2.2.2.2
def ab0 : AB := ([], fun _ => 0, fun _ => 0, fun _ => 0, fun _ => 0, 0)
def abAdd (A : AB) (s : Nat) (c r k : Int32) : AB := (aO A ++ [s], va_up (aC A) s c, va_up (aR A) s r, va_up (aK A) s k, va_up (aL A) s (aN A), aN A + 1)
def abMove (A : AB) (s : Nat) (x y : Int32) : AB := (aO A, fun k => if aL A k = aL A s then aC A k + x else aC A k, fun k => if aL A k = aL A s then aR A k + y else aR A k, aK A, aL A, aN A)
def abPaint (A : AB) (s : Nat) (c : Int32) : AB := (aO A, aC A, aR A, va_up (aK A) s c, aL A, aN A)
def abUp (A : AB) (s : Nat) : AB := (lrm (aO A) s ++ [s], aC A, aR A, aK A, aL A, aN A)
def abDown (A : AB) (s : Nat) : AB := (s :: lrm (aO A) s, aC A, aR A, aK A, aL A, aN A)
def abJoin (A : AB) (s t : Nat) : AB := (aO A, aC A, aR A, aK A, fun k => if aL A k = aL A t then aL A s else aL A k, aN A)
def abPart (A : AB) (s : Nat) : AB := (aO A, aC A, aR A, aK A, va_up (aL A) s (aN A), aN A + 1)
def abDrop (A : AB) (s : Nat) : AB := (lrm (aO A) s, aC A, aR A, aK A, aL A, aN A)
/-- an act is done: rows 2 kind, 4 shape, 5 and 6 its numbers; 14, 15, 16 first place and colour -/
def abStep (o : FO) (k : Nat) (A : AB) : AB :=
  if fA o 2 k = 0 then abAdd A (fA o 4 k).toNatClampNeg (fA o 14 (fA o 4 k).toNatClampNeg) (fA o 15 (fA o 4 k).toNatClampNeg) (fA o 16 (fA o 4 k).toNatClampNeg)
  else if (fA o 4 k).toNatClampNeg ∈ aO A ∧ (fA o 2 k = 5 → (fA o 5 k).toNatClampNeg ∈ aO A) then
    if fA o 2 k = 1 then abMove A (fA o 4 k).toNatClampNeg (fA o 5 k) (fA o 6 k)
    else if fA o 2 k = 2 then abPaint A (fA o 4 k).toNatClampNeg (fA o 5 k)
    else if fA o 2 k = 5 then abJoin A (fA o 4 k).toNatClampNeg (fA o 5 k).toNatClampNeg
    else if fA o 2 k = 6 then abPart A (fA o 4 k).toNatClampNeg
    else if fA o 2 k = 3 then abUp A (fA o 4 k).toNatClampNeg
    else if fA o 2 k = 4 then abDown A (fA o 4 k).toNatClampNeg
    else abDrop A (fA o 4 k).toNatClampNeg
  else A
def abFold (o : FO) : Nat → AB
  | 0 => ab0
  | k + 1 => if fA o 7 k = 0 then abFold o k else abStep o k (abFold o k)
theorem abStep_cong {o o' : FO} {k : Nat} {A : AB} (h2 : fA o' 2 k = fA o 2 k) (h4 : fA o' 4 k = fA o 4 k) (h5 : fA o' 5 k = fA o 5 k) (h6 : fA o' 6 k = fA o 6 k)
    (h14 : fA o' 14 (fA o 4 k).toNatClampNeg = fA o 14 (fA o 4 k).toNatClampNeg) (h15 : fA o' 15 (fA o 4 k).toNatClampNeg = fA o 15 (fA o 4 k).toNatClampNeg) (h16 : fA o' 16 (fA o 4 k).toNatClampNeg = fA o 16 (fA o 4 k).toNatClampNeg) : abStep o' k A = abStep o k A := by
  unfold abStep
  rw [h2, h4, h5, h6, h14, h15, h16]
theorem abFold_cong {o o' : FO} {m : Nat} (h : ∀ k, k < m → fA o' 2 k = fA o 2 k ∧ fA o' 4 k = fA o 4 k ∧ fA o' 5 k = fA o 5 k ∧ fA o' 6 k = fA o 6 k ∧ fA o' 7 k = fA o 7 k ∧
    fA o' 14 (fA o 4 k).toNatClampNeg = fA o 14 (fA o 4 k).toNatClampNeg ∧ fA o' 15 (fA o 4 k).toNatClampNeg = fA o 15 (fA o 4 k).toNatClampNeg ∧ fA o' 16 (fA o 4 k).toNatClampNeg = fA o 16 (fA o 4 k).toNatClampNeg) : abFold o' m = abFold o m := by
  induction m with
  | zero => rfl
  | succ m ih =>
    obtain ⟨h2, h4, h5, h6, h7, h14, h15, h16⟩ := h m (Nat.lt_succ_self m)
    have ih := ih fun k hk => h k (Nat.lt_succ_of_lt hk)
    show (if fA o' 7 m = 0 then abFold o' m else abStep o' m (abFold o' m)) = (if fA o 7 m = 0 then abFold o m else abStep o m (abFold o m))
    rw [h7, ih, abStep_cong h2 h4 h5 h6 h14 h15 h16]
/-- what is known of a board after b acts: n shapes -/
def ABW (n : Nat) (A : AB) (b : Nat) : Prop := (aO A).Nodup ∧ ∀ s, s ∈ aO A → s < n ∧ aL A s < aN A ∧ (-(24 * (b : Int)) ≤ (aC A s).toInt ∧ (aC A s).toInt ≤ 24 * b + 24) ∧ (-(16 * (b : Int)) ≤ (aR A s).toInt ∧ (aR A s).toInt ≤ 16 * b + 16)
/-- what an act table says, m acts of n shapes -/
def WFA (o : FO) (n m : Nat) : Prop := ∀ k, k < m → (∃ s, s < n ∧ fA o 4 k = nI s) ∧ (∃ q, q < 8 ∧ fA o 2 k = nI q) ∧ (∃ h, h < 6 ∧ fA o 3 k = nI h) ∧ (fA o 7 k = 0 ∨ fA o 7 k = 1) ∧
  (fA o 2 k = 1 → (-24 ≤ (fA o 5 k).toInt ∧ (fA o 5 k).toInt ≤ 24) ∧ (-16 ≤ (fA o 6 k).toInt ∧ (fA o 6 k).toInt ≤ 16)) ∧ (fA o 2 k = 5 → ∃ t, t < n ∧ fA o 5 k = nI t ∧ fA o 5 k ≠ fA o 4 k) ∧ (fA o 2 k = 0 → ∀ j, j < k → fA o 2 j = 0 → fA o 4 j ≠ fA o 4 k)
def WFS (o : FO) (n : Nat) : Prop := ∀ k, k < n → (∃ h, h < 6 ∧ fA o 11 k = nI h) ∧ (∃ w, 1 ≤ w ∧ w ≤ 24 ∧ fA o 12 k = nI w) ∧ (∃ w, 1 ≤ w ∧ w ≤ 16 ∧ fA o 13 k = nI w) ∧ (∃ c, c < 24 ∧ fA o 14 k = nI c) ∧ (∃ c, c < 16 ∧ fA o 15 k = nI c)
theorem ABW.up {n : Nat} {A : AB} {b b' : Nat} (h : ABW n A b) (hb : b ≤ b') : ABW n A b' := ⟨h.1, fun s hs => by
  obtain ⟨h1, h2, h3, h4⟩ := h.2 s hs
  exact ⟨h1, h2, by omega, by omega⟩⟩
theorem ABW.more {n n' : Nat} {A : AB} {b : Nat} (h : ABW n A b) (hn : n ≤ n') : ABW n' A b := ⟨h.1, fun s hs => by
  obtain ⟨h1, h2, h3, h4⟩ := h.2 s hs
  exact ⟨by omega, h2, h3, h4⟩⟩
theorem ABW_0 {n : Nat} : ABW n ab0 0 := ⟨List.nodup_nil, fun s hs => by cases hs⟩
theorem ABW_add {n : Nat} {A : AB} {b s c r : Nat} {k : Int32} (h : ABW n A b) (hs : s < n) (hn : s ∉ aO A) (hc : c < 24) (hr : r < 16) : ABW n (abAdd A s (nI c) (nI r) k) (b + 1) := by
  refine ⟨List.nodup_append.mpr ⟨h.1, by simp, fun x hx y hy z => by
    rw [List.mem_singleton.mp hy] at z; exact hn (z ▸ hx)⟩, fun q hq => ?_⟩
  by_cases e : q = s
  · subst e
    refine ⟨hs, ?_, ?_, ?_⟩
    · show va_up (aL A) q (aN A) q < aN A + 1
      rw [qs_up, if_pos rfl]; omega
    · show _ ≤ (va_up (aC A) q (nI c) q).toInt ∧ (va_up (aC A) q (nI c) q).toInt ≤ _
      rw [qs_up, if_pos rfl, q_nI (by omega)]; omega
    · show _ ≤ (va_up (aR A) q (nI r) q).toInt ∧ (va_up (aR A) q (nI r) q).toInt ≤ _
      rw [qs_up, if_pos rfl, q_nI (by omega)]; omega
  · obtain ⟨h1, h2, h3, h4⟩ := h.2 q (by
      rcases List.mem_append.mp hq with z | z
      · exact z
      · exact absurd (List.mem_singleton.mp z) e)
    refine ⟨h1, ?_, ?_, ?_⟩
    · show va_up (aL A) s (aN A) q < aN A + 1
      rw [qs_up, if_neg e]; omega
    · show _ ≤ (va_up (aC A) s (nI c) q).toInt ∧ (va_up (aC A) s (nI c) q).toInt ≤ _
      rw [qs_up, if_neg e]; omega
    · show _ ≤ (va_up (aR A) s (nI r) q).toInt ∧ (va_up (aR A) s (nI r) q).toInt ≤ _
      rw [qs_up, if_neg e]; omega
theorem ABW_move {n : Nat} {A : AB} {b s : Nat} {x y : Int32} (h : ABW n A b) (hb : b ≤ 200) (hx : -24 ≤ x.toInt ∧ x.toInt ≤ 24) (hy : -16 ≤ y.toInt ∧ y.toInt ≤ 16) : ABW n (abMove A s x y) (b + 1) := by
  refine ⟨h.1, fun q hq => ?_⟩
  obtain ⟨h1, h2, h3, h4⟩ := h.2 q hq
  refine ⟨h1, h2, ?_, ?_⟩
  · show _ ≤ (if aL A q = aL A s then aC A q + x else aC A q).toInt ∧ (if aL A q = aL A s then aC A q + x else aC A q).toInt ≤ _
    split
    · rw [q_addI (by omega) (by omega)]; omega
    · omega
  · show _ ≤ (if aL A q = aL A s then aR A q + y else aR A q).toInt ∧ (if aL A q = aL A s then aR A q + y else aR A q).toInt ≤ _
    split
    · rw [q_addI (by omega) (by omega)]; omega
    · omega
theorem ABW_up {n : Nat} {A : AB} {b s : Nat} (h : ABW n A b) (hs : s ∈ aO A) : ABW n (abUp A s) b := by
  refine ⟨List.nodup_append.mpr ⟨lrm_nodup h.1, by simp, fun x hx y hy z => ?_⟩, fun q hq => h.2 q ?_⟩
  · rw [List.mem_singleton.mp hy] at z; exact (mem_lrm.mp hx).2 z
  · rcases List.mem_append.mp hq with z | z
    · exact (mem_lrm.mp z).1
    · rw [List.mem_singleton.mp z]; exact hs
theorem ABW_down {n : Nat} {A : AB} {b s : Nat} (h : ABW n A b) (hs : s ∈ aO A) : ABW n (abDown A s) b := by
  refine ⟨List.nodup_cons.mpr ⟨fun z => (mem_lrm.mp z).2 rfl, lrm_nodup h.1⟩, fun q hq => h.2 q ?_⟩
  rcases List.mem_cons.mp hq with z | z
  · rw [z]; exact hs
  · exact (mem_lrm.mp z).1
theorem ABW_drop {n : Nat} {A : AB} {b s : Nat} (h : ABW n A b) : ABW n (abDrop A s) b := ⟨lrm_nodup h.1, fun q hq => h.2 q (mem_lrm.mp hq).1⟩
theorem ABW_join {n : Nat} {A : AB} {b s t : Nat} (h : ABW n A b) (hs : s ∈ aO A) : ABW n (abJoin A s t) b := ⟨h.1, fun q hq => by
  obtain ⟨h1, h2, h3, h4⟩ := h.2 q hq
  refine ⟨h1, ?_, h3, h4⟩
  show (if aL A q = aL A t then aL A s else aL A q) < aN A
  split
  · exact (h.2 s hs).2.1
  · exact h2⟩
theorem ABW_part {n : Nat} {A : AB} {b s : Nat} (h : ABW n A b) : ABW n (abPart A s) b := ⟨h.1, fun q hq => by
  obtain ⟨h1, h2, h3, h4⟩ := h.2 q hq
  refine ⟨h1, ?_, h3, h4⟩
  show va_up (aL A) s (aN A) q < aN A + 1
  rw [qs_up]
  split <;> omega⟩
theorem ABW_step {o : FO} {n m k : Nat} {A : AB} (hm : m ≤ 200) (hA : WFA o n m) (hS : WFS o n) (hk : k < m) (h : ABW n A k) (hadd : ∀ s, s ∈ aO A → ∃ j, j < k ∧ fA o 2 j = 0 ∧ fA o 4 j = nI s) (hn : n ≤ 40) :
    ABW n (abStep o k A) (k + 1) ∧ ∀ s, s ∈ aO (abStep o k A) → ∃ j, j < k + 1 ∧ fA o 2 j = 0 ∧ fA o 4 j = nI s := by
  obtain ⟨⟨s, hs, e4⟩, ⟨q, hq, e2⟩, -, -, hmv, hjn, had⟩ := hA k hk
  have hw : ∀ x, x ∈ aO A → ∃ j, j < k + 1 ∧ fA o 2 j = 0 ∧ fA o 4 j = nI x := fun x hx => by
    obtain ⟨j, h1, h2⟩ := hadd x hx
    exact ⟨j, by omega, h2⟩
  unfold abStep
  have ec : (fA o 4 k).toNatClampNeg = s := by rw [e4]; exact qn_cl (by omega)
  rw [ec]
  split
  · rename_i e0
    obtain ⟨-, -, -, ⟨c, hc, e14⟩, ⟨r, hr, e15⟩⟩ := hS s hs
    have hns : s ∉ aO A := fun z => by
      obtain ⟨j, j1, j2, j3⟩ := hadd s z
      exact had e0 j j1 j2 (j3.trans e4.symm)
    rw [e14, e15]
    refine ⟨ABW_add h hs hns hc hr, fun x hx => ?_⟩
    rcases List.mem_append.mp hx with z | z
    · exact hw x z
    · rw [List.mem_singleton.mp z]; exact ⟨k, by omega, e0, e4⟩
  · split
    · rename_i e0 hin
      have hd : ∀ x, x ∈ lrm (aO A) s → x ∈ aO A := fun x hx => (mem_lrm.mp hx).1
      repeat' split
      · rename_i e1
        exact ⟨ABW_move h (by omega) (hmv e1).1 (hmv e1).2, hw⟩
      · exact ⟨h.up (by omega), hw⟩
      · exact ⟨(ABW_join h hin.1).up (by omega), hw⟩
      · exact ⟨(ABW_part h).up (by omega), hw⟩
      · refine ⟨(ABW_up h hin.1).up (by omega), fun x hx => ?_⟩
        rcases List.mem_append.mp hx with z | z
        · exact hw x (hd x z)
        · rw [List.mem_singleton.mp z]; exact hw s hin.1
      · refine ⟨(ABW_down h hin.1).up (by omega), fun x hx => ?_⟩
        rcases List.mem_cons.mp hx with z | z
        · rw [z]; exact hw s hin.1
        · exact hw x (hd x z)
      · exact ⟨(ABW_drop h).up (by omega), fun x hx => hw x (hd x hx)⟩
    · exact ⟨h.up (by omega), hw⟩
theorem abFold_ok {o : FO} {n m : Nat} (hm : m ≤ 200) (hn : n ≤ 40) (hA : WFA o n m) (hS : WFS o n) : ∀ k, k ≤ m → ABW n (abFold o k) k ∧ ∀ s, s ∈ aO (abFold o k) → ∃ j, j < k ∧ fA o 2 j = 0 ∧ fA o 4 j = nI s := by
  intro k
  induction k with
  | zero => exact fun _ => ⟨ABW_0, fun s hs => by cases hs⟩
  | succ k ih =>
    intro hk
    obtain ⟨h1, h2⟩ := ih (by omega)
    show ABW n (if fA o 7 k = 0 then abFold o k else abStep o k (abFold o k)) (k + 1) ∧ ∀ s, s ∈ aO (if fA o 7 k = 0 then abFold o k else abStep o k (abFold o k)) → _
    split
    · refine ⟨h1.up (by omega), fun s hs => ?_⟩
      obtain ⟨j, j1, j2⟩ := h2 s hs
      exact ⟨j, by omega, j2⟩
    · exact ABW_step hm hA hS (by omega) h1 h2 hn
/-! the uppermost of a list -/
def topO (P : Nat → Bool) : List Nat → Option Nat
  | [] => none
  | k :: l => match topO P l with
    | some s => some s
    | none => if P k then some k else none
def oI : Option Nat → Int32
  | none => -1
  | some k => nI k
theorem topO_snoc {P : Nat → Bool} {l : List Nat} {k : Nat} : topO P (l ++ [k]) = if P k then some k else topO P l := by
  induction l with
  | nil => simp [topO]
  | cons a l ih =>
    show (match topO P (l ++ [k]) with | some s => some s | none => if P a then some a else none) = _
    rw [ih]
    by_cases e : P k = true
    · simp [e]
    · simp only [e]; rfl
theorem topO_none {P : Nat → Bool} {l : List Nat} : topO P l = none ↔ ∀ k, k ∈ l → P k = false := by
  induction l with
  | nil => simp [topO]
  | cons a l ih =>
    unfold topO
    cases h : topO P l with
    | some s =>
      have : ¬ ∀ k, k ∈ l → P k = false := fun z => by rw [ih.mpr z] at h; cases h
      simp only [reduceCtorEq, false_iff]
      exact fun z => this fun k hk => z k (List.mem_cons_of_mem _ hk)
    | none =>
      have h2 := ih.mp h
      by_cases e : P a = true
      · simp [e]
      · simp only [e, List.mem_cons]
        refine ⟨fun _ k hk => ?_, fun _ => rfl⟩
        rcases hk with rfl | hk
        · simpa using e
        · exact h2 k hk
theorem topO_mem {P : Nat → Bool} {l : List Nat} {s : Nat} (h : topO P l = some s) : s ∈ l ∧ P s = true := by
  induction l with
  | nil => cases h
  | cons a l ih =>
    unfold topO at h
    cases e : topO P l with
    | some t =>
      rw [e] at h
      cases h
      have := ih e
      exact ⟨List.mem_cons_of_mem _ this.1, this.2⟩
    | none =>
      rw [e] at h
      by_cases ea : P a = true
      · simp only [ea, if_true] at h
        cases h
        exact ⟨List.mem_cons_self, ea⟩
      · simp [ea] at h
theorem topO_cong {P Q : Nat → Bool} {l : List Nat} (h : ∀ k, k ∈ l → P k = Q k) : topO P l = topO Q l := by
  induction l with
  | nil => rfl
  | cons a l ih =>
    unfold topO
    rw [ih fun k hk => h k (List.mem_cons_of_mem _ hk), h a List.mem_cons_self]
theorem topO_max {P : Nat → Bool} {l : List Nat} {f : Nat → Int32} (hf : l.Pairwise (fun j k => f j < f k)) {s : Nat} (h : topO P l = some s) : ∀ k, k ∈ l → P k = true → k ≠ s → f k < f s := by
  induction l with
  | nil => intro k hk; cases hk
  | cons a l ih =>
    obtain ⟨h1, h2⟩ := List.pairwise_cons.mp hf
    unfold topO at h
    intro k hk hP hne
    cases e : topO P l with
    | some t =>
      rw [e] at h
      cases h
      rcases List.mem_cons.mp hk with rfl | hk
      · exact h1 _ (topO_mem e).1
      · exact ih h2 e k hk hP hne
    | none =>
      rw [e] at h
      rcases List.mem_cons.mp hk with rfl | hk
      · rw [hP] at h
        simp at h
        exact absurd h hne
      · rw [topO_none.mp e k hk] at hP; cases hP
theorem topO_of {P : Nat → Bool} {l : List Nat} {f : Nat → Int32} (hf : l.Pairwise (fun j k => f j < f k)) {s : Nat} (hs : s ∈ l) (hP : P s = true) (hm : ∀ k, k ∈ l → P k = true → ¬ f s < f k) : topO P l = some s := by
  cases e : topO P l with
  | none => rw [topO_none.mp e s hs] at hP; cases hP
  | some t =>
    by_cases z : s = t
    · rw [z]
    · exact absurd (topO_max hf e s hs hP z) (hm t (topO_mem e).1 (topO_mem e).2)
end
