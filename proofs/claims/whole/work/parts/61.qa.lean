section
/-! pure layer A: words of fat objects, roles, the heap of roles -/
theorem qs_up {α : Type} (f : Nat → α) (k j : Nat) (v : α) : va_up f k v j = if j = k then v else f j := rfl
theorem qs_fIsI (o : FO) (k j : Nat) (v : Int32) : fI (sI o k v) j = if j = k then v else fI o j := rfl
theorem qs_fIsL (o : FO) (k j : Nat) (v : Int64) : fI (sL o k v) j = fI o j := rfl
theorem qs_fIsR (o : FO) (k j : Nat) (v : Nat) : fI (sR o k v) j = fI o j := rfl
theorem qs_fIsA (o : FO) (k i j : Nat) (v : Int32) : fI (sA o k i v) j = fI o j := rfl
theorem qs_fIsB (o : FO) (k i j : Nat) (v : Int64) : fI (sB o k i v) j = fI o j := rfl
theorem qs_fLsI (o : FO) (k j : Nat) (v : Int32) : fL (sI o k v) j = fL o j := rfl
theorem qs_fLsL (o : FO) (k j : Nat) (v : Int64) : fL (sL o k v) j = if j = k then v else fL o j := rfl
theorem qs_fLsR (o : FO) (k j : Nat) (v : Nat) : fL (sR o k v) j = fL o j := rfl
theorem qs_fLsA (o : FO) (k i j : Nat) (v : Int32) : fL (sA o k i v) j = fL o j := rfl
theorem qs_fLsB (o : FO) (k i j : Nat) (v : Int64) : fL (sB o k i v) j = fL o j := rfl
theorem qs_fRsI (o : FO) (k j : Nat) (v : Int32) : fR (sI o k v) j = fR o j := rfl
theorem qs_fRsL (o : FO) (k j : Nat) (v : Int64) : fR (sL o k v) j = fR o j := rfl
theorem qs_fRsR (o : FO) (k j : Nat) (v : Nat) : fR (sR o k v) j = if j = k then v else fR o j := rfl
theorem qs_fRsA (o : FO) (k i j : Nat) (v : Int32) : fR (sA o k i v) j = fR o j := rfl
theorem qs_fRsB (o : FO) (k i j : Nat) (v : Int64) : fR (sB o k i v) j = fR o j := rfl
theorem qs_fAsI (o : FO) (k j : Nat) (v : Int32) : fA (sI o k v) j = fA o j := rfl
theorem qs_fAsL (o : FO) (k j : Nat) (v : Int64) : fA (sL o k v) j = fA o j := rfl
theorem qs_fAsR (o : FO) (k j : Nat) (v : Nat) : fA (sR o k v) j = fA o j := rfl
theorem qs_fAsA (o : FO) (k i j : Nat) (v : Int32) : fA (sA o k i v) j = if j = k then va_up (fA o k) i v else fA o j := rfl
theorem qs_fAsB (o : FO) (k i j : Nat) (v : Int64) : fA (sB o k i v) j = fA o j := rfl
theorem qs_fBsI (o : FO) (k j : Nat) (v : Int32) : fB (sI o k v) j = fB o j := rfl
theorem qs_fBsL (o : FO) (k j : Nat) (v : Int64) : fB (sL o k v) j = fB o j := rfl
theorem qs_fBsR (o : FO) (k j : Nat) (v : Nat) : fB (sR o k v) j = fB o j := rfl
theorem qs_fBsA (o : FO) (k i j : Nat) (v : Int32) : fB (sA o k i v) j = fB o j := rfl
theorem qs_fBsB (o : FO) (k i j : Nat) (v : Int64) : fB (sB o k i v) j = if j = k then va_up (fB o k) i v else fB o j := rfl
theorem qs_eIE {α : Type} {a : α} {p : α → Prop} : (∃ x, some a = some x ∧ p x) ↔ p a := by simp
theorem qs_eIE2 {α : Type} {c : Nat} {a : α} {p : α → Prop} : (∃ x, some (c, a) = some (c, x) ∧ p x) ↔ p a := by simp
/-- a place in the heap: kind, number, number within it -/
abbrev Rl : Type := Nat × Nat × Nat
abbrev rRm : Rl := (0, 0, 0)
abbrev rLs (k : Nat) : Rl := (1, k, 0)
abbrev rBd : Rl := (2, 0, 0)
abbrev rSp : Rl := (2, 1, 0)
abbrev rSh (k : Nat) : Rl := (3, k, 0)
abbrev rAc (k : Nat) : Rl := (4, k, 0)
abbrev rEd (k : Nat) : Rl := (5, k, 0)
abbrev rWn (k : Nat) : Rl := (6, k, 0)
abbrev rKb (k : Nat) : Rl := (7, k, 0)
abbrev rCl (k : Nat) : Rl := (8, k, 0)
abbrev rCp (e j : Nat) : Rl := (9, e, j)
abbrev rPy (k : Nat) : Rl := (10, k, 0)
abbrev rOut : Rl := (11, 0, 0)
abbrev rMd : Rl := (12, 0, 0)
def cR (r : Rl) : Nat := if r.1 = 0 then 8 else if r.1 = 1 then 0 else if r.1 = 2 then 2 else if r.1 = 3 then 6 else if r.1 = 4 then 1 else if r.1 = 5 then 4 else if r.1 = 6 then 7 else if r.1 = 7 then 2 else if r.1 = 8 then 0 else if r.1 = 9 then 3 else if r.1 = 10 then 5 else if r.1 = 11 then 10 else 9
/-- how many there are: shapes, acts, editions, windows, copies of each edition, payments -/
abbrev GD : Type := Nat × Nat × Nat × Nat × (Nat → Nat) × Nat
def al (D : GD) (r : Rl) : Prop :=
  (r.1 = 0 ∧ r.2.1 = 0 ∧ r.2.2 = 0) ∨ (r.1 = 1 ∧ r.2.1 < 4 ∧ r.2.2 = 0) ∨ (r.1 = 2 ∧ r.2.1 < 2 ∧ r.2.2 = 0) ∨ (r.1 = 3 ∧ r.2.1 < D.1 ∧ r.2.2 = 0) ∨ (r.1 = 4 ∧ r.2.1 < D.2.1 ∧ r.2.2 = 0) ∨
  (r.1 = 5 ∧ r.2.1 < D.2.2.1 ∧ r.2.2 = 0) ∨ (r.1 = 6 ∧ r.2.1 < D.2.2.2.1 ∧ r.2.2 = 0) ∨ (r.1 = 7 ∧ r.2.1 < D.2.2.1 ∧ r.2.2 = 0) ∨ (r.1 = 8 ∧ r.2.1 < D.2.2.1 ∧ r.2.2 = 0) ∨
  (r.1 = 9 ∧ r.2.1 < D.2.2.1 ∧ r.2.2 < D.2.2.2.2.1 r.2.1) ∨ (r.1 = 10 ∧ r.2.1 < D.2.2.2.2.2 ∧ r.2.2 = 0) ∨ (r.1 = 11 ∧ r.2.1 = 0 ∧ r.2.2 = 0) ∨ (r.1 = 12 ∧ r.2.1 = 0 ∧ r.2.2 = 0)
theorem al_Rm {D : GD} : al D rRm := by simp [al]
theorem al_Ls {D : GD} {k : Nat} (h : k < 4) : al D (rLs k) := by simp [al, h]
theorem al_Bd {D : GD} : al D rBd := by simp [al]
theorem al_Sp {D : GD} : al D rSp := by simp [al]
theorem al_Sh {D : GD} {k : Nat} (h : k < D.1) : al D (rSh k) := by simp [al, h]
theorem al_Ac {D : GD} {k : Nat} (h : k < D.2.1) : al D (rAc k) := by simp [al, h]
theorem al_Ed {D : GD} {k : Nat} (h : k < D.2.2.1) : al D (rEd k) := by simp [al, h]
theorem al_Wn {D : GD} {k : Nat} (h : k < D.2.2.2.1) : al D (rWn k) := by simp [al, h]
theorem al_Kb {D : GD} {k : Nat} (h : k < D.2.2.1) : al D (rKb k) := by simp [al, h]
theorem al_Cl {D : GD} {k : Nat} (h : k < D.2.2.1) : al D (rCl k) := by simp [al, h]
theorem al_Cp {D : GD} {e j : Nat} (h : e < D.2.2.1) (h2 : j < D.2.2.2.2.1 e) : al D (rCp e j) := by simp [al, h, h2]
theorem al_Py {D : GD} {k : Nat} (h : k < D.2.2.2.2.2) : al D (rPy k) := by simp [al, h]
theorem al_Out {D : GD} : al D rOut := by simp [al]
theorem al_Md {D : GD} : al D rMd := by simp [al]
def rup {α : Type} (f : Rl → α) (r : Rl) (x : α) : Rl → α := fun q => if q = r then x else f q
theorem rup_s {α : Type} {f : Rl → α} {r : Rl} {x : α} : rup f r x r = x := if_pos rfl
theorem rup_n {α : Type} {f : Rl → α} {r q : Rl} {x : α} (h : q ≠ r) : rup f r x q = f q := if_neg h
theorem rup_k {α : Type} {f : Rl → α} {r q : Rl} {x : α} (h : q.1 ≠ r.1) : rup f r x q = f q := if_neg fun e => h (by rw [e])
theorem rup_j {α : Type} {f : Rl → α} {r q : Rl} {x : α} (h : q.2.1 ≠ r.2.1) : rup f r x q = f q := if_neg fun e => h (by rw [e])
theorem rup_i {α : Type} {f : Rl → α} {r q : Rl} {x : α} (h : q.2.2 ≠ r.2.2) : rup f r x q = f q := if_neg fun e => h (by rw [e])
theorem rup_rup {α : Type} {f : Rl → α} {r : Rl} {x y : α} : rup (rup f r x) r y = rup f r y := by
  funext q; unfold rup; split <;> rfl
theorem rup_id {α : Type} {f : Rl → α} {r : Rl} : rup f r (f r) = f := by
  funext q; unfold rup; split
  · rename_i e; rw [e]
  · rfl
/-- the heap holds the objects of all places, each at an address of its own -/
def HP (g : GH) (A : Rl → Nat) (ob : Rl → FO) (D : GD) : Prop := (∀ r, al D r → g (A r) = some (cR r, ob r)) ∧ (∀ r q, al D r → al D q → A r = A q → r = q)
theorem HP.get {g : GH} {A : Rl → Nat} {ob : Rl → FO} {D : GD} (h : HP g A ob D) (r : Rl) (hr : al D r) : g (A r) = some (cR r, ob r) := h.1 r hr
theorem HP.set {g : GH} {A : Rl → Nat} {ob : Rl → FO} {D : GD} (h : HP g A ob D) {r : Rl} (hr : al D r) (x : FO) : HP (hu g (A r) (cR r, x)) A (rup ob r x) D := by
  refine ⟨fun q hq => ?_, h.2⟩
  by_cases e : q = r
  · subst e; rw [hu_s, rup_s]
  · rw [hu_n (fun z => e (h.2 q r hq hr z)), rup_n e]; exact h.1 q hq
theorem HP.new {g : GH} {A : Rl → Nat} {ob : Rl → FO} {D D' : GD} (h : HP g A ob D) {r : Rl} {a c : Nat} {x : FO} (ha : g a = none) (hc : c = cR r) (hD : ∀ q, al D' q → q ≠ r → al D q) : HP (hu g a (c, x)) (rup A r a) (rup ob r x) D' := by
  subst hc
  have hn : ∀ q, al D' q → q ≠ r → A q ≠ a := fun q hq e z => by
    have := h.1 q (hD q hq e)
    rw [z, ha] at this
    cases this
  refine ⟨fun q hq => ?_, fun q p hq hp e => ?_⟩
  · by_cases e : q = r
    · subst e; rw [rup_s, hu_s, rup_s]
    · rw [rup_n e, hu_n (hn q hq e), rup_n e]; exact h.1 q (hD q hq e)
  · by_cases e1 : q = r <;> by_cases e2 : p = r
    · rw [e1, e2]
    · subst e1; rw [rup_s, rup_n e2] at e; exact absurd e.symm (hn p hp e2)
    · subst e2; rw [rup_s, rup_n e1] at e; exact absurd e (hn q hq e1)
    · rw [rup_n e1, rup_n e2] at e; exact h.2 q p (hD q hq e1) (hD p hp e2) e
theorem HP.sub {g : GH} {A : Rl → Nat} {ob : Rl → FO} {D D' : GD} (h : HP g A ob D) (hD : ∀ q, al D' q → al D q) : HP g A ob D' := ⟨fun q hq => h.1 q (hD q hq), fun q p hq hp => h.2 q p (hD q hq) (hD p hp)⟩
theorem HP.other {g : GH} {A : Rl → Nat} {ob : Rl → FO} {D : GD} (h : HP g A ob D) {a : Nat} {x : Nat × FO} (ha : g a = none) : HP (hu g a x) A ob D := by
  refine ⟨fun q hq => ?_, h.2⟩
  rw [hu_n (fun z => ?_)]
  · exact h.1 q hq
  · have := h.1 q hq
    rw [z, ha] at this
    cases this
theorem HP.ext {g : GH} {A : Rl → Nat} {ob ob' : Rl → FO} {D : GD} (h : HP g A ob D) (e : ∀ r, al D r → ob' r = ob r) : HP g A ob' D := ⟨fun q hq => by rw [e q hq]; exact h.1 q hq, h.2⟩
/-! numbers -/
theorem n31 {k N : Nat} (h : k < N) (hN : N ≤ 2147483648 := by decide) : k < 2 ^ 31 := by omega
theorem qn_le {k N : Nat} (h : k < N) (hN : N ≤ 2147483647 := by decide) : ¬ nI N ≤ nI k := nI_ge h (by omega)
theorem qn_cl {k : Nat} (h : k < 2147483648) : (nI k).toNatClampNeg = k := nI_clamp h
theorem qn_b01 {x : Int32} (h : x = 0 ∨ x = 1) : narrow .boolean (.int x) = .int x := by rcases h with rfl | rfl <;> rfl
theorem qn_nar0 : vp_nar .boolean 0 = 0 := rfl
theorem qn_nar1 : vp_nar .boolean 1 = 1 := rfl
theorem qn_n1 (x : Int32) : x + (-1) = x - 1 := by rw [Int32.sub_eq_add_neg]
theorem br_ite {c A B : Prop} (h : (c ∧ A) ∨ (¬ c ∧ B)) : (c → A) ∧ (¬ c → B) := by
  rcases h with ⟨h, a⟩ | ⟨h, b⟩
  · exact ⟨fun _ => a, fun n => absurd h n⟩
  · exact ⟨fun n => absurd n h, fun _ => b⟩
theorem br_t' {c A B : Prop} (h : c) (a : A) : (¬ c → B) ∧ (c → A) := ⟨fun n => absurd h n, fun _ => a⟩
theorem br_f' {c A B : Prop} (h : ¬ c) (b : B) : (¬ c → B) ∧ (c → A) := ⟨fun _ => b, fun n => absurd n h⟩
theorem br_c' {c A B : Prop} (a : c → A) (b : ¬ c → B) : (¬ c → B) ∧ (c → A) := ⟨b, a⟩
/-- any int: within 0 .. n - 1, or not -/
theorem qn_ix (x : Int32) (n : Nat) (hn : n < 2147483648) : (∃ k, k < n ∧ x = nI k) ∨ (x < 0 ∨ nI n ≤ x) := by
  rcases pk_ix x (n := n) (by omega) with h | h | h
  · exact Or.inr (Or.inl h)
  · exact Or.inr (Or.inr h)
  · exact Or.inl h
/-! a loop that counts up: one value goes with it -/
theorem lq1 {α : Type} (W : Nat → Int32 → α → Prop) (I : Nat → α → Prop) (N : Nat) (hN : N < 1000)
    (hx : ∀ n s, I N s → W (n + 1) (nI N) s)
    (hs : ∀ n i s, i < N → I i s → (∀ s', I (i + 1) s' → W n (nI i + 1) s') → W (n + 1) (nI i) s) : ∀ i s, i ≤ N → I i s → W 1000 (nI i) s := by
  have key : ∀ n i s, i ≤ N → N - i < n → I i s → W n (nI i) s := by
    intro n
    induction n with
    | zero => intro i s _ h; omega
    | succ n ih =>
      intro i s hi hn hI
      by_cases e : i = N
      · subst e; exact hx n s hI
      · exact hs n i s (by omega) hI (fun s' h' => by rw [nI_1]; exact ih (i + 1) s' (by omega) (by omega) h')
  intro i s hi hI
  exact key 1000 i s hi (by omega) hI
theorem lq0 (W : Nat → Int32 → Prop) (I : Nat → Prop) (N : Nat) (hN : N < 1000)
    (hx : ∀ n, I N → W (n + 1) (nI N))
    (hs : ∀ n i, i < N → I i → (I (i + 1) → W n (nI i + 1)) → W (n + 1) (nI i)) : ∀ i, i ≤ N → I i → W 1000 (nI i) := fun i hi hI =>
  lq1 (fun n x (_ : Unit) => W n x) (fun i _ => I i) N hN (fun n _ h => hx n h) (fun n i _ hi h k => hs n i hi h (fun h' => k () h')) i () hi hI
theorem lq2 {α β : Type} (W : Nat → Int32 → α → β → Prop) (I : Nat → α → β → Prop) (N : Nat) (hN : N < 1000)
    (hx : ∀ n s t, I N s t → W (n + 1) (nI N) s t)
    (hs : ∀ n i s t, i < N → I i s t → (∀ s' t', I (i + 1) s' t' → W n (nI i + 1) s' t') → W (n + 1) (nI i) s t) : ∀ i s t, i ≤ N → I i s t → W 1000 (nI i) s t := fun i s t hi hI =>
  lq1 (fun n x (q : α × β) => W n x q.1 q.2) (fun i q => I i q.1 q.2) N hN (fun n q h => hx n q.1 q.2 h) (fun n i q hi h k => hs n i q.1 q.2 hi h (fun s' t' h' => k (s', t') h')) i (s, t) hi hI
end
