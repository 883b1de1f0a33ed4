section
/-! pure layer K: what holds between the calls -/
def cNum (o : FO) (n m ne : Nat) : Prop := fI o 1 = nI m ∧ fI o 10 = nI n ∧ fI o 25 = nI ne
def cSh (sh : Nat → FO) (o : FO) (n : Nat) : Prop := WFS o n ∧ ∀ j, j < n → shF (sh j) o j
def cAc (ac : Nat → FO) (o : FO) (n m : Nat) : Prop := WFA o n m ∧ ∀ k, k < m → acF (ac k) o k
/-- what a hand has undone and can redo: u acts, st 0 the first undone -/
def cUh (ac : Nat → FO) (o : FO) (m h u : Nat) (st : Nat → Nat) : Prop :=
  u ≤ m ∧ fA o 9 h = nI u ∧ (∀ i, i < u → fA o 8 (200 * h + i) = nI (st i) ∧ st i + i + 1 ≤ m ∧ fA o 3 (st i) = nI h ∧ fA o 7 (st i) = 0) ∧ (∀ i j, i < j → j < u → st j < st i) ∧
  (∀ i, i < u → ∀ k, k < m → fA o 3 k = nI h → fA o 7 k = 1 → k < st i) ∧ ∀ k, k < m → fA o 3 k = nI h → (¬ fI (ac k) 6 = 0 ↔ ∃ i, i < u ∧ st i = k)
def cUn (ac : Nat → FO) (o : FO) (m : Nat) : Prop := ∀ h, h < 6 → ∃ u st, cUh ac o m h u st
def cDn (R o : FO) : Prop := ∀ k, k < 40 → (fA o 17 k = 0 ↔ bL (fL R 6) k = false)
def cBd (B o : FO) (m : Nat) : Prop := CV B (abFold o m) (fA o 12) (fA o 13) ∧ CG B (abFold o m) m ∧ MR (fI o 18) (fA o 19) (fA o 20) (fA o 21) (fA o 22) (fA o 23) (fA o 24) (abFold o m)
/-- one copy: st its state, sc how many were sold -/
def cCp (cp o : FO) (at' sc j : Nat) : Prop := ∃ st, st < 4 ∧ fA o 42 at' = nI st ∧ fI cp 0 = nI st ∧ (st = 0 ↔ sc ≤ j) ∧ ((st = 1 ∨ st = 2) → (∃ b, b < 8 ∧ fA o 43 at' = nI b ∧ fI cp 1 = nI b) ∧ fI cp 2 = fA o 44 at') ∧
  (st = 2 → ∃ a, a < 6 ∧ fA o 45 at' = nI a ∧ fI cp 3 = nI a) ∧ ((st = 0 ∨ st = 3) → fI cp 1 = -1)
/-- the geometry of a view -/
def cWn (wn o : FO) (e c0 r0 w h : Nat) : Prop := (fI wn 0 = nI c0 ∧ fI wn 1 = nI r0 ∧ fI wn 2 = nI w ∧ fI wn 3 = nI h) ∧ (fA o 27 e = nI c0 ∧ fA o 28 e = nI r0 ∧ fA o 29 e = nI w ∧ fA o 30 e = nI h) ∧ c0 < 24 ∧ 1 ≤ w ∧ c0 + w ≤ 24 ∧ r0 < 16 ∧ 1 ≤ h ∧ r0 + h ≤ 16
/-- all areas together, as the reference adds them -/
def arSum (ar : Nat → Int32) (e : Nat) : Int32 := 0 + ar (6 * e + 0) + ar (6 * e + 1) + ar (6 * e + 2) + ar (6 * e + 3) + ar (6 * e + 4) + ar (6 * e + 5)
def cEd (ed wn kb : FO) (cp : Nat → FO) (o : FO) (n m e : Nat) (E : AB) (c : Nat) : Prop :=
  (∃ c0 r0 w h, cWn wn o e c0 r0 w h) ∧ (∃ f, f < 6 ∧ fI ed 0 = nI f ∧ fA o 26 e = nI f) ∧ fI ed 2 = fA o 32 e ∧
  ((∀ h, h < 6 → fA ed 4 h = fA o 35 (6 * e + h)) ∧ fI ed 5 = arSum (fA o 35) e ∧ ¬ fI ed 5 ≤ 0) ∧
  (fI ed 7 = fA o 33 e ∧ (fA o 33 e = 0 ∨ fA o 33 e = 1)) ∧ (∀ k, k < 200 → (¬ fA o 36 (200 * e + k) = 0 ↔ (fI ed 7 = 0 ∧ ¬ fA ed 6 k = 0))) ∧ (∀ k, m ≤ k → k < 200 → fA o 36 (200 * e + k) = 0) ∧
  (CV kb E (fA o 12) (fA o 13) ∧ MK o e E ∧ (aO E).Nodup ∧ (∀ s, s ∈ aO E → s < n) ∧ ABb E (fA o 12) (fA o 13)) ∧
  (1 ≤ c ∧ c ≤ 20 ∧ fA o 31 e = nI c) ∧ (∃ sc, sc ≤ c ∧ fI ed 9 = nI sc ∧ (fA o 34 e = 0 ↔ sc = 0) ∧ ∀ j, j < c → cCp (cp j) o (20 * e + j) sc j) ∧ ∀ j, c ≤ j → j < 20 → fA o 42 (20 * e + j) = 0
/-- rows of editions that are not there yet -/
def cFr (o : FO) (ne : Nat) : Prop := ∀ e, ne ≤ e → e < 8 → fA o 33 e = 0 ∧ fA o 34 e = 0 ∧ (∀ h, h < 6 → fA o 35 (6 * e + h) = 0) ∧ (∀ k, k < 200 → fA o 36 (200 * e + k) = 0) ∧ ∀ j, j < 20 → fA o 42 (20 * e + j) = 0
def cMo (R o : FO) : Prop := (∀ h, h < 6 → fA R 7 h = fA o 46 h) ∧ (∀ b, b < 8 → fA R 9 b = fA o 47 b) ∧ fI R 10 = fI o 48
/-- what sharing an amount does to the hands' money: fr who froze, ar the areas -/
def shP (ar : Nat → Int32) (e : Nat) (amt : Int32) (h : Nat) : Int32 := (amt * ar (6 * e + h)) / arSum ar e
def shL (ar : Nat → Int32) (e : Nat) (amt : Int32) : Int32 := amt - shP ar e amt 0 - shP ar e amt 1 - shP ar e amt 2 - shP ar e amt 3 - shP ar e amt 4 - shP ar e amt 5
def shr (fr ar : Nat → Int32) (e : Nat) (amt : Int32) (f : Nat → Int32) : Nat → Int32 := fun h => (f h + shP ar e amt h) + (if h = (fr e).toNatClampNeg then shL ar e amt else 0)
/-- one payment -/
def pyF (fr ar : Nat → Int32) (py : FO) (f : Nat → Int32) : Nat → Int32 := if fI py 0 = -1 then va_up f (fI py 1).toNatClampNeg (f (fI py 1).toNatClampNeg + fI py 2) else shr fr ar (fI py 0).toNatClampNeg (fI py 2) f
def pyAll (fr ar : Nat → Int32) (py : Nat → FO) : Nat → Nat → Int32
  | 0 => fun _ => 0
  | p + 1 => pyF fr ar (py p) (pyAll fr ar py p)
def cPy (py : Nat → FO) (R o : FO) (ne np : Nat) : Prop := (∀ p, p < np → (fI (py p) 0 = -1 ∧ ∃ a, a < 6 ∧ fI (py p) 1 = nI a) ∨ ∃ e, e < ne ∧ fI (py p) 0 = nI e) ∧ ∀ h, h < 6 → pyAll (fA o 26) (fA o 35) py np h = fA R 7 h
def CT (R B o : FO) (sh ac ed wn kb py : Nat → FO) (cp : Nat → Nat → FO) (n m ne np : Nat) (cs : Nat → Nat) (E : Nat → AB) : Prop :=
  cNum o n m ne ∧ cSh sh o n ∧ cAc ac o n m ∧ cUn ac o m ∧ cDn R o ∧ cBd B o m ∧ (∀ e, e < ne → cEd (ed e) (wn e) (kb e) (cp e) o n m e (E e) (cs e)) ∧ cFr o ne ∧ cMo R o ∧ cPy py R o ne np
abbrev CTo (ob : Rl → FO) (n m ne np : Nat) (cs : Nat → Nat) (E : Nat → AB) : Prop :=
  CT (ob rRm) (ob rBd) (ob rMd) (fun j => ob (rSh j)) (fun j => ob (rAc j)) (fun j => ob (rEd j)) (fun j => ob (rWn j)) (fun j => ob (rKb j)) (fun j => ob (rPy j)) (fun e j => ob (rCp e j)) n m ne np cs E
def IV (g : GH) (A : Rl → Nat) (ob : Rl → FO) (D : GD) (n m ne np : Nat) (E : Nat → AB) : Prop := HQ g A ob D n m ne np ∧ CTo ob n m ne np D.2.2.2.2.1 E
/-- the heap behind a call -/
def NX (A : Rl → Nat) (np : Nat) (g : GH) : Prop := ∃ A' ob D n m ne np' E, A' rRm = A rRm ∧ A' rMd = A rMd ∧ A' rOut = A rOut ∧ np' ≤ np + 1 ∧ IV g A' ob D n m ne np' E
theorem CT.thr {R B o : FO} {sh ac ed wn kb py : Nat → FO} {cp : Nat → Nat → FO} {n m ne np : Nat} {cs : Nat → Nat} {E : Nat → AB} (h : CT R B o sh ac ed wn kb py cp n m ne np cs E) (c : Int32) : CT R B (sI o 0 c) sh ac ed wn kb py cp n m ne np cs E := by
  obtain ⟨h1, h2, h3, h4, h5, h6, h7, h8, h9, h10⟩ := h
  have e : abFold (sI o 0 c) m = abFold o m := abFold_cong fun k _ => ⟨rfl, rfl, rfl, rfl, rfl, rfl, rfl, rfl⟩
  refine ⟨h1, h2, h3, h4, h5, ?_, h7, h8, h9, h10⟩
  unfold cBd
  rw [e]
  exact h6
section IVS
variable {g : GH} {A : Rl → Nat} {ob : Rl → FO} {D : GD} {n m ne np : Nat} {E : Nat → AB}
theorem IV.md (h : IV g A ob D n m ne np E) : g (A rMd) = some (9, ob rMd) := h.1.1.get rMd al_Md
theorem IV.out (h : IV g A ob D n m ne np E) : g (A rOut) = some (10, ob rOut) := h.1.1.get rOut al_Out
theorem IV.om (h : IV g A ob D n m ne np E) : A rOut ≠ A rMd := fun z => by
  have := h.1.1.2 rOut rMd al_Out al_Md z
  cases this
theorem IV.o (h : IV g A ob D n m ne np E) (x : FO) : IV (hu g (A rOut) (10, x)) A (rup ob rOut x) D n m ne np E :=
  ⟨h.1.set al_Out x (c := 10) rfl (fun z => by rcases z with z | z <;> cases z) ⟨by decide, by decide⟩, h.2⟩
/-- the reference is another one -/
theorem IV.setMd (h : HQ g A ob D n m ne np) {n' m' ne' np' : Nat} (x : FO) (hn : n' = n ∧ m' = m ∧ ne' = ne ∧ np' = np) (hc : CTo (rup ob rMd x) n' m' ne' np' D.2.2.2.2.1 E) : IV (hu g (A rMd) (9, x)) A (rup ob rMd x) D n' m' ne' np' E := by
  obtain ⟨rfl, rfl, rfl, rfl⟩ := hn
  exact ⟨h.set al_Md x (c := 9) rfl (fun z => by rcases z with z | z <;> cases z) ⟨by decide, by decide⟩, hc⟩
theorem IV.t (h : IV g A ob D n m ne np E) (c : Int32) : IV (hu g (A rMd) (9, sI (ob rMd) 0 c)) A (rup ob rMd (sI (ob rMd) 0 c)) D n m ne np E :=
  IV.setMd h.1 _ ⟨rfl, rfl, rfl, rfl⟩ (h.2.thr c)
theorem IV.nx (h : IV g A ob D n m ne np E) : NX A np g := ⟨A, ob, D, n, m, ne, np, E, rfl, rfl, rfl, by omega, h⟩
end IVS
/-- what the law does with the two answers -/
def LW (x2 x3 : Nat) (K : GH → Prop) (r v : Int32) (o' : FO) (g1 : GH) : Prop := ∀ g2, g2 = hu g1 x2 (9, o') →
  ∃ o3, g2 x2 = some (9, o3) ∧ wp_X8_thrown o3 (fun r3 => ((r3 = r → ((¬ r = 0 → K g2) ∧ (r = 0 → ∃ o4, g2 x3 = some (10, o4) ∧ (((lg_cmp (fB o4 0 0) v.toInt64) = 0 → K g2) ∧ (¬ (lg_cmp (fB o4 0 0) v.toInt64) = 0 → False))))) ∧ (¬ r3 = r → False)))
def LWL (x2 x3 : Nat) (K : GH → Prop) (r : Int32) (v : Int64) (o' : FO) (g1 : GH) : Prop := ∀ g2, g2 = hu g1 x2 (9, o') →
  ∃ o3, g2 x2 = some (9, o3) ∧ wp_X8_thrown o3 (fun r3 => ((r3 = r → ((¬ r = 0 → K g2) ∧ (r = 0 → ∃ o4, g2 x3 = some (10, o4) ∧ (((lg_cmp (fB o4 0 0) v) = 0 → K g2) ∧ (¬ (lg_cmp (fB o4 0 0) v) = 0 → False))))) ∧ (¬ r3 = r → False)))
theorem lw_t {x2 x3 : Nat} {K : GH → Prop} {r v : Int32} {o' : FO} {g1 : GH} (hr : fI o' 0 = r) (h0 : ¬ r = 0) (k : K (hu g1 x2 (9, o'))) : LW x2 x3 K r v o' g1 := by
  rintro _ rfl
  exact ⟨_, hu_s, fun _ => ⟨fun _ => k, fun z => absurd z h0⟩, fun z => absurd hr z⟩
theorem lw_v {x2 x3 : Nat} {K : GH → Prop} {v : Int32} {o' oo : FO} {g1 : GH} (hr : fI o' 0 = 0) (hne : x3 ≠ x2) (ho : g1 x3 = some (10, oo)) (hv : fB oo 0 0 = v.toInt64) (k : K (hu g1 x2 (9, o'))) : LW x2 x3 K 0 v o' g1 := by
  rintro _ rfl
  refine ⟨_, hu_s, fun _ => ⟨fun _ => k, fun _ => ⟨oo, by rw [hu_n hne]; exact ho, fun _ => k, fun z => z (qcmp.mpr hv)⟩⟩, fun z => absurd hr z⟩
theorem lw_tL {x2 x3 : Nat} {K : GH → Prop} {r : Int32} {v : Int64} {o' : FO} {g1 : GH} (hr : fI o' 0 = r) (h0 : ¬ r = 0) (k : K (hu g1 x2 (9, o'))) : LWL x2 x3 K r v o' g1 := by
  rintro _ rfl
  exact ⟨_, hu_s, fun _ => ⟨fun _ => k, fun z => absurd z h0⟩, fun z => absurd hr z⟩
theorem lw_vL {x2 x3 : Nat} {K : GH → Prop} {v : Int64} {o' oo : FO} {g1 : GH} (hr : fI o' 0 = 0) (hne : x3 ≠ x2) (ho : g1 x3 = some (10, oo)) (hv : fB oo 0 0 = v) (k : K (hu g1 x2 (9, o'))) : LWL x2 x3 K 0 v o' g1 := by
  rintro _ rfl
  refine ⟨_, hu_s, fun _ => ⟨fun _ => k, fun _ => ⟨oo, by rw [hu_n hne]; exact ho, fun _ => k, fun z => z (qcmp.mpr hv)⟩⟩, fun z => absurd hr z⟩
/-! arguments -/
theorem w_handT {h : Nat} {post : Prop} {px : String → Prop} (hh : h < 6) (k : post) : wp_X7_checkHand (nI h) post px :=
  ⟨fun z => absurd z (nI_pos (by omega)), fun _ => ⟨fun _ => k, fun z => absurd (nI_lt hh (by decide)) z⟩⟩
theorem w_handF {p : Int32} {post : Prop} {px : String → Prop} (hp : ¬ ∃ h, h < 6 ∧ p = nI h) (k : px "java/lang/IndexOutOfBoundsException") : wp_X7_checkHand p post px := by
  refine ⟨fun _ => k, fun z => ⟨fun z2 => ?_, fun _ => k⟩⟩
  rcases qn_ix p 6 (by decide) with y | y | y
  · exact absurd y hp
  · exact absurd y z
  · exfalso
    rw [q_lt] at z2; rw [q_le] at y
    have : (nI 6).toInt = (6 : Int32).toInt := rfl
    omega
theorem w_buyerT {h : Nat} {post : Prop} {px : String → Prop} (hh : h < 8) (k : post) : wp_X7_checkBuyer (nI h) post px :=
  ⟨fun z => absurd z (nI_pos (by omega)), fun _ => ⟨fun _ => k, fun z => absurd (nI_lt hh (by decide)) z⟩⟩
theorem w_buyerF {p : Int32} {post : Prop} {px : String → Prop} (hp : ¬ ∃ h, h < 8 ∧ p = nI h) (k : px "java/lang/IndexOutOfBoundsException") : wp_X7_checkBuyer p post px := by
  refine ⟨fun _ => k, fun z => ⟨fun z2 => ?_, fun _ => k⟩⟩
  rcases qn_ix p 8 (by decide) with y | y | y
  · exact absurd y hp
  · exact absurd y z
  · exfalso
    rw [q_lt] at z2; rw [q_le] at y
    have : (nI 8).toInt = (8 : Int32).toInt := rfl
    omega
theorem w_rangeT {p a b : Int32} {post : Prop} {px : String → Prop} (h : ¬ p < a ∧ ¬ b < p) (k : post) : wp_X7_checkRange p a b post px := by
  refine ⟨fun z => absurd z h.1, fun _ => ⟨fun _ => k, fun z => absurd ?_ z⟩⟩
  have := h.2
  rw [q_lt] at this; rw [q_le]; omega
theorem w_rangeF {p a b : Int32} {post : Prop} {px : String → Prop} (h : ¬ (¬ p < a ∧ ¬ b < p)) (k : px "java/lang/IllegalArgumentException") : wp_X7_checkRange p a b post px := by
  refine ⟨fun _ => k, fun z => ⟨fun z2 => absurd ⟨z, fun y => ?_⟩ h, fun _ => k⟩⟩
  rw [q_lt] at y; rw [q_le] at z2; omega
theorem m_inT {p a b : Int32} {post : Int32 → Prop} (h : ¬ p < a ∧ ¬ b < p) (k : post 1) : wp_X8_isIn p a b post := w_isIn (fun _ _ => k) (fun z => z.elim (fun y => absurd y h.1) (fun y => absurd y h.2))
theorem m_inF {p a b : Int32} {post : Int32 → Prop} (h : ¬ (¬ p < a ∧ ¬ b < p)) (k : post 0) : wp_X8_isIn p a b post := w_isIn (fun z y => absurd ⟨z, y⟩ h) (fun _ => k)
theorem q_rng {p : Int32} {n : Nat} (hn : 0 < n) (hn2 : n < 2147483648) : (¬ p < 0 ∧ ¬ nI (n - 1) < p) ↔ ∃ h, h < n ∧ p = nI h := by
  constructor
  · rintro ⟨a, b⟩
    rcases qn_ix p n hn2 with y | y | y
    · exact y
    · exact absurd y a
    · exfalso
      rw [q_lt, q_nI (by omega)] at b; rw [q_le, q_nI hn2] at y; omega
  · rintro ⟨h, hh, rfl⟩
    exact ⟨nI_pos (by omega), fun z => by rw [q_lt, q_nI (by omega), q_nI (by omega)] at z; omega⟩
theorem m_hand1 {h : Nat} {post : Int32 → Prop} (hh : h < 6) (k : post 1) : wp_X8_isHand (nI h) post := m_inT ((q_rng (n := 6) (by decide) (by decide)).mpr ⟨h, hh, rfl⟩) ⟨rfl, k⟩
theorem m_hand0 {p : Int32} {post : Int32 → Prop} (hp : ¬ ∃ h, h < 6 ∧ p = nI h) (k : post 0) : wp_X8_isHand p post := m_inF (fun z => hp ((q_rng (n := 6) (by decide) (by decide)).mp z)) ⟨rfl, k⟩
theorem m_buyer1 {h : Nat} {post : Int32 → Prop} (hh : h < 8) (k : post 1) : wp_X8_isBuyer (nI h) post := m_inT ((q_rng (n := 8) (by decide) (by decide)).mpr ⟨h, hh, rfl⟩) ⟨rfl, k⟩
theorem m_buyer0 {p : Int32} {post : Int32 → Prop} (hp : ¬ ∃ h, h < 8 ∧ p = nI h) (k : post 0) : wp_X8_isBuyer p post := m_inF (fun z => hp ((q_rng (n := 8) (by decide) (by decide)).mp z)) ⟨rfl, k⟩
/-- a number below another -/
theorem m_numT {x : Int32} {n s : Nat} {post : Int32 → Prop} (hx : x = nI n) (hn : n < 2147483648) (hs : s < n) (k : post 1) : wp_X8_isIn (nI s) 0 (x - 1) (fun r => narrow .boolean (.int r) = .int r ∧ post r) := by
  subst hx
  obtain ⟨n', rfl⟩ : ∃ n', n = n' + 1 := ⟨n - 1, by omega⟩
  rw [nI_pred]
  exact m_inT ((q_rng (n := n' + 1) (by omega) hn).mpr ⟨s, hs, rfl⟩) ⟨rfl, k⟩
theorem m_numF {x p : Int32} {n : Nat} {post : Int32 → Prop} (hx : x = nI n) (hn : n < 2147483648) (hp : ¬ ∃ s, s < n ∧ p = nI s) (k : post 0) : wp_X8_isIn p 0 (x - 1) (fun r => narrow .boolean (.int r) = .int r ∧ post r) := by
  subst hx
  by_cases e : n = 0
  · subst e
    refine m_inF (fun z => ?_) ⟨rfl, k⟩
    have h1 := z.1
    have h2 := z.2
    rw [q_lt] at h1 h2
    have e0 : (nI 0 - 1).toInt = -1 := by decide
    have e1 : (0 : Int32).toInt = 0 := rfl
    omega
  · obtain ⟨n', rfl⟩ : ∃ n', n = n' + 1 := ⟨n - 1, by omega⟩
    rw [nI_pred]
    exact m_inF (fun z => hp ((q_rng (n := n' + 1) (by omega) hn).mp z)) ⟨rfl, k⟩
section ARG
variable {g : GH} {A : Rl → Nat} {ob : Rl → FO} {D : GD} {n m ne np : Nat} {E : Nat → AB}
theorem w_shapeT {s : Nat} {post : Prop} {px : String → Prop} (h : HQ g A ob D n m ne np) (hs : s < n) (k : post) : wp_X7_checkShape (A rRm) (nI s) g post px :=
  ⟨_, h.rm, w_isShapeT h hs ⟨fun _ => k, fun z => absurd z (by decide)⟩⟩
theorem w_shapeF {p : Int32} {post : Prop} {px : String → Prop} (h : HQ g A ob D n m ne np) (hp : ¬ ∃ s, s < n ∧ p = nI s) (k : px "java/lang/IndexOutOfBoundsException") : wp_X7_checkShape (A rRm) p g post px :=
  ⟨_, h.rm, w_isShapeF h hp ⟨fun z => absurd rfl z, fun _ => k⟩⟩
theorem w_actT {k : Nat} {post : Nat → Prop} {px : String → Prop} (h : HQ g A ob D n m ne np) (hk : k < m) (kk : post (A (rAc k))) : wp_X7_checkedAct (A rRm) (nI k) g post px := by
  have := h.m200
  refine ⟨fun z => absurd z (nI_pos (by omega)), fun _ => ⟨_, h.rm, _, h.l1, ?_⟩⟩
  rw [h.n1]
  refine ⟨fun _ => ⟨_, h.rm, _, h.l1, h.in1 hk, _, h.ac hk, ?_⟩, fun z => absurd (nI_lt hk (by omega)) z⟩
  rw [h.pac hk]
  exact kk
theorem w_actF {p : Int32} {post : Nat → Prop} {px : String → Prop} (h : HQ g A ob D n m ne np) (hp : ¬ ∃ s, s < m ∧ p = nI s) (kk : px "java/lang/IndexOutOfBoundsException") : wp_X7_checkedAct (A rRm) p g post px := by
  have := h.m200
  refine ⟨fun _ => kk, fun z => ⟨_, h.rm, _, h.l1, ?_⟩⟩
  rw [h.n1]
  refine ⟨fun z2 => ?_, fun _ => kk⟩
  exfalso
  rcases qn_ix p m (by omega) with y | y | y
  · exact hp y
  · exact z y
  · rw [q_lt] at z2; rw [q_le] at y; omega
theorem w_isEdT {e : Nat} {post : Int32 → Prop} (h : HQ g A ob D n m ne np) (he : e < ne) (kk : post 1) : wp_X7_isEdition (A rRm) (nI e) g post := by
  have := h.ne8
  refine ⟨fun z => absurd z (nI_pos (by omega)), fun _ => ⟨_, h.rm, _, h.l2, ?_⟩⟩
  rw [h.n2]
  exact ⟨fun z => absurd z (nI_ge he (by omega)), fun _ => kk⟩
theorem w_isEdF {p : Int32} {post : Int32 → Prop} (h : HQ g A ob D n m ne np) (hp : ¬ ∃ s, s < ne ∧ p = nI s) (kk : post 0) : wp_X7_isEdition (A rRm) p g post := by
  have := h.ne8
  refine ⟨fun _ => kk, fun z => ⟨_, h.rm, _, h.l2, ?_⟩⟩
  rw [h.n2]
  refine ⟨fun _ => kk, fun z2 => ?_⟩
  exfalso
  rcases qn_ix p ne (by omega) with y | y | y
  · exact hp y
  · exact z y
  · exact z2 y
theorem w_edT {e : Nat} {post : Nat → Prop} {px : String → Prop} (h : HQ g A ob D n m ne np) (he : e < ne) (kk : post (A (rEd e))) : wp_X7_checkedEdition (A rRm) (nI e) g post px := by
  refine ⟨_, h.rm, w_isEdT h he ⟨fun _ => ⟨_, h.rm, _, h.l2, h.in2 he, _, h.ed he, ?_⟩, fun z => absurd z (by decide)⟩⟩
  rw [h.ped he]
  exact kk
theorem w_edF {p : Int32} {post : Nat → Prop} {px : String → Prop} (h : HQ g A ob D n m ne np) (hp : ¬ ∃ s, s < ne ∧ p = nI s) (kk : px "java/lang/IndexOutOfBoundsException") : wp_X7_checkedEdition (A rRm) p g post px :=
  ⟨_, h.rm, w_isEdF h hp ⟨fun z => absurd rfl z, fun _ => kk⟩⟩
theorem HQ.edA (h : HQ g A ob D n m ne np) {e : Nat} (he : e < ne) : g (A (rEd e)) = some (4, ob (rEd e)) := h.1.get _ (h.alEd he)
theorem HQ.acA (h : HQ g A ob D n m ne np) {k : Nat} (hk : k < m) : g (A (rAc k)) = some (1, ob (rAc k)) := h.1.get _ (h.alAc hk)
theorem HQ.cpA (h : HQ g A ob D n m ne np) {e j : Nat} (he : e < ne) (hj : j < D.2.2.2.2.1 e) : g (A (rCp e j)) = some (3, ob (rCp e j)) := h.1.get _ (h.alCp he hj)
theorem w_cpT {e j : Nat} {post : Nat → Prop} {px : String → Prop} (h : HQ g A ob D n m ne np) (he : e < ne) (hj : j < D.2.2.2.2.1 e) (kk : post (A (rCp e j))) : wp_X7_checkedCopy (A rRm) (nI e) (nI j) g post px := by
  have := h.c20 he
  refine ⟨_, h.rm, w_edT h he ⟨_, h.edA he, fun z => absurd z (nI_pos (by omega)), fun _ => ⟨_, h.cl he, ?_⟩⟩⟩
  rw [h.nc he]
  refine ⟨fun _ => ⟨_, h.cl he, h.inc he hj, _, h.cp he hj, ?_⟩, fun z => absurd (nI_lt hj (by omega)) z⟩
  rw [h.pcp he hj]
  exact kk
theorem w_cpF {p q : Int32} {post : Nat → Prop} {px : String → Prop} (h : HQ g A ob D n m ne np) (hp : ¬ ∃ e j, e < ne ∧ j < D.2.2.2.2.1 e ∧ p = nI e ∧ q = nI j) (kk : px "java/lang/IndexOutOfBoundsException") : wp_X7_checkedCopy (A rRm) p q g post px := by
  by_cases he : ∃ s, s < ne ∧ p = nI s
  · obtain ⟨e, he, rfl⟩ := he
    have := h.c20 he
    refine ⟨_, h.rm, w_edT h he ⟨_, h.edA he, fun _ => kk, fun z => ⟨_, h.cl he, ?_⟩⟩⟩
    rw [h.nc he]
    refine ⟨fun z2 => ?_, fun _ => kk⟩
    exfalso
    rcases qn_ix q (D.2.2.2.2.1 e) (by omega) with y | y | y
    · obtain ⟨j, hj, rfl⟩ := y
      exact hp ⟨e, j, he, hj, rfl, rfl⟩
    · exact z y
    · rw [q_lt] at z2; rw [q_le] at y; omega
  · exact ⟨_, h.rm, w_edF h he kk⟩
end ARG
end
