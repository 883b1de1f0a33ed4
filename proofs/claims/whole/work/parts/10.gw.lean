abbrev FO : Type := (Nat → Int32) × (Nat → Int64) × (Nat → Nat) × (Nat → Nat → Int32) × (Nat → Nat → Int64)
abbrev GH : Type := Nat → Option (Nat × FO)
abbrev gK : Type := Nat × Nat × Nat
def hu (h : GH) (a : Nat) (x : Nat × FO) : GH := fun b => if b = a then some x else h b
theorem hu_s {h : GH} {a : Nat} {x : Nat × FO} : hu h a x a = some x := by simp [hu]
theorem hu_n {h : GH} {a b : Nat} {x : Nat × FO} (n : b ≠ a) : hu h a x b = h b := by simp [hu, n]
theorem hu_hu {h : GH} {a : Nat} {x y : Nat × FO} : hu (hu h a x) a y = hu h a y := by
  funext b; unfold hu; split <;> rfl
theorem hu_id {h : GH} {a : Nat} {x : Nat × FO} (e : h a = some x) : hu h a x = h := by
  funext b; unfold hu; split
  · rename_i q; subst q; exact e.symm
  · rfl
def fI (o : FO) (k : Nat) : Int32 := o.1 k
def fL (o : FO) (k : Nat) : Int64 := o.2.1 k
def fR (o : FO) (k : Nat) : Nat := o.2.2.1 k
def fA (o : FO) (k i : Nat) : Int32 := o.2.2.2.1 k i
def fB (o : FO) (k i : Nat) : Int64 := o.2.2.2.2 k i
def sI (o : FO) (k : Nat) (v : Int32) : FO := (va_up o.1 k v, o.2)
def sL (o : FO) (k : Nat) (v : Int64) : FO := (o.1, va_up o.2.1 k v, o.2.2)
def sR (o : FO) (k : Nat) (v : Nat) : FO := (o.1, o.2.1, va_up o.2.2.1 k v, o.2.2.2)
def sA (o : FO) (k i : Nat) (x : Int32) : FO := (o.1, o.2.1, o.2.2.1, va_up o.2.2.2.1 k (va_up (o.2.2.2.1 k) i x), o.2.2.2.2)
def sB (o : FO) (k i : Nat) (x : Int64) : FO := (o.1, o.2.1, o.2.2.1, o.2.2.2.1, va_up o.2.2.2.2 k (va_up (o.2.2.2.2 k) i x))
def fo0 : FO := (fun _ => 0, fun _ => 0, fun _ => 0, fun _ _ => 0, fun _ _ => 0)
/-- what the slots of a class are: 0 int, 1 long, 2 reference, 3 own int row, 4 own boolean row, 5 own long row; its length; its place behind the object -/
def g_tab : Nat → List gK
  | 0 => [(0, 0, 0), (0, 0, 0), (0, 0, 0)]
  | 1 => [(0, 0, 0), (0, 0, 0), (0, 0, 0), (0, 0, 0), (0, 0, 0), (0, 0, 0), (0, 0, 0)]
  | 2 => [(3, 40, 1), (3, 40, 2), (3, 40, 3), (3, 40, 4), (3, 40, 5), (3, 40, 6), (5, 40, 7), (1, 0, 0), (0, 0, 0), (0, 0, 0)]
  | 3 => [(0, 0, 0), (0, 0, 0), (0, 0, 0), (0, 0, 0)]
  | 4 => [(0, 0, 0), (2, 0, 0), (0, 0, 0), (2, 0, 0), (3, 6, 9), (0, 0, 0), (4, 200, 10), (0, 0, 0), (2, 0, 0), (0, 0, 0)]
  | 5 => [(0, 0, 0), (0, 0, 0), (0, 0, 0)]
  | 6 => [(0, 0, 0), (0, 0, 0), (0, 0, 0), (0, 0, 0), (0, 0, 0), (0, 0, 0)]
  | 7 => [(0, 0, 0), (0, 0, 0), (0, 0, 0), (0, 0, 0)]
  | 8 => [(2, 0, 0), (2, 0, 0), (2, 0, 0), (2, 0, 0), (2, 0, 0), (2, 0, 0), (1, 0, 0), (3, 6, 21), (3, 6, 22), (3, 8, 23), (0, 0, 0)]
  | 9 => [(0, 0, 0), (0, 0, 0), (3, 200, 1), (3, 200, 2), (3, 200, 3), (3, 200, 4), (3, 200, 5), (4, 200, 6), (3, 1200, 7), (3, 6, 8), (0, 0, 0), (3, 40, 9), (3, 40, 10), (3, 40, 11), (3, 40, 12), (3, 40, 13), (3, 40, 14), (4, 40, 15), (0, 0, 0), (3, 40, 16), (4, 40, 17), (3, 40, 18), (3, 40, 19), (3, 40, 20), (3, 40, 21), (0, 0, 0), (3, 8, 22), (3, 8, 23), (3, 8, 24), (3, 8, 25), (3, 8, 26), (3, 8, 27), (3, 8, 28), (4, 8, 29), (4, 8, 30), (3, 48, 31), (4, 1600, 32), (3, 8, 33), (3, 320, 34), (3, 320, 35), (3, 320, 36), (3, 320, 37), (3, 160, 38), (3, 160, 39), (3, 160, 40), (3, 160, 41), (3, 6, 42), (3, 8, 43), (0, 0, 0)]
  | _ => []
def g_v (a : Nat) (o : FO) (k : Nat) (q : gK) : Value := match q.1 with
  | 0 => .int (fI o k)
  | 1 => .long (fL o k)
  | 2 => .ref (fR o k)
  | _ => .ref (a + q.2.2)
def g_fs (ci a : Nat) (o : FO) : List Value := (g_tab ci).mapIdx fun k q => g_v a o k q
def g_arr (dA : Nat → ClassId) (o : FO) (k : Nat) (q : gK) : Cell := match q.1 with
  | 3 => arrV (dA 0) q.2.1 (fun j => .int (fA o k j))
  | 4 => arrV (dA 1) q.2.1 (fun j => .int (fA o k j))
  | _ => arrV (dA 2) q.2.1 (fun j => .long (fB o k j))
/-- an ArrayList: its size is int 2, its elements the references -/
def g_list (D : va_G) (dA : Nat → ClassId) (E0 : Nat) (tag : Nat → Nat × Nat) (a : Nat) (o : FO) (H : Heap) : Prop :=
  ∃ (mod : Int32) (ed n : Nat), n < 2000 ∧ fI o 2 = nI n ∧ t_OB a (D.1 0) 3 (D.2 0) H (vp_V [.int mod, .ref ed, .int (nI n)]) ∧
    ((ed = E0 ∧ n = 0) ∨ (∃ (cap : Nat) (f : Nat → Option Nat), (tag ed = (a, 1) ∧ a < ed) ∧ n ≤ cap ∧ 2 ≤ cap ∧ cap ≤ 10 + n + n / 2 ∧ H[ed]? = some (arrV (dA 3) cap (fun j => va_rf (f j))) ∧ ∀ j, j < n → f j = some (fR o j)))
def g_pic (D : va_G) (dA : Nat → ClassId) (E0 : Nat) (tag : Nat → Nat × Nat) (ci a : Nat) (o : FO) (H : Heap) : Prop := match ci with
  | 0 => g_list D dA E0 tag a o H
  | 10 => H[a]? = some (arrV (dA 2) 1 (fun j => .long (fB o 0 j)))
  | ci => t_OB a (D.1 ci) (g_tab ci).length (D.2 ci) H (vp_V (g_fs ci a o)) ∧ ∀ (k : Nat) (q : gK), (g_tab ci)[k]? = some q → 3 ≤ q.1 → tag (a + q.2.2) = (a, k + 1) ∧ H[a + q.2.2]? = some (g_arr dA o k q)
def GWt (D : va_G) (dA : Nat → ClassId) (E0 B0 : Nat) (tag : Nat → Nat × Nat) (h : GH) (H : Heap) : Prop :=
  ∀ (a ci : Nat) (o : FO), h a = some (ci, o) → B0 ≤ a ∧ tag a = (a, 0) ∧ g_pic D dA E0 tag ci a o H
def GW (D : va_G) (dA : Nat → ClassId) (E0 B0 : Nat) (h : GH) (H : Heap) : Prop := ∃ tag, GWt D dA E0 B0 tag h H
/-- the classes with a table of slots -/
def g_nice (ci : Nat) : Bool := ci != 0 && ci != 10
theorem g_pic_nice {D : va_G} {dA : Nat → ClassId} {E0 : Nat} {tag : Nat → Nat × Nat} {ci a : Nat} {o : FO} {H : Heap} (hn : g_nice ci = true) :
    g_pic D dA E0 tag ci a o H = (t_OB a (D.1 ci) (g_tab ci).length (D.2 ci) H (vp_V (g_fs ci a o)) ∧ ∀ (k : Nat) (q : gK), (g_tab ci)[k]? = some q → 3 ≤ q.1 → tag (a + q.2.2) = (a, k + 1) ∧ H[a + q.2.2]? = some (g_arr dA o k q)) := by
  unfold g_nice at hn
  unfold g_pic
  split
  · simp at hn
  · simp at hn
  · rfl
theorem t_OB_lt {a : Nat} {cC : ClassId} {N : Nat} {iS : Nat → Nat} {H : Heap} {V : Nat → Value} (h : t_OB a cC N iS H V) : a < H.size := by
  obtain ⟨cell, h1, -⟩ := h
  exact (Array.getElem?_eq_some_iff.mp h1).1
theorem some_lt {H : Heap} {a : Nat} {c : Cell} (h : H[a]? = some c) : a < H.size := (Array.getElem?_eq_some_iff.mp h).1
theorem g_pic_lt {D : va_G} {dA : Nat → ClassId} {E0 : Nat} {tag : Nat → Nat × Nat} {ci a : Nat} {o : FO} {H : Heap} (h : g_pic D dA E0 tag ci a o H) : a < H.size := by
  unfold g_pic at h
  split at h
  · obtain ⟨_, _, _, _, _, h, -⟩ := h
    exact t_OB_lt h
  · exact some_lt h
  · exact t_OB_lt h.1
/-- another heap, and other tags, that agree on the cells of the object -/
theorem g_pic_kept {D : va_G} {dA : Nat → ClassId} {E0 : Nat} {tag tag' : Nat → Nat × Nat} {ci a : Nat} {o : FO} {H H' : Heap} (h : g_pic D dA E0 tag ci a o H) (ha : tag a = (a, 0))
    (hq : ∀ q, q < H.size → (tag q).1 = a → H'[q]? = H[q]? ∧ tag' q = tag q) : g_pic D dA E0 tag' ci a o H' := by
  have hlt := g_pic_lt h
  have h0 := (hq a hlt (by rw [ha])).1
  unfold g_pic at h ⊢
  split at h
  · obtain ⟨mod, ed, n, h1, h2, h3, h4⟩ := h
    refine ⟨mod, ed, n, h1, h2, h3.kept h0, ?_⟩
    rcases h4 with h4 | ⟨cap, f, t1, t2, t3, t4, t5, t6⟩
    · exact Or.inl h4
    · have hk := hq ed (some_lt t5) (by rw [t1.1])
      exact Or.inr ⟨cap, f, ⟨hk.2.trans t1.1, t1.2⟩, t2, t3, t4, hk.1.trans t5, t6⟩
  · exact h0.trans h
  · refine ⟨h.1.kept h0, fun k q h1 h2 => ?_⟩
    obtain ⟨t1, t2⟩ := h.2 k q h1 h2
    have hk := hq _ (some_lt t2) (by rw [t1])
    exact ⟨hk.2.trans t1, hk.1.trans t2⟩
theorem GWt.upd {D : va_G} {dA : Nat → ClassId} {E0 B0 : Nat} {tag tag' : Nat → Nat × Nat} {h : GH} {H H' : Heap} {a ci : Nat} {o : FO} (hG : GWt D dA E0 B0 tag h H) (hB : B0 ≤ a) (ha : tag' a = (a, 0))
    (hq : ∀ q, q < H.size → (tag q).1 ≠ a → H'[q]? = H[q]? ∧ tag' q = tag q) (hp : g_pic D dA E0 tag' ci a o H') : GWt D dA E0 B0 tag' (hu h a (ci, o)) H' := by
  intro b cb ob hb
  by_cases e : b = a
  · subst e
    rw [hu_s] at hb
    cases hb
    exact ⟨hB, ha, hp⟩
  · rw [hu_n e] at hb
    obtain ⟨g1, g2, g3⟩ := hG b cb ob hb
    have hlt := g_pic_lt g3
    refine ⟨g1, (hq b hlt (by rw [g2]; exact e)).2.trans g2, g_pic_kept g3 g2 fun q h1 h2 => hq q h1 (by rw [h2]; exact e)⟩
/-- the same objects in another heap -/
theorem GWt.kept {D : va_G} {dA : Nat → ClassId} {E0 B0 : Nat} {tag tag' : Nat → Nat × Nat} {h : GH} {H H' : Heap} (hG : GWt D dA E0 B0 tag h H) (hq : ∀ q, q < H.size → H'[q]? = H[q]? ∧ tag' q = tag q) : GWt D dA E0 B0 tag' h H' := by
  intro b cb ob hb
  obtain ⟨g1, g2, g3⟩ := hG b cb ob hb
  exact ⟨g1, (hq b (g_pic_lt g3)).2.trans g2, g_pic_kept g3 g2 fun q h1 _ => hq q h1⟩
theorem GWt.lt {D : va_G} {dA : Nat → ClassId} {E0 B0 : Nat} {tag : Nat → Nat × Nat} {h : GH} {H : Heap} (hG : GWt D dA E0 B0 tag h H) {a ci : Nat} {o : FO} (e : h a = some (ci, o)) : a < H.size := g_pic_lt (hG a ci o e).2.2
theorem g_fs_len {ci a : Nat} {o : FO} : (g_fs ci a o).length = (g_tab ci).length := by simp [g_fs]
theorem g_fs_at {ci a k : Nat} {o : FO} {q : gK} (h : (g_tab ci)[k]? = some q) : (g_fs ci a o)[k]? = some (g_v a o k q) := by
  simp [g_fs, h]
theorem g_fs_V {ci a k : Nat} {o : FO} {q : gK} (h : (g_tab ci)[k]? = some q) : vp_V (g_fs ci a o) k = g_v a o k q := by
  simp [vp_V, g_fs_at h]
/-- words that stay true when the machine warms -/
def g_ok : Cond → Bool
  | .methodLinkNest .. | .fieldLinkNest .. => true
  | w => w.onTables && w.keepsFace
def TW : List Cond := lw_tbl.filter fun w => goodWord w || g_ok w
theorem tw_in {w : Cond} (i : Nat) (h : lw_tbl[i]? = some w) (hg : (goodWord w || g_ok w) = true) : w ∈ TW := List.mem_filter.mpr ⟨List.mem_of_getElem? h, hg⟩
theorem tw_tbl {w : Cond} (h : w ∈ TW) : w ∈ lw_tbl := (List.mem_filter.mp h).1
theorem g_ok_go {w : Cond} {A A' : Array Value} {s U : State} (hW : s.WarmedH U.vm) (hg : (goodWord w || g_ok w) = true) (h : w.before A s = true) : w.before A' U = true := by
  simp only [Bool.or_eq_true] at hg
  rcases hg with hg | hg
  · exact word_at hW (good_of_word hg) h
  · unfold g_ok at hg
    split at hg
    · exact va_Nw.use rfl (va_Nw.warmM hW (va_Nw.of rfl h))
    · exact va_Nw.use rfl (va_Nw.warmF hW (va_Nw.of rfl h))
    · simp only [Bool.and_eq_true] at hg
      have h1 := Cond.before_shiftedFace (args := A) (State.Shifted.of_warmed hW) _ hg.2 h
      rw [Cond.onTables_vm (A' := A') (U' := U) U.vm _ hg.1] at h1
      exact h1
abbrev gA (B0 : Nat) : Nat → Prop := fun q => B0 ≤ q
abbrev g_tys (dA : Nat → ClassId) : List (ClassId × FieldType) := [(dA 0, .int), (dA 1, .boolean), (dA 2, .long), (dA 3, .object "java/lang/Object")]
def g_strs : List (String × Nat × String) := [("CanvasRoom", 323, "no such hand"), ("CanvasRoom", 330, "out of range"), ("CanvasRoom", 63, "no room for another shape or act"), ("CanvasRoom", 335, "no such shape"), ("CanvasRoom", 337, "not there, taken down, or no room for another act"), ("CanvasRoom", 111, "a shape cannot be joined to itself"), ("CanvasRoom", 120, "no live act, or an edition holds it"), ("CanvasRoom", 133, "nothing to redo"), ("CanvasRoom", 339, "no such act"), ("CanvasRoom", 147, "the shape is not there"), ("CanvasRoom", 328, "no such cell"), ("CanvasRoom", 181, "no shape is seen, or no room for another edition"), ("CanvasRoom", 344, "no such edition"), ("CanvasRoom", 212, "withdrawn already, or a copy was sold"), ("CanvasRoom", 326, "no such buyer"), ("CanvasRoom", 242, "withdrawn, or no copy is left"), ("CanvasRoom", 346, "no such copy"), ("CanvasRoom", 278, "the copy is not SOLD, or the buyer owns it"), ("CanvasRoom", 286, "taken down already"), ("CanvasRoom", 348, "the copy is not CHANGED")]
def g_ncs : List (String × String) := [("java/lang/IndexOutOfBoundsException", "java/lang/IllegalArgumentException"), ("java/lang/IndexOutOfBoundsException", "java/lang/IllegalStateException"), ("java/lang/IllegalArgumentException", "java/lang/IndexOutOfBoundsException"), ("java/lang/IllegalArgumentException", "java/lang/IllegalStateException"), ("java/lang/IllegalStateException", "java/lang/IndexOutOfBoundsException"), ("java/lang/IllegalStateException", "java/lang/IllegalArgumentException")]
/-- the surroundings of a call: what the tables and the statics say -/
def gE (D : va_G) (dA : Nat → ClassId) (E0 B0 : Nat) (U : State) : Prop :=
  va_K D vwCl (g_tys dA) U ∧ (∀ w ∈ TW, w.before #[] U = true) ∧ (∀ q ∈ g_strs, ∃ sa, vk_R q.1 q.2.1 q.2.2 sa U) ∧
  vx_Zq Bundle.tN "UNASSIGNED_STACK" Bundle.steD (gA B0) U U.heap ∧ vx_Zq Bundle.tN "SUPPRESSED_SENTINEL" Bundle.listD (gA B0) U U.heap ∧
  va_Z "java/util/ArrayList" "DEFAULTCAPACITY_EMPTY_ELEMENTDATA" "[Ljava/lang/Object;" (.ref E0) (gA B0) U U.heap ∧
  (E0 < B0 ∧ ∃ cell : Cell, U.heap[E0]? = some cell ∧ U.isArrayOf cell (.object "java/lang/Object") ∧ cell.vm ≠ .unknown ∧ cell.slots.size = 0) ∧
  ((∃ mi, va_Mi "[Ljava/lang/Object;" mi U) ∧ va_AO "java/lang/Object" U ∧ ∀ q ∈ g_ncs, va_Nc q.1 q.2 U) ∧ B0 ≤ U.heap.size
theorem gE_go {D : va_G} {dA : Nat → ClassId} {E0 B0 : Nat} {s U : State} {H : Heap} {locs : List Loc} (h : gE D dA E0 B0 s) (hS : va_S (gA B0) s.heap H locs) (hU : U.heap = H) (hW : s.WarmedH U.vm) : gE D dA E0 B0 U := by
  obtain ⟨h1, h2, h3, h4, h5, h6, ⟨h7, cell, h8, h9, h10, h11⟩, ⟨⟨mi, h12⟩, h14, h15⟩, h13⟩ := h
  have hq : ∀ a : Nat, a < s.heap.size → ¬ gA B0 a → U.heap[a]? = s.heap[a]? := fun a x y => by rw [hU]; exact hS.2.1 a x y
  refine ⟨h1.moved hW.alike, fun w hw => g_ok_go hW (List.mem_filter.mp hw).2 (h2 w hw), fun q hq => ?_, (h4.moved hW.alike).kept hq, (h5.moved hW.alike).kept hq, (h6.moved hW.alike).kept hq, ⟨h7, cell, ?_, State.isArrayOf_alike hW.alike h9, h10, h11⟩, ⟨⟨mi, h12.moved hW.alike⟩, h14.moved hW.alike, fun q hq => (h15 q hq).moved hW.alike⟩, by rw [hU]; exact Nat.le_trans h13 hS.1⟩
  · obtain ⟨sa, h⟩ := h3 q hq
    exact ⟨sa, h.warm hW⟩
  · rw [hq E0 (some_lt h8) (Nat.not_le.mpr h7)]; exact h8
abbrev gWx : Type := Launch × va_G × (Nat → ClassId) × Nat × Nat
abbrev yl (Y : gWx) := Y.1
abbrev yD (Y : gWx) := Y.2.1
abbrev ydA (Y : gWx) := Y.2.2.1
abbrev yE0 (Y : gWx) := Y.2.2.2.1
abbrev yB0 (Y : gWx) := Y.2.2.2.2
def yW (Y : gWx) (h : GH) (H : Heap) : Prop := GW (yD Y) (ydA Y) (yE0 Y) (yB0 Y) h H
def yE (Y : gWx) (U : State) : Prop := gE (yD Y) (ydA Y) (yE0 Y) (yB0 Y) U
abbrev gCx : Type := gWx × Program × Env × Room × State × MethodId × Array Value × List Frame × Method × Code × (State → Prop) × Nat
abbrev xY (X : gCx) := X.1
abbrev xp (X : gCx) := X.2.1
abbrev xe (X : gCx) := X.2.2.1
abbrev xR (X : gCx) := X.2.2.2.1
abbrev xs (X : gCx) := X.2.2.2.2.1
abbrev xm (X : gCx) := X.2.2.2.2.2.1
abbrev xa (X : gCx) := X.2.2.2.2.2.2.1
abbrev xb (X : gCx) := X.2.2.2.2.2.2.2.1
abbrev xh (X : gCx) := X.2.2.2.2.2.2.2.2.1
abbrev xc (X : gCx) := X.2.2.2.2.2.2.2.2.2.1
abbrev xQ (X : gCx) := X.2.2.2.2.2.2.2.2.2.2.1
abbrev xn (X : gCx) := X.2.2.2.2.2.2.2.2.2.2.2
abbrev gV (X : gCx) (H : Heap) (locs : List Loc) (mc ms : Nat) (g : JFrame) : Prop := W (xp X) (yl (xY X)) (xe X) (xR X) (xs X) (xm X) (xa X) (xb X) (xh X) (xc X) H locs mc ms (xQ X) g
/-- the machine at pc, with these locals, this stack and this heap of objects, comes to its end -/
def gX (X : gCx) (mc ms pc : Nat) (loc : List (Nat × Value)) (stk : List Value) (h : GH) : Prop :=
  ∀ (H : Heap) (locs : List Loc) (ls : Array Slot), va_S (gA (yB0 (xY X))) (xs X).heap H locs → yW (xY X) h H → lv_has ls (xn X) loc → gV X H locs mc ms (F0 (xm X) pc ls stk)
/-- what a method's walk stands on -/
def gC (X : gCx) (cc : ByteArray) (own : String) (ret : Option FieldType) (rm : Room) : Prop :=
  (xp X).tables.exec = Jvm.exec ∧ (xc X).code = cc ∧ (xc X).maxLocals = xn X ∧ (xs X).vm.findClass own = some (xm X).cls ∧ (xh X).sig.returnType = ret ∧ (xh X).locks = false ∧ yE (xY X) (xs X) ∧ xR X = rm
theorem gC.hts {X : gCx} {cc : ByteArray} {own : String} {ret : Option FieldType} {rm : Room} (C : gC X cc own ret rm) : ∀ w ∈ TW, w.before (xa X) (xs X) = true := fun w hw =>
  g_ok_go (s := xs X) (U := xs X) (State.WarmedH.refl _) (List.mem_filter.mp hw).2 (C.2.2.2.2.2.2.1.2.1 w hw)
theorem gC.ht {X : gCx} {cc : ByteArray} {own : String} {ret : Option FieldType} {rm : Room} (C : gC X cc own ret rm) {w : Cond} (h : w ∈ TW) : w.before (xa X) (xs X) = true := C.hts w h
theorem gC.K {X : gCx} {cc : ByteArray} {own : String} {ret : Option FieldType} {rm : Room} (C : gC X cc own ret rm) : va_K (yD (xY X)) vwCl (g_tys (ydA (xY X))) (xs X) := C.2.2.2.2.2.2.1.1
/-- a class: its place in the lists, its slots and their types -/
def gCl (ci : Nat) (Cn : String) (T : u_T) (N : Nat) (ty : Nat → FieldType) : Prop :=
  vwCl[ci]? = some (Cn, T, N) ∧ N = (g_tab ci).length ∧ (∀ w ∈ u_ws Cn T N, w ∈ TW) ∧ (∀ k, k < N → parseFieldDescriptor (T k).2.2.1 = some (ty k)) ∧ (∀ a, a < N → ∀ b, b < N → a ≠ b → (T a).2.1 ≠ (T b).2.1) ∧ g_nice ci = true
section GROWS
variable {X : gCx} {cc : ByteArray} {own : String} {ret : Option FieldType} {rm : Room} {mc ms pc : Nat} {loc : List (Nat × Value)} {stk : List Value} {h : GH}
theorem r_iconst (C : gC X cc own ret rm) {n : Int} {v : Int32} (hd : decode cc pc = .ok (.iconst n, 1)) (hv : Int32.ofInt n = v) (kk : gX X mc ms (pc + 1) loc (.int v :: stk) h) : gX X mc ms pc loc (stk) h := fun H locs ls hS hG hl => lv_iconst C.1 C.2.1 hd hv (kk H locs ls hS hG hl)
theorem r_bipush (C : gC X cc own ret rm) {n : Int} {v : Int32} (hd : decode cc pc = .ok (.bipush n, 2)) (hv : (Int8.ofInt n).toInt32 = v) (kk : gX X mc ms (pc + 2) loc (.int v :: stk) h) : gX X mc ms pc loc (stk) h := fun H locs ls hS hG hl => lv_bipush C.1 C.2.1 hd hv (kk H locs ls hS hG hl)
theorem r_sipush (C : gC X cc own ret rm) {n : Int} {v : Int32} (hd : decode cc pc = .ok (.sipush n, 3)) (hv : (Int16.ofInt n).toInt32 = v) (kk : gX X mc ms (pc + 3) loc (.int v :: stk) h) : gX X mc ms pc loc (stk) h := fun H locs ls hS hG hl => lv_sipush C.1 C.2.1 hd hv (kk H locs ls hS hG hl)
theorem r_lconst (C : gC X cc own ret rm) {n : Fin 2} {v : Int64} (hd : decode cc pc = .ok (.lconst n, 1)) (hv : Int64.ofNat (n : Nat) = v) (kk : gX X mc ms (pc + 1) loc (.long v :: stk) h) : gX X mc ms pc loc (stk) h := fun H locs ls hS hG hl => lv_lconst C.1 C.2.1 hd hv (kk H locs ls hS hG hl)
theorem r_iadd (C : gC X cc own ret rm) {x y : Int32} (hd : decode cc pc = .ok (.iadd, 1))  (kk : gX X mc ms (pc + 1) loc (.int (x + y) :: stk) h) : gX X mc ms pc loc (.int y :: .int x :: stk) h := fun H locs ls hS hG hl => lv_iadd C.1 C.2.1 hd  (kk H locs ls hS hG hl)
theorem r_isub (C : gC X cc own ret rm) {x y : Int32} (hd : decode cc pc = .ok (.isub, 1))  (kk : gX X mc ms (pc + 1) loc (.int (x - y) :: stk) h) : gX X mc ms pc loc (.int y :: .int x :: stk) h := fun H locs ls hS hG hl => lv_isub C.1 C.2.1 hd  (kk H locs ls hS hG hl)
theorem r_imul (C : gC X cc own ret rm) {x y : Int32} (hd : decode cc pc = .ok (.imul, 1))  (kk : gX X mc ms (pc + 1) loc (.int (x * y) :: stk) h) : gX X mc ms pc loc (.int y :: .int x :: stk) h := fun H locs ls hS hG hl => lv_imul C.1 C.2.1 hd  (kk H locs ls hS hG hl)
theorem r_iand (C : gC X cc own ret rm) {x y : Int32} (hd : decode cc pc = .ok (.iand, 1))  (kk : gX X mc ms (pc + 1) loc (.int (x &&& y) :: stk) h) : gX X mc ms pc loc (.int y :: .int x :: stk) h := fun H locs ls hS hG hl => lv_iand C.1 C.2.1 hd  (kk H locs ls hS hG hl)
theorem r_ior (C : gC X cc own ret rm) {x y : Int32} (hd : decode cc pc = .ok (.ior, 1))  (kk : gX X mc ms (pc + 1) loc (.int (x ||| y) :: stk) h) : gX X mc ms pc loc (.int y :: .int x :: stk) h := fun H locs ls hS hG hl => lv_ior C.1 C.2.1 hd  (kk H locs ls hS hG hl)
theorem r_ixor (C : gC X cc own ret rm) {x y : Int32} (hd : decode cc pc = .ok (.ixor, 1))  (kk : gX X mc ms (pc + 1) loc (.int (x ^^^ y) :: stk) h) : gX X mc ms pc loc (.int y :: .int x :: stk) h := fun H locs ls hS hG hl => lv_ixor C.1 C.2.1 hd  (kk H locs ls hS hG hl)
theorem r_ishl (C : gC X cc own ret rm) {x y : Int32} (hd : decode cc pc = .ok (.ishl, 1))  (kk : gX X mc ms (pc + 1) loc (.int (x <<< (y &&& 31)) :: stk) h) : gX X mc ms pc loc (.int y :: .int x :: stk) h := fun H locs ls hS hG hl => lv_ishl C.1 C.2.1 hd  (kk H locs ls hS hG hl)
theorem r_iushr (C : gC X cc own ret rm) {x y : Int32} (hd : decode cc pc = .ok (.iushr, 1))  (kk : gX X mc ms (pc + 1) loc (.int ((x.toUInt32 >>> (y.toUInt32 &&& Int32.toUInt32 31)).toInt32) :: stk) h) : gX X mc ms pc loc (.int y :: .int x :: stk) h := fun H locs ls hS hG hl => lv_iushr C.1 C.2.1 hd rfl (kk H locs ls hS hG hl)
theorem r_ishr (C : gC X cc own ret rm) {x y : Int32} (hd : decode cc pc = .ok (.ishr, 1))  (kk : gX X mc ms (pc + 1) loc (.int (x >>> (y &&& 31)) :: stk) h) : gX X mc ms pc loc (.int y :: .int x :: stk) h := fun H locs ls hS hG hl => lv_ishr C.1 C.2.1 hd  (kk H locs ls hS hG hl)
theorem r_ineg (C : gC X cc own ret rm) {x : Int32} (hd : decode cc pc = .ok (.ineg, 1))  (kk : gX X mc ms (pc + 1) loc (.int (-x) :: stk) h) : gX X mc ms pc loc (.int x :: stk) h := fun H locs ls hS hG hl => lv_ineg C.1 C.2.1 hd  (kk H locs ls hS hG hl)
theorem r_idiv (C : gC X cc own ret rm) {x y : Int32} (hd : decode cc pc = .ok (.idiv, 1)) (hne : ¬ y = 0) (kk : gX X mc ms (pc + 1) loc (.int (x / y) :: stk) h) : gX X mc ms pc loc (.int y :: .int x :: stk) h := fun H locs ls hS hG hl => lv_idiv C.1 C.2.1 hd hne (kk H locs ls hS hG hl)
theorem r_irem (C : gC X cc own ret rm) {x y : Int32} (hd : decode cc pc = .ok (.irem, 1)) (hne : ¬ y = 0) (kk : gX X mc ms (pc + 1) loc (.int (x - x / y * y) :: stk) h) : gX X mc ms pc loc (.int y :: .int x :: stk) h := fun H locs ls hS hG hl => lv_irem C.1 C.2.1 hd hne (kk H locs ls hS hG hl)
theorem r_ladd (C : gC X cc own ret rm) {x y : Int64} (hd : decode cc pc = .ok (.ladd, 1))  (kk : gX X mc ms (pc + 1) loc (.long (x + y) :: stk) h) : gX X mc ms pc loc (.long y :: .long x :: stk) h := fun H locs ls hS hG hl => lv_ladd C.1 C.2.1 hd  (kk H locs ls hS hG hl)
theorem r_lsub (C : gC X cc own ret rm) {x y : Int64} (hd : decode cc pc = .ok (.lsub, 1))  (kk : gX X mc ms (pc + 1) loc (.long (x - y) :: stk) h) : gX X mc ms pc loc (.long y :: .long x :: stk) h := fun H locs ls hS hG hl => lv_lsub C.1 C.2.1 hd  (kk H locs ls hS hG hl)
theorem r_land (C : gC X cc own ret rm) {x y : Int64} (hd : decode cc pc = .ok (.land, 1))  (kk : gX X mc ms (pc + 1) loc (.long (x &&& y) :: stk) h) : gX X mc ms pc loc (.long y :: .long x :: stk) h := fun H locs ls hS hG hl => lv_land C.1 C.2.1 hd  (kk H locs ls hS hG hl)
theorem r_lor (C : gC X cc own ret rm) {x y : Int64} (hd : decode cc pc = .ok (.lor, 1))  (kk : gX X mc ms (pc + 1) loc (.long (x ||| y) :: stk) h) : gX X mc ms pc loc (.long y :: .long x :: stk) h := fun H locs ls hS hG hl => lv_lor C.1 C.2.1 hd  (kk H locs ls hS hG hl)
theorem r_lxor (C : gC X cc own ret rm) {x y : Int64} (hd : decode cc pc = .ok (.lxor, 1))  (kk : gX X mc ms (pc + 1) loc (.long (x ^^^ y) :: stk) h) : gX X mc ms pc loc (.long y :: .long x :: stk) h := fun H locs ls hS hG hl => lv_lxor C.1 C.2.1 hd  (kk H locs ls hS hG hl)
theorem r_lshl (C : gC X cc own ret rm) {x : Int64} {y : Int32} (hd : decode cc pc = .ok (.lshl, 1))  (kk : gX X mc ms (pc + 1) loc (.long (x <<< (y.toInt64 &&& 63)) :: stk) h) : gX X mc ms pc loc (.int y :: .long x :: stk) h := fun H locs ls hS hG hl => lv_lshl C.1 C.2.1 hd rfl (kk H locs ls hS hG hl)
theorem r_lushr (C : gC X cc own ret rm) {x : Int64} {y : Int32} (hd : decode cc pc = .ok (.lushr, 1))  (kk : gX X mc ms (pc + 1) loc (.long ((x.toUInt64 >>> (y.toInt64.toUInt64 &&& Int64.toUInt64 63)).toInt64) :: stk) h) : gX X mc ms pc loc (.int y :: .long x :: stk) h := fun H locs ls hS hG hl => lv_lushr C.1 C.2.1 hd rfl (kk H locs ls hS hG hl)
theorem r_i2l (C : gC X cc own ret rm) {x : Int32} (hd : decode cc pc = .ok (.i2l, 1))  (kk : gX X mc ms (pc + 1) loc (.long x.toInt64 :: stk) h) : gX X mc ms pc loc (.int x :: stk) h := fun H locs ls hS hG hl => lv_i2l C.1 C.2.1 hd rfl (kk H locs ls hS hG hl)
theorem r_l2i (C : gC X cc own ret rm) {x : Int64} (hd : decode cc pc = .ok (.l2i, 1))  (kk : gX X mc ms (pc + 1) loc (.int x.toInt32 :: stk) h) : gX X mc ms pc loc (.long x :: stk) h := fun H locs ls hS hG hl => lv_l2i C.1 C.2.1 hd rfl (kk H locs ls hS hG hl)
theorem r_dup (C : gC X cc own ret rm) {v : Value} (hd : decode cc pc = .ok (.dup, 1)) (hc : v.category = 1) (kk : gX X mc ms (pc + 1) loc (v :: v :: stk) h) : gX X mc ms pc loc (v :: stk) h := fun H locs ls hS hG hl => lv_dup C.1 C.2.1 hd hc (kk H locs ls hS hG hl)
theorem r_pop (C : gC X cc own ret rm) {v : Value} (hd : decode cc pc = .ok (.pop, 1)) (hc : v.category = 1) (kk : gX X mc ms (pc + 1) loc (stk) h) : gX X mc ms pc loc (v :: stk) h := fun H locs ls hS hG hl => lv_pop C.1 C.2.1 hd hc (kk H locs ls hS hG hl)
theorem r_iload_n (C : gC X cc own ret rm) {k : Fin 4} {x : Int32} (j : Nat) (hd : decode cc pc = .ok (.iload_n k, 1)) (hk : loc[j]? = some ((k : Nat), .int x)) (kk : gX X mc ms (pc + 1) loc (.int x :: stk) h) : gX X mc ms pc loc stk h := fun H locs ls hS hG hl => lv_iload_n C.1 C.2.1 hd rfl (lv_at hl j hk) (kk H locs ls hS hG hl)
theorem r_iload (C : gC X cc own ret rm) {k : Nat} {x : Int32} (j : Nat) (hd : decode cc pc = .ok (.iload k, 2)) (hk : loc[j]? = some (k, .int x)) (kk : gX X mc ms (pc + 2) loc (.int x :: stk) h) : gX X mc ms pc loc stk h := fun H locs ls hS hG hl => lv_iload C.1 C.2.1 hd (lv_at hl j hk) (kk H locs ls hS hG hl)
theorem r_lload_n (C : gC X cc own ret rm) {k : Fin 4} {x : Int64} (j : Nat) (hd : decode cc pc = .ok (.lload_n k, 1)) (hk : loc[j]? = some ((k : Nat), .long x)) (kk : gX X mc ms (pc + 1) loc (.long x :: stk) h) : gX X mc ms pc loc stk h := fun H locs ls hS hG hl => lv_lload_n C.1 C.2.1 hd rfl (lv_at hl j hk) (kk H locs ls hS hG hl)
theorem r_lload (C : gC X cc own ret rm) {k : Nat} {x : Int64} (j : Nat) (hd : decode cc pc = .ok (.lload k, 2)) (hk : loc[j]? = some (k, .long x)) (kk : gX X mc ms (pc + 2) loc (.long x :: stk) h) : gX X mc ms pc loc stk h := fun H locs ls hS hG hl => lv_lload C.1 C.2.1 hd (lv_at hl j hk) (kk H locs ls hS hG hl)
theorem r_aload_n (C : gC X cc own ret rm) {k : Fin 4} {x : Nat} (j : Nat) (hd : decode cc pc = .ok (.aload_n k, 1)) (hk : loc[j]? = some ((k : Nat), .ref x)) (kk : gX X mc ms (pc + 1) loc (.ref x :: stk) h) : gX X mc ms pc loc stk h := fun H locs ls hS hG hl => lv_aload_n C.1 C.2.1 hd rfl (lv_at hl j hk) (kk H locs ls hS hG hl)
theorem r_aload (C : gC X cc own ret rm) {k : Nat} {x : Nat} (j : Nat) (hd : decode cc pc = .ok (.aload k, 2)) (hk : loc[j]? = some (k, .ref x)) (kk : gX X mc ms (pc + 2) loc (.ref x :: stk) h) : gX X mc ms pc loc stk h := fun H locs ls hS hG hl => lv_aload C.1 C.2.1 hd (lv_at hl j hk) (kk H locs ls hS hG hl)
theorem r_istore_n (C : gC X cc own ret rm) {k : Fin 4} {x : Int32} {loc1 : List (Nat × Value)} (hd : decode cc pc = .ok (.istore_n k, 1)) (hn : (k : Nat) < xn X) (hl1 : ((k : Nat), Value.int x) :: loc.filter (fun q => !(q.1 == (k : Nat)) && !(q.1 + 1 == (k : Nat) && q.2.category == 2)) = loc1) (kk : gX X mc ms (pc + 1) loc1 stk h) : gX X mc ms pc loc (.int x :: stk) h := fun H locs ls hS hG hl => lv_istore_n C.1 C.2.1 hd rfl hl hn hl1 (fun ls hl => (kk H locs ls hS hG hl))
theorem r_istore (C : gC X cc own ret rm) {k : Nat} {x : Int32} {loc1 : List (Nat × Value)} (hd : decode cc pc = .ok (.istore k, 2)) (hn : k < xn X) (hl1 : (k, Value.int x) :: loc.filter (fun q => !(q.1 == k) && !(q.1 + 1 == k && q.2.category == 2)) = loc1) (kk : gX X mc ms (pc + 2) loc1 stk h) : gX X mc ms pc loc (.int x :: stk) h := fun H locs ls hS hG hl => lv_istore C.1 C.2.1 hd hl hn hl1 (fun ls hl => (kk H locs ls hS hG hl))
theorem r_lstore_n (C : gC X cc own ret rm) {k : Fin 4} {x : Int64} {loc1 : List (Nat × Value)} (hd : decode cc pc = .ok (.lstore_n k, 1)) (hn : (k : Nat) + 1 < xn X) (hl1 : ((k : Nat), Value.long x) :: loc.filter (fun q => !(q.1 == (k : Nat)) && (!(q.1 == (k : Nat) + 1) && !(q.1 + 1 == (k : Nat) && q.2.category == 2))) = loc1) (kk : gX X mc ms (pc + 1) loc1 stk h) : gX X mc ms pc loc (.long x :: stk) h := fun H locs ls hS hG hl => lv_lstore_n C.1 C.2.1 hd rfl hl hn hl1 (fun ls hl => (kk H locs ls hS hG hl))
theorem r_lstore (C : gC X cc own ret rm) {k : Nat} {x : Int64} {loc1 : List (Nat × Value)} (hd : decode cc pc = .ok (.lstore k, 2)) (hn : k + 1 < xn X) (hl1 : (k, Value.long x) :: loc.filter (fun q => !(q.1 == k) && (!(q.1 == k + 1) && !(q.1 + 1 == k && q.2.category == 2))) = loc1) (kk : gX X mc ms (pc + 2) loc1 stk h) : gX X mc ms pc loc (.long x :: stk) h := fun H locs ls hS hG hl => lv_lstore C.1 C.2.1 hd hl hn hl1 (fun ls hl => (kk H locs ls hS hG hl))
theorem r_astore_n (C : gC X cc own ret rm) {k : Fin 4} {x : Nat} {loc1 : List (Nat × Value)} (hd : decode cc pc = .ok (.astore_n k, 1)) (hn : (k : Nat) < xn X) (hl1 : ((k : Nat), Value.ref x) :: loc.filter (fun q => !(q.1 == (k : Nat)) && !(q.1 + 1 == (k : Nat) && q.2.category == 2)) = loc1) (kk : gX X mc ms (pc + 1) loc1 stk h) : gX X mc ms pc loc (.ref x :: stk) h := fun H locs ls hS hG hl => lv_astore_n C.1 C.2.1 hd rfl hl hn hl1 (fun ls hl => (kk H locs ls hS hG hl))
theorem r_astore (C : gC X cc own ret rm) {k : Nat} {x : Nat} {loc1 : List (Nat × Value)} (hd : decode cc pc = .ok (.astore k, 2)) (hn : k < xn X) (hl1 : (k, Value.ref x) :: loc.filter (fun q => !(q.1 == k) && !(q.1 + 1 == k && q.2.category == 2)) = loc1) (kk : gX X mc ms (pc + 2) loc1 stk h) : gX X mc ms pc loc (.ref x :: stk) h := fun H locs ls hS hG hl => lv_astore C.1 C.2.1 hd hl hn hl1 (fun ls hl => (kk H locs ls hS hG hl))
theorem r_iinc (C : gC X cc own ret rm) {k : Nat} {n : Int} {x v : Int32} {loc1 : List (Nat × Value)} (j : Nat) (hd : decode cc pc = .ok (.iinc k n, 3)) (hk : loc[j]? = some (k, .int x)) (hv : x + Int32.ofInt n = v) (hn : k < xn X) (hl1 : (k, Value.int v) :: loc.filter (fun q => !(q.1 == k) && !(q.1 + 1 == k && q.2.category == 2)) = loc1) (kk : gX X mc ms (pc + 3) loc1 stk h) : gX X mc ms pc loc stk h := fun H locs ls hS hG hl => lv_iinc C.1 C.2.1 hd hl hk hv hn hl1 (fun ls hl => (kk H locs ls hS hG hl))
/-- branches: the kit's rows say which way is which -/
theorem r_goto (C : gC X cc own ret rm) {off : Int} (tgt : Nat) (hd : decode cc pc = .ok (.goto off, 3)) (ht : (pc : Int) + off = (tgt : Int)) (kk : gX X mc ms tgt loc stk h) : gX X mc ms pc loc stk h := fun H locs ls hS hG hl => lv_goto C.1 C.2.1 hd ht (kk H locs ls hS hG hl)
theorem r_widen {mc' ms' : Nat} (h1 : mc ≤ mc') (h2 : ms ≤ ms') (kk : gX X mc' ms' pc loc stk h) : gX X mc ms pc loc stk h := fun H locs ls hS hG hl => W.widen h1 h2 (kk H locs ls hS hG hl)
theorem r_sub {loc1 : List (Nat × Value)} (ks : List Nat) (hl1 : lv_pick loc ks = loc1) (kk : gX X mc ms pc loc1 stk h) : gX X mc ms pc loc stk h := fun H locs ls hS hG hl => kk H locs ls hS hG (lv_sub hl ks hl1)
theorem r_icmp_eq (C : gC X cc own ret rm) {x y : Int32} {off : Int} (tgt : Nat) (hd : decode cc pc = .ok (.if_icmp .eq off, 3)) (ht : (pc : Int) + off = (tgt : Int)) (kt : x = y → gX X mc ms tgt loc stk h) (kf : ¬ x = y → gX X mc ms (pc + 3) loc stk h) : gX X mc ms pc loc (.int y :: .int x :: stk) h := fun H locs ls hS hG hl => lv_icmp_eq C.1 C.2.1 hd ht (fun q => kt q H locs ls hS hG hl) (fun q => kf q H locs ls hS hG hl)
theorem r_if_eq (C : gC X cc own ret rm) {x : Int32} {off : Int} (tgt : Nat) (hd : decode cc pc = .ok (.ifCond .eq off, 3)) (ht : (pc : Int) + off = (tgt : Int)) (kt : x = 0 → gX X mc ms tgt loc stk h) (kf : ¬ x = 0 → gX X mc ms (pc + 3) loc stk h) : gX X mc ms pc loc (.int x :: stk) h := fun H locs ls hS hG hl => lv_if_eq C.1 C.2.1 hd ht (fun q => kt q H locs ls hS hG hl) (fun q => kf q H locs ls hS hG hl)
theorem r_icmp_ne (C : gC X cc own ret rm) {x y : Int32} {off : Int} (tgt : Nat) (hd : decode cc pc = .ok (.if_icmp .ne off, 3)) (ht : (pc : Int) + off = (tgt : Int)) (kt : ¬ x = y → gX X mc ms tgt loc stk h) (kf : x = y → gX X mc ms (pc + 3) loc stk h) : gX X mc ms pc loc (.int y :: .int x :: stk) h := fun H locs ls hS hG hl => lv_icmp_ne C.1 C.2.1 hd ht (fun q => kt q H locs ls hS hG hl) (fun q => kf q H locs ls hS hG hl)
theorem r_if_ne (C : gC X cc own ret rm) {x : Int32} {off : Int} (tgt : Nat) (hd : decode cc pc = .ok (.ifCond .ne off, 3)) (ht : (pc : Int) + off = (tgt : Int)) (kt : ¬ x = 0 → gX X mc ms tgt loc stk h) (kf : x = 0 → gX X mc ms (pc + 3) loc stk h) : gX X mc ms pc loc (.int x :: stk) h := fun H locs ls hS hG hl => lv_if_ne C.1 C.2.1 hd ht (fun q => kt q H locs ls hS hG hl) (fun q => kf q H locs ls hS hG hl)
theorem r_icmp_lt (C : gC X cc own ret rm) {x y : Int32} {off : Int} (tgt : Nat) (hd : decode cc pc = .ok (.if_icmp .lt off, 3)) (ht : (pc : Int) + off = (tgt : Int)) (kt : x < y → gX X mc ms tgt loc stk h) (kf : ¬ x < y → gX X mc ms (pc + 3) loc stk h) : gX X mc ms pc loc (.int y :: .int x :: stk) h := fun H locs ls hS hG hl => lv_icmp_lt C.1 C.2.1 hd ht (fun q => kt q H locs ls hS hG hl) (fun q => kf q H locs ls hS hG hl)
theorem r_if_lt (C : gC X cc own ret rm) {x : Int32} {off : Int} (tgt : Nat) (hd : decode cc pc = .ok (.ifCond .lt off, 3)) (ht : (pc : Int) + off = (tgt : Int)) (kt : x < 0 → gX X mc ms tgt loc stk h) (kf : ¬ x < 0 → gX X mc ms (pc + 3) loc stk h) : gX X mc ms pc loc (.int x :: stk) h := fun H locs ls hS hG hl => lv_if_lt C.1 C.2.1 hd ht (fun q => kt q H locs ls hS hG hl) (fun q => kf q H locs ls hS hG hl)
theorem r_icmp_ge (C : gC X cc own ret rm) {x y : Int32} {off : Int} (tgt : Nat) (hd : decode cc pc = .ok (.if_icmp .ge off, 3)) (ht : (pc : Int) + off = (tgt : Int)) (kt : y ≤ x → gX X mc ms tgt loc stk h) (kf : ¬ y ≤ x → gX X mc ms (pc + 3) loc stk h) : gX X mc ms pc loc (.int y :: .int x :: stk) h := fun H locs ls hS hG hl => lv_icmp_ge C.1 C.2.1 hd ht (fun q => kt q H locs ls hS hG hl) (fun q => kf q H locs ls hS hG hl)
theorem r_if_ge (C : gC X cc own ret rm) {x : Int32} {off : Int} (tgt : Nat) (hd : decode cc pc = .ok (.ifCond .ge off, 3)) (ht : (pc : Int) + off = (tgt : Int)) (kt : 0 ≤ x → gX X mc ms tgt loc stk h) (kf : ¬ 0 ≤ x → gX X mc ms (pc + 3) loc stk h) : gX X mc ms pc loc (.int x :: stk) h := fun H locs ls hS hG hl => lv_if_ge C.1 C.2.1 hd ht (fun q => kt q H locs ls hS hG hl) (fun q => kf q H locs ls hS hG hl)
theorem r_icmp_gt (C : gC X cc own ret rm) {x y : Int32} {off : Int} (tgt : Nat) (hd : decode cc pc = .ok (.if_icmp .gt off, 3)) (ht : (pc : Int) + off = (tgt : Int)) (kt : y < x → gX X mc ms tgt loc stk h) (kf : ¬ y < x → gX X mc ms (pc + 3) loc stk h) : gX X mc ms pc loc (.int y :: .int x :: stk) h := fun H locs ls hS hG hl => lv_icmp_gt C.1 C.2.1 hd ht (fun q => kt q H locs ls hS hG hl) (fun q => kf q H locs ls hS hG hl)
theorem r_if_gt (C : gC X cc own ret rm) {x : Int32} {off : Int} (tgt : Nat) (hd : decode cc pc = .ok (.ifCond .gt off, 3)) (ht : (pc : Int) + off = (tgt : Int)) (kt : 0 < x → gX X mc ms tgt loc stk h) (kf : ¬ 0 < x → gX X mc ms (pc + 3) loc stk h) : gX X mc ms pc loc (.int x :: stk) h := fun H locs ls hS hG hl => lv_if_gt C.1 C.2.1 hd ht (fun q => kt q H locs ls hS hG hl) (fun q => kf q H locs ls hS hG hl)
theorem r_icmp_le (C : gC X cc own ret rm) {x y : Int32} {off : Int} (tgt : Nat) (hd : decode cc pc = .ok (.if_icmp .le off, 3)) (ht : (pc : Int) + off = (tgt : Int)) (kt : x ≤ y → gX X mc ms tgt loc stk h) (kf : ¬ x ≤ y → gX X mc ms (pc + 3) loc stk h) : gX X mc ms pc loc (.int y :: .int x :: stk) h := fun H locs ls hS hG hl => lv_icmp_le C.1 C.2.1 hd ht (fun q => kt q H locs ls hS hG hl) (fun q => kf q H locs ls hS hG hl)
theorem r_if_le (C : gC X cc own ret rm) {x : Int32} {off : Int} (tgt : Nat) (hd : decode cc pc = .ok (.ifCond .le off, 3)) (ht : (pc : Int) + off = (tgt : Int)) (kt : x ≤ 0 → gX X mc ms tgt loc stk h) (kf : ¬ x ≤ 0 → gX X mc ms (pc + 3) loc stk h) : gX X mc ms pc loc (.int x :: stk) h := fun H locs ls hS hG hl => lv_if_le C.1 C.2.1 hd ht (fun q => kt q H locs ls hS hG hl) (fun q => kf q H locs ls hS hG hl)
end GROWS
section GROWS2
variable {X : gCx} {cc : ByteArray} {own : String} {ret : Option FieldType} {rm : Room} {mc ms pc : Nat} {loc : List (Nat × Value)} {stk : List Value} {h : GH}
theorem g_ob {X : gCx} {h : GH} {H : Heap} {a ci : Nat} {o : FO} (hG : yW (xY X) h H) (hn : g_nice ci = true) (hg : h a = some (ci, o)) : t_OB a ((yD (xY X)).1 ci) (g_tab ci).length ((yD (xY X)).2 ci) H (vp_V (g_fs ci a o)) ∧ ∀ (k : Nat) (q : gK), (g_tab ci)[k]? = some q → 3 ≤ q.1 → H[a + q.2.2]? = some (g_arr (ydA (xY X)) o k q) := by
  obtain ⟨tag, hG⟩ := hG
  have h3 := (hG a ci o hg).2.2
  rw [g_pic_nice hn] at h3
  exact ⟨h3.1, fun k q h1 h2 => (h3.2 k q h1 h2).2⟩
theorem r_get (C : gC X cc own ret rm) {ci a k index N : Nat} {Cn ref : String} {T : u_T} {ty : Nat → FieldType} {o : FO} {q : gK} {v : Value} (hB : gCl ci Cn T N ty) (hd : decode cc pc = .ok (.getfield index, 3)) (hq : (g_tab ci)[k]? = some q) (hl1 : Cond.fieldLink own index ref (T k).2.1 (T k).2.2.1 ∈ TW) (hr : (T k).1 = ref) (hg : h a = some (ci, o)) (hv : g_v a o k q = v) (kk : gX X mc ms (pc + 3) loc (v :: stk) h) : gX X mc ms pc loc (.ref a :: stk) h := fun H locs ls hS hG hl => by
  obtain ⟨c1, c2, c3, -, -, c6⟩ := hB
  subst hr hv
  have h1 := (g_ob hG c6 hg).1
  have hk : k < N := by rw [c2]; exact (List.getElem?_eq_some_iff.mp hq).1
  exact va_get (ws := [(a, .inr (ci, g_fs ci a o))]) (ci := ci) (C := Cn) (T := T) (N := N) C.1 C.2.1 C.hts c3 C.2.2.2.1 C.K (fun k q hk => by
    cases k with
    | zero => cases hk; exact ⟨_, c1, by rw [c2]; exact h1⟩
    | succ k => simp at hk) 0 rfl c1 k hk (C.ht hl1) (fun _ h9 => h9) (g_fs_at hq) hd (kk H locs ls hS hG hl)
theorem g_arrW {X : gCx} {h : GH} {H : Heap} {a ci k : Nat} {o : FO} {q : gK} (hG : yW (xY X) h H) (hn : g_nice ci = true) (hg : h a = some (ci, o)) (hq : (g_tab ci)[k]? = some q) (h3 : 3 ≤ q.1) : H[a + q.2.2]? = some (g_arr (ydA (xY X)) o k q) := (g_ob hG hn hg).2 k q hq h3
theorem r_iald (C : gC X cc own ret rm) {ci a k n off : Nat} {o : FO} {i : Int32} (hd : decode cc pc = .ok (.iaload, 1)) (hn : g_nice ci = true) (hq : (g_tab ci)[k]? = some (3, n, off)) (hg : h a = some (ci, o)) (hin : vp_in i n) (kk : gX X mc ms (pc + 1) loc (.int (fA o k i.toNatClampNeg) :: stk) h) : gX X mc ms pc loc (.int i :: .ref (a + off) :: stk) h := fun H locs ls hS hG hl => by
  have h1 := g_arrW hG hn hg hq (Nat.le_refl 3)
  exact va_iald (ws := [(a + off, .inl ((ydA (xY X)) 0, n, .inl (fA o k)))]) C.1 C.2.1 C.K (fun k q hk => by
    cases k with
    | zero => cases hk; exact h1
    | succ k => simp at hk) 0 0 rfl rfl hin hd (kk H locs ls hS hG hl)
theorem r_zald (C : gC X cc own ret rm) {ci a k n off : Nat} {o : FO} {i : Int32} (hd : decode cc pc = .ok (.baload, 1)) (hn : g_nice ci = true) (hq : (g_tab ci)[k]? = some (4, n, off)) (hg : h a = some (ci, o)) (hin : vp_in i n) (kk : gX X mc ms (pc + 1) loc (.int (fA o k i.toNatClampNeg) :: stk) h) : gX X mc ms pc loc (.int i :: .ref (a + off) :: stk) h := fun H locs ls hS hG hl => by
  have h1 := g_arrW hG hn hg hq (by decide : 3 ≤ 4)
  exact va_zald (ws := [(a + off, .inl ((ydA (xY X)) 1, n, .inl (fA o k)))]) C.1 C.2.1 C.K (fun k q hk => by
    cases k with
    | zero => cases hk; exact h1
    | succ k => simp at hk) 0 1 rfl rfl hin hd (kk H locs ls hS hG hl)
theorem r_lald (C : gC X cc own ret rm) {ci a k n off : Nat} {o : FO} {i : Int32} (hd : decode cc pc = .ok (.laload, 1)) (hn : g_nice ci = true) (hq : (g_tab ci)[k]? = some (5, n, off)) (hg : h a = some (ci, o)) (hin : vp_in i n) (kk : gX X mc ms (pc + 1) loc (.long (fB o k i.toNatClampNeg) :: stk) h) : gX X mc ms pc loc (.int i :: .ref (a + off) :: stk) h := fun H locs ls hS hG hl => by
  have h1 := g_arrW hG hn hg hq (by decide : 3 ≤ 5)
  exact va_lald (ws := [(a + off, .inl ((ydA (xY X)) 2, n, .inr (.inl (fB o k))))]) C.1 C.2.1 C.K (fun k q hk => by
    cases k with
    | zero => cases hk; exact h1
    | succ k => simp at hk) 0 2 rfl rfl hin hd (kk H locs ls hS hG hl)
/-- a store into the object itself -/
theorem g_put {D : va_G} {dA : Nat → ClassId} {E0 B0 : Nat} {h : GH} {H H' : Heap} {a ci k : Nat} {o o' : FO} {q : gK} {v : Value} {cell : Cell} {sl : Nat} (hG : GW D dA E0 B0 h H) (hn : g_nice ci = true) (hg : h a = some (ci, o)) (hq : (g_tab ci)[k]? = some q)
    (hap : ∀ x y, x < (g_tab ci).length → y < (g_tab ci).length → x ≠ y → D.2 ci x ≠ D.2 ci y) (hcell : H[a]? = some cell) (hsl : sl = D.2 ci k) (e1 : H'[a]? = some (cell.setSlot sl v)) (e3 : ∀ q, q ≠ a → H'[q]? = H[q]?)
    (hv : g_v a o' k q = v) (ho : ∀ j qj, j ≠ k → (g_tab ci)[j]? = some qj → g_v a o' j qj = g_v a o j qj) (hr : ∀ j qj, (g_tab ci)[j]? = some qj → 3 ≤ qj.1 → g_arr dA o' j qj = g_arr dA o j qj) : GW D dA E0 B0 (hu h a (ci, o')) H' := by
  obtain ⟨tag, hG⟩ := hG
  obtain ⟨b1, b2, b3⟩ := hG a ci o hg
  refine ⟨tag, hG.upd b1 b2 (fun q _ h2 => ⟨e3 q (fun e => h2 (by rw [e, b2])), rfl⟩) ?_⟩
  rw [g_pic_nice hn] at b3 ⊢
  obtain ⟨⟨cell', q1, q2, q3, q4⟩, b4⟩ := b3
  cases hcell.symm.trans q1
  subst hsl
  have hkl : k < (g_tab ci).length := (List.getElem?_eq_some_iff.mp hq).1
  refine ⟨t_OB.to (V := updV (vp_V (g_fs ci a o)) k v) ⟨_, e1, q2, q3, t_set q4 hap hkl v⟩ (fun j hj => ?_), fun j qj h1 h2 => ?_⟩
  · have hj2 : (g_tab ci)[j]? = some ((g_tab ci)[j]) := List.getElem?_eq_getElem hj
    rw [g_fs_V hj2]
    by_cases e : j = k
    · subst e
      cases hj2.symm.trans hq
      simp [updV, hv]
    · simp only [updV, if_neg e]
      rw [g_fs_V hj2, ho j _ e hj2]
  · obtain ⟨t1, t2⟩ := b4 j qj h1 h2
    refine ⟨t1, ?_⟩
    rw [e3 _ (fun e => ?_), t2, hr j qj h1 h2]
    rw [e, b2] at t1
    cases t1
/-- a store into one of the object's rows -/
theorem g_ast {D : va_G} {dA : Nat → ClassId} {E0 B0 : Nat} {h : GH} {H H' : Heap} {a ci k : Nat} {o o' : FO} {q : gK} (hG : GW D dA E0 B0 h H) (hn : g_nice ci = true) (hg : h a = some (ci, o)) (hq : (g_tab ci)[k]? = some q) (h3 : 3 ≤ q.1)
    (e1 : H'[a + q.2.2]? = some (g_arr dA o' k q)) (e3 : ∀ x, x ≠ a + q.2.2 → H'[x]? = H[x]?)
    (ho : ∀ j qj, (g_tab ci)[j]? = some qj → g_v a o' j qj = g_v a o j qj) (hr : ∀ j qj, j ≠ k → (g_tab ci)[j]? = some qj → 3 ≤ qj.1 → g_arr dA o' j qj = g_arr dA o j qj) : GW D dA E0 B0 (hu h a (ci, o')) H' := by
  obtain ⟨tag, hG⟩ := hG
  obtain ⟨b1, b2, b3⟩ := hG a ci o hg
  rw [g_pic_nice hn] at b3
  obtain ⟨b3, b4⟩ := b3
  obtain ⟨t1, t2⟩ := b4 k q hq h3
  refine ⟨tag, hG.upd b1 b2 (fun x _ h2 => ⟨e3 x (fun e => h2 (by rw [e, t1])), rfl⟩) ?_⟩
  rw [g_pic_nice hn]
  refine ⟨(b3.kept (e3 a (fun e => ?_))).to (fun j hj => ?_), fun j qj h1 h2 => ?_⟩
  · rw [← e, b2] at t1
    cases t1
  · have hj2 : (g_tab ci)[j]? = some ((g_tab ci)[j]) := List.getElem?_eq_getElem hj
    rw [g_fs_V hj2, g_fs_V hj2, ho j _ hj2]
  · by_cases e : j = k
    · subst e
      cases hq.symm.trans h1
      exact ⟨t1, e1⟩
    · obtain ⟨u1, u2⟩ := b4 j qj h1 h2
      refine ⟨u1, ?_⟩
      rw [e3 _ (fun e2 => ?_), u2, hr j qj e h1 h2]
      rw [e2, t1] at u1
      cases u1
      exact e rfl
end GROWS2
