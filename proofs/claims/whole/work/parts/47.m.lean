def rm_X8_seenAnew : Room := { frames := 3, cells := 0, slots := 0, locals := 69 }
theorem mt_X8_seenAnew : gMt yX8_seenAnew cX8_seenAnew 3 (some .int) 2 := ⟨tw1364, tw64, by decide +kernel, by decide +kernel, by decide +kernel⟩
def wp_X8_seenAnew_26 (p0 : Int32) (p1 : Int32) (post : Int32 → FO → Prop) (y1 : Int32) (o : FO) : Prop :=
∀ o7, o7 = sI o 0 y1 →
(((fI o7 0) ≤ 0 → wp_X8_seenAt p0 p1 o7 (fun r10 =>
post r10 o7)) ∧ (¬ (fI o7 0) ≤ 0 → post 0 o7))
def wp_X8_seenAnew_25 (p0 : Int32) (p1 : Int32) (post : Int32 → FO → Prop)  (o : FO) : Prop :=
wp_X8_seenAnew_26 p0 p1 post 1 o
def wp_X8_seenAnew (p0 : Int32) (p1 : Int32) (o : FO) (post : Int32 → FO → Prop) : Prop :=
wp_X8_isIn p0 0 23 (fun r1 =>
((r1 = 0 → wp_X8_seenAnew_25 p0 p1 post o) ∧ (¬ r1 = 0 → wp_X8_isIn p1 0 15 (fun r4 =>
((r4 = 0 → wp_X8_seenAnew_25 p0 p1 post o) ∧ (¬ r4 = 0 → wp_X8_seenAnew_26 p0 p1 post 0 o))))))
set_option maxHeartbeats 4000000 in
set_option maxRecDepth 100000 in
theorem t_X8_seenAnew_26 {X : gCx} {a : Nat}  {p0 : Int32} {p1 : Int32} {post : Int32 → FO → Prop} {g : GH}   (C : gC X cX8_seenAnew RX8 (some .int) rm_X8_seenAnew) (hn : xn X = 3) (hQ : gRet X (gQi (xY X) (fun r9 g9 => ∃ o9, g9 = hu g a (9, o9) ∧ post r9 o9)) 0 0 ∨ gRex X (gQi (xY X) (fun r9 g9 => ∃ o9, g9 = hu g a (9, o9) ∧ post r9 o9)) (fun _ _ => False) 0 0)    : ∀ (y1 : Int32) (o : FO), wp_X8_seenAnew_26 p0 p1 post y1 o → gX X 0 0 26 [(0, .ref a), (1, .int p0), (2, .int p1)] [.int y1, .ref a] (hu g a (9, o)) := by
  intro y1 o w
  unfold wp_X8_seenAnew_26 at w
  obtain ⟨o7, e8⟩ : ∃ z, z = sI o 0 y1 := ⟨_, rfl⟩
  have w := w o7 e8
  refine rp_X8_X8_thrown C dX8_seenAnew_26 hu_s e8 hu_hu.symm (r_aload_n C 0 dX8_seenAnew_29 rfl (rg_X8_X8_thrown C dX8_seenAnew_30 hu_s (r_if_le C 40 dX8_seenAnew_33 (by decide) (fun c9 => ?_) (fun c9 => ?_))))
  · have w := w.1 c9
    refine r_aload_n C 0 dX8_seenAnew_40 rfl (r_iload_n C 1 dX8_seenAnew_41 rfl (r_iload_n C 2 dX8_seenAnew_42 rfl (r_goi (r_runV C dX8_seenAnew_43 (m_X8_seenAt hu_s w) mt_X8_seenAt tw1353 tw1355 tw47 gcl_9.1 hu_s rfl (stk := []) rfl (Nat.le_of_ble_eq_true rfl) ⟨rfl, rfl, ⟨Nat.le_of_ble_eq_true rfl, Nat.le_of_ble_eq_true rfl⟩, ⟨Nat.le_of_ble_eq_true rfl, Nat.le_of_ble_eq_true rfl⟩⟩) ?_)))
    intro r10 h11 hp
    obtain ⟨rfl, w⟩ := hp
    exact r_iret C hQ dX8_seenAnew_46 rfl (vp_nar_int _) ⟨Nat.le_of_ble_eq_true rfl, Nat.le_of_ble_eq_true rfl⟩ ⟨_, rfl, w⟩
  · have w := w.2 c9
    exact r_iconst C (v := 0) dX8_seenAnew_36 (by decide) (r_goto C 46 dX8_seenAnew_37 (by decide) (r_iret C hQ dX8_seenAnew_46 rfl (vp_nar_int _) ⟨Nat.le_of_ble_eq_true rfl, Nat.le_of_ble_eq_true rfl⟩ ⟨_, rfl, w⟩))
set_option maxHeartbeats 4000000 in
set_option maxRecDepth 100000 in
theorem t_X8_seenAnew_25 {X : gCx} {a : Nat}  {p0 : Int32} {p1 : Int32} {post : Int32 → FO → Prop} {g : GH}   (C : gC X cX8_seenAnew RX8 (some .int) rm_X8_seenAnew) (hn : xn X = 3) (hQ : gRet X (gQi (xY X) (fun r9 g9 => ∃ o9, g9 = hu g a (9, o9) ∧ post r9 o9)) 0 0 ∨ gRex X (gQi (xY X) (fun r9 g9 => ∃ o9, g9 = hu g a (9, o9) ∧ post r9 o9)) (fun _ _ => False) 0 0)    : ∀ (o : FO), wp_X8_seenAnew_25 p0 p1 post o → gX X 0 0 25 [(0, .ref a), (1, .int p0), (2, .int p1)] [.ref a] (hu g a (9, o)) := by
  intro o w
  unfold wp_X8_seenAnew_25 at w
  exact r_iconst C (v := 1) dX8_seenAnew_25 (by decide) (r_sub [0, 1, 2] rfl (t_X8_seenAnew_26 C hn hQ _ _ w))
set_option maxHeartbeats 4000000 in
set_option maxRecDepth 100000 in
theorem m_X8_seenAnew {Y : gWx} {a : Nat}  {p0 : Int32} {p1 : Int32} {post : Int32 → FO → Prop} {g : GH}  {o : FO} (hg : g a = some (9, o))    (w : wp_X8_seenAnew p0 p1 o post) : gMet Y yX8_seenAnew cX8_seenAnew 3 (some .int) rm_X8_seenAnew [.ref a, .int p0, .int p1] g (gQi Y (fun r9 g9 => ∃ o9, g9 = hu g a (9, o9) ∧ post r9 o9)) 0 0 := by
  refine gm_of rfl (Nat.le_of_ble_eq_true rfl) ?_
  intro X hY hn C hnm hQ
  subst hY
  have hQ : gRet X (gQi (xY X) (fun r9 g9 => ∃ o9, g9 = hu g a (9, o9) ∧ post r9 o9)) 0 0 ∨ gRex X (gQi (xY X) (fun r9 g9 => ∃ o9, g9 = hu g a (9, o9) ∧ post r9 o9)) (fun _ _ => False) 0 0 := Or.inl hQ
  have C : gC X cX8_seenAnew RX8 (some .int) rm_X8_seenAnew := C
  refine gX_eq (hu_id hg).symm ?_
  show gX X 0 0 0 [(0, .ref a), (1, .int p0), (2, .int p1)] [] (hu g a (9, o))
  unfold wp_X8_seenAnew at w
  refine r_aload_n C 0 dX8_seenAnew_0 rfl (r_iload_n C 1 dX8_seenAnew_1 rfl (r_iconst C (v := 0) dX8_seenAnew_2 (by decide) (r_bipush C (v := 23) dX8_seenAnew_3 (by decide) (r_goi (r_runS C dX8_seenAnew_5 (m_X8_isIn w) mt_X8_isIn tw1215 tw1216 rfl (stk := [.ref a]) rfl (Nat.le_of_ble_eq_true rfl) ⟨rfl, rfl, ⟨Nat.le_of_ble_eq_true rfl, Nat.le_of_ble_eq_true rfl⟩, ⟨Nat.le_of_ble_eq_true rfl, Nat.le_of_ble_eq_true rfl⟩⟩) ?_))))
  intro r1 h2 hp
  obtain ⟨rfl, w⟩ := hp
  refine r_if_eq C 25 dX8_seenAnew_8 (by decide) (fun c3 => ?_) (fun c3 => ?_)
  · have w := w.1 c3
    exact r_sub [0, 1, 2] rfl (t_X8_seenAnew_25 C hn hQ _ w)
  · have w := w.2 c3
    refine r_iload_n C 2 dX8_seenAnew_11 rfl (r_iconst C (v := 0) dX8_seenAnew_12 (by decide) (r_bipush C (v := 15) dX8_seenAnew_13 (by decide) (r_goi (r_runS C dX8_seenAnew_15 (m_X8_isIn w) mt_X8_isIn tw1215 tw1216 rfl (stk := [.ref a]) rfl (Nat.le_of_ble_eq_true rfl) ⟨rfl, rfl, ⟨Nat.le_of_ble_eq_true rfl, Nat.le_of_ble_eq_true rfl⟩, ⟨Nat.le_of_ble_eq_true rfl, Nat.le_of_ble_eq_true rfl⟩⟩) ?_)))
    intro r4 h5 hp
    obtain ⟨rfl, w⟩ := hp
    refine r_if_eq C 25 dX8_seenAnew_18 (by decide) (fun c6 => ?_) (fun c6 => ?_)
    · have w := w.1 c6
      exact r_sub [0, 1, 2] rfl (t_X8_seenAnew_25 C hn hQ _ w)
    · have w := w.2 c6
      exact r_iconst C (v := 0) dX8_seenAnew_21 (by decide) (r_goto C 26 dX8_seenAnew_22 (by decide) (r_sub [0, 1, 2] rfl (t_X8_seenAnew_26 C hn hQ _ _ w)))
def rm_X8_viewedAt : Room := { frames := 1, cells := 0, slots := 0, locals := 22 }
theorem mt_X8_viewedAt : gMt yX8_viewedAt cX8_viewedAt 9 (some .int) 3 := ⟨tw1385, tw64, by decide +kernel, by decide +kernel, by decide +kernel⟩
def wp_X8_viewedAt_126 (p0 : Int32) (p1 : Int32) (p2 : Int32) (o : FO) (post : Int32 → Prop) (k6 : Int32 → Int32 → Prop) (x5 : Int32) (y0 : Int32)  : Prop :=
k6 y0 (x5 + 1)
def wp_X8_viewedAt_124 (p0 : Int32) (p1 : Int32) (p2 : Int32) (o : FO) (post : Int32 → Prop) (k6 : Int32 → Int32 → Prop) (x4 : Int32) (x5 : Int32)  : Prop :=
wp_X8_viewedAt_126 p0 p1 p2 o post k6 x5 x4
def wp_X8_viewedAt_102 (p0 : Int32) (p1 : Int32) (p2 : Int32) (o : FO) (post : Int32 → Prop) (k6 : Int32 → Int32 → Prop) (x4 : Int32) (x5 : Int32) (x6 : Int32) (x7 : Int32) (y0 : Int32)  : Prop :=
((y0 = 0 → wp_X8_viewedAt_124 p0 p1 p2 o post k6 x4 x5) ∧ (¬ y0 = 0 → vp_in x7 40 ∧
((¬ (fA o 17 x7.toNatClampNeg) = 0 → wp_X8_viewedAt_124 p0 p1 p2 o post k6 x4 x5) ∧ ((fA o 17 x7.toNatClampNeg) = 0 → wp_X8_viewedAt_126 p0 p1 p2 o post k6 x5 x6))))
def wp_X8_viewedAt_101 (p0 : Int32) (p1 : Int32) (p2 : Int32) (o : FO) (post : Int32 → Prop) (k6 : Int32 → Int32 → Prop) (x4 : Int32) (x5 : Int32) (x6 : Int32) (x7 : Int32)  : Prop :=
wp_X8_viewedAt_102 p0 p1 p2 o post k6 x4 x5 x6 x7 0
def wp_X8_viewedAt_6 (p0 : Int32) (p1 : Int32) (p2 : Int32) (o : FO) (post : Int32 → Prop) : Nat → Int32 → Int32 → Prop
  | 0, _, _ => False
  | n + 1, x4, x5 =>
    vp_in p0 8 ∧
    (((fA o 37 p0.toNatClampNeg) ≤ x5 → post x4) ∧ (¬ (fA o 37 p0.toNatClampNeg) ≤ x5 → vp_in ((40 * p0) + x5) 320 ∧
    vp_in ((40 * p0) + x5) 320 ∧
    vp_in ((40 * p0) + x5) 320 ∧
    vp_in (fA o 38 ((40 * p0) + x5).toNatClampNeg) 40 ∧
    wp_X8_isIn p1 (fA o 39 ((40 * p0) + x5).toNatClampNeg) (((fA o 39 ((40 * p0) + x5).toNatClampNeg) + (fA o 12 (fA o 38 ((40 * p0) + x5).toNatClampNeg).toNatClampNeg)) - 1) (fun r7 =>
    ((r7 = 0 → wp_X8_viewedAt_101 p0 p1 p2 o post (fun x4 x5 => wp_X8_viewedAt_6 p0 p1 p2 o post n x4 x5) x4 x5 ((40 * p0) + x5) (fA o 38 ((40 * p0) + x5).toNatClampNeg)) ∧ (¬ r7 = 0 → vp_in ((40 * p0) + x5) 320 ∧
    vp_in ((40 * p0) + x5) 320 ∧
    vp_in (fA o 38 ((40 * p0) + x5).toNatClampNeg) 40 ∧
    wp_X8_isIn p2 (fA o 40 ((40 * p0) + x5).toNatClampNeg) (((fA o 40 ((40 * p0) + x5).toNatClampNeg) + (fA o 13 (fA o 38 ((40 * p0) + x5).toNatClampNeg).toNatClampNeg)) - 1) (fun r13 =>
    ((r13 = 0 → wp_X8_viewedAt_101 p0 p1 p2 o post (fun x4 x5 => wp_X8_viewedAt_6 p0 p1 p2 o post n x4 x5) x4 x5 ((40 * p0) + x5) (fA o 38 ((40 * p0) + x5).toNatClampNeg)) ∧ (¬ r13 = 0 → wp_X8_viewedAt_102 p0 p1 p2 o post (fun x4 x5 => wp_X8_viewedAt_6 p0 p1 p2 o post n x4 x5) x4 x5 ((40 * p0) + x5) (fA o 38 ((40 * p0) + x5).toNatClampNeg) 1))))))))
def wp_X8_viewedAt (p0 : Int32) (p1 : Int32) (p2 : Int32) (o : FO)  (post : Int32 → Prop) : Prop :=
wp_X8_viewedAt_6 p0 p1 p2 o post 1000 ((-1)) 0
set_option maxHeartbeats 4000000 in
set_option maxRecDepth 100000 in
theorem t_X8_viewedAt_126 {X : gCx} {a : Nat}  {p0 : Int32} {p1 : Int32} {p2 : Int32} {post : Int32 → Prop} {g : GH} {o : FO} {k6 : Int32 → Int32 → Prop} (C : gC X cX8_viewedAt RX8 (some .int) rm_X8_viewedAt) (hn : xn X = 9) (hQ : gRet X (gQi (xY X) (fun r9 g9 => g9 = g ∧ post r9)) 0 0 ∨ gRex X (gQi (xY X) (fun r9 g9 => g9 = g ∧ post r9)) (fun _ _ => False) 0 0) (hg : g a = some (9, o))   (hk6 : ∀ (x4 : Int32) (x5 : Int32), k6 x4 x5 → gX X 0 0 6 [(0, .ref a), (1, .int p0), (2, .int p1), (3, .int p2), (4, .int x4), (5, .int x5)] [] g) : ∀ (x5 : Int32) (y0 : Int32), wp_X8_viewedAt_126 p0 p1 p2 o post k6 x5 y0 → gX X 0 0 126 [(0, .ref a), (1, .int p0), (2, .int p1), (3, .int p2), (5, .int x5)] [.int y0] g := by
  intro x5 y0 w
  unfold wp_X8_viewedAt_126 at w
  exact r_istore C dX8_viewedAt_126 (nlt hn (by decide)) rfl (r_iinc C (v := x5 + 1) 5 dX8_viewedAt_128 rfl rfl (nlt hn (by decide)) rfl (r_goto C 6 dX8_viewedAt_131 (by decide) (r_sub [2, 3, 4, 5, 1, 0] rfl (hk6 _ _ w))))
set_option maxHeartbeats 4000000 in
set_option maxRecDepth 100000 in
theorem t_X8_viewedAt_124 {X : gCx} {a : Nat}  {p0 : Int32} {p1 : Int32} {p2 : Int32} {post : Int32 → Prop} {g : GH} {o : FO} {k6 : Int32 → Int32 → Prop} (C : gC X cX8_viewedAt RX8 (some .int) rm_X8_viewedAt) (hn : xn X = 9) (hQ : gRet X (gQi (xY X) (fun r9 g9 => g9 = g ∧ post r9)) 0 0 ∨ gRex X (gQi (xY X) (fun r9 g9 => g9 = g ∧ post r9)) (fun _ _ => False) 0 0) (hg : g a = some (9, o))   (hk6 : ∀ (x4 : Int32) (x5 : Int32), k6 x4 x5 → gX X 0 0 6 [(0, .ref a), (1, .int p0), (2, .int p1), (3, .int p2), (4, .int x4), (5, .int x5)] [] g) : ∀ (x4 : Int32) (x5 : Int32), wp_X8_viewedAt_124 p0 p1 p2 o post k6 x4 x5 → gX X 0 0 124 [(0, .ref a), (1, .int p0), (2, .int p1), (3, .int p2), (4, .int x4), (5, .int x5)] [] g := by
  intro x4 x5 w
  unfold wp_X8_viewedAt_124 at w
  exact r_iload C 4 dX8_viewedAt_124 rfl (r_sub [0, 1, 2, 3, 5] rfl (t_X8_viewedAt_126 C hn hQ hg hk6 _ _ w))
set_option maxHeartbeats 4000000 in
set_option maxRecDepth 100000 in
theorem t_X8_viewedAt_102 {X : gCx} {a : Nat}  {p0 : Int32} {p1 : Int32} {p2 : Int32} {post : Int32 → Prop} {g : GH} {o : FO} {k6 : Int32 → Int32 → Prop} (C : gC X cX8_viewedAt RX8 (some .int) rm_X8_viewedAt) (hn : xn X = 9) (hQ : gRet X (gQi (xY X) (fun r9 g9 => g9 = g ∧ post r9)) 0 0 ∨ gRex X (gQi (xY X) (fun r9 g9 => g9 = g ∧ post r9)) (fun _ _ => False) 0 0) (hg : g a = some (9, o))   (hk6 : ∀ (x4 : Int32) (x5 : Int32), k6 x4 x5 → gX X 0 0 6 [(0, .ref a), (1, .int p0), (2, .int p1), (3, .int p2), (4, .int x4), (5, .int x5)] [] g) : ∀ (x4 : Int32) (x5 : Int32) (x6 : Int32) (x7 : Int32) (y0 : Int32), wp_X8_viewedAt_102 p0 p1 p2 o post k6 x4 x5 x6 x7 y0 → gX X 0 0 102 [(0, .ref a), (1, .int p0), (2, .int p1), (3, .int p2), (4, .int x4), (5, .int x5), (6, .int x6), (7, .int x7)] [.int y0] g := by
  intro x4 x5 x6 x7 y0 w
  unfold wp_X8_viewedAt_102 at w
  refine r_istore C dX8_viewedAt_102 (nlt hn (by decide)) rfl (r_iload C 0 dX8_viewedAt_104 rfl (r_if_eq C 124 dX8_viewedAt_106 (by decide) (fun c16 => ?_) (fun c16 => ?_)))
  · have w := w.1 c16
    exact r_sub [1, 2, 3, 4, 5, 6] rfl (t_X8_viewedAt_124 C hn hQ hg hk6 _ _ w)
  · have w := w.2 c16
    obtain ⟨i17, w⟩ := w
    refine r_aload_n C 1 dX8_viewedAt_109 rfl (rg_X8_X8_isDown C dX8_viewedAt_110 hg (r_iload C 8 dX8_viewedAt_113 rfl (r_zald (ci := 9) (k := 17) C dX8_viewedAt_115 rfl rfl hg i17 (r_if_ne C 124 dX8_viewedAt_116 (by decide) (fun c18 => ?_) (fun c18 => ?_)))))
    · have w := w.1 c18
      exact r_sub [1, 2, 3, 4, 5, 6] rfl (t_X8_viewedAt_124 C hn hQ hg hk6 _ _ w)
    · have w := w.2 c18
      exact r_iload C 7 dX8_viewedAt_119 rfl (r_goto C 126 dX8_viewedAt_121 (by decide) (r_sub [1, 2, 3, 4, 6] rfl (t_X8_viewedAt_126 C hn hQ hg hk6 _ _ w)))
set_option maxHeartbeats 4000000 in
set_option maxRecDepth 100000 in
theorem t_X8_viewedAt_101 {X : gCx} {a : Nat}  {p0 : Int32} {p1 : Int32} {p2 : Int32} {post : Int32 → Prop} {g : GH} {o : FO} {k6 : Int32 → Int32 → Prop} (C : gC X cX8_viewedAt RX8 (some .int) rm_X8_viewedAt) (hn : xn X = 9) (hQ : gRet X (gQi (xY X) (fun r9 g9 => g9 = g ∧ post r9)) 0 0 ∨ gRex X (gQi (xY X) (fun r9 g9 => g9 = g ∧ post r9)) (fun _ _ => False) 0 0) (hg : g a = some (9, o))   (hk6 : ∀ (x4 : Int32) (x5 : Int32), k6 x4 x5 → gX X 0 0 6 [(0, .ref a), (1, .int p0), (2, .int p1), (3, .int p2), (4, .int x4), (5, .int x5)] [] g) : ∀ (x4 : Int32) (x5 : Int32) (x6 : Int32) (x7 : Int32), wp_X8_viewedAt_101 p0 p1 p2 o post k6 x4 x5 x6 x7 → gX X 0 0 101 [(0, .ref a), (1, .int p0), (2, .int p1), (3, .int p2), (4, .int x4), (5, .int x5), (6, .int x6), (7, .int x7)] [] g := by
  intro x4 x5 x6 x7 w
  unfold wp_X8_viewedAt_101 at w
  exact r_iconst C (v := 0) dX8_viewedAt_101 (by decide) (r_sub [0, 1, 2, 3, 4, 5, 6, 7] rfl (t_X8_viewedAt_102 C hn hQ hg hk6 _ _ _ _ _ w))
set_option maxHeartbeats 4000000 in
set_option maxRecDepth 100000 in
theorem t_X8_viewedAt_6 {X : gCx} {a : Nat}  {p0 : Int32} {p1 : Int32} {p2 : Int32} {post : Int32 → Prop} {g : GH} {o : FO}  (C : gC X cX8_viewedAt RX8 (some .int) rm_X8_viewedAt) (hn : xn X = 9) (hQ : gRet X (gQi (xY X) (fun r9 g9 => g9 = g ∧ post r9)) 0 0 ∨ gRex X (gQi (xY X) (fun r9 g9 => g9 = g ∧ post r9)) (fun _ _ => False) 0 0) (hg : g a = some (9, o))    : ∀ (n : Nat) (x4 : Int32) (x5 : Int32), wp_X8_viewedAt_6 p0 p1 p2 o post n x4 x5 → gX X 0 0 6 [(0, .ref a), (1, .int p0), (2, .int p1), (3, .int p2), (4, .int x4), (5, .int x5)] [] g := by
  intro n
  induction n with
  | zero => intro x4 x5 w; exact w.elim
  | succ n ih =>
    intro x4 x5 w
    unfold wp_X8_viewedAt_6 at w
    obtain ⟨i1, w⟩ := w
    refine r_iload C 5 dX8_viewedAt_6 rfl (r_aload_n C 0 dX8_viewedAt_8 rfl (rg_X8_X8_kept C dX8_viewedAt_9 hg (r_iload_n C 1 dX8_viewedAt_12 rfl (r_iald (ci := 9) (k := 37) C dX8_viewedAt_13 rfl rfl hg i1 (r_icmp_ge C 134 dX8_viewedAt_14 (by decide) (fun c2 => ?_) (fun c2 => ?_))))))
    · have w := w.1 c2
      exact r_iload C 4 dX8_viewedAt_134 rfl (r_iret C hQ dX8_viewedAt_136 rfl (vp_nar_int _) ⟨Nat.le_of_ble_eq_true rfl, Nat.le_of_ble_eq_true rfl⟩ ⟨rfl, w⟩)
    · have w := w.2 c2
      obtain ⟨i3, w⟩ := w
      obtain ⟨i4, w⟩ := w
      obtain ⟨i5, w⟩ := w
      obtain ⟨i6, w⟩ := w
      refine r_bipush C (v := 40) dX8_viewedAt_17 (by decide) (r_iload_n C 1 dX8_viewedAt_19 rfl (r_imul C dX8_viewedAt_20 (r_iload C 5 dX8_viewedAt_21 rfl (r_iadd C dX8_viewedAt_23 (r_istore C dX8_viewedAt_24 (nlt hn (by decide)) rfl (r_aload_n C 1 dX8_viewedAt_26 rfl (rg_X8_X8_keptShape C dX8_viewedAt_27 hg (r_iload C 0 dX8_viewedAt_30 rfl (r_iald (ci := 9) (k := 38) C dX8_viewedAt_32 rfl rfl hg i3 (r_istore C dX8_viewedAt_33 (nlt hn (by decide)) rfl (r_iload_n C 4 dX8_viewedAt_35 rfl (r_aload_n C 2 dX8_viewedAt_36 rfl (rg_X8_X8_keptColumn C dX8_viewedAt_37 hg (r_iload C 1 dX8_viewedAt_40 rfl (r_iald (ci := 9) (k := 39) C dX8_viewedAt_42 rfl rfl hg i4 (r_aload_n C 2 dX8_viewedAt_43 rfl (rg_X8_X8_keptColumn C dX8_viewedAt_44 hg (r_iload C 1 dX8_viewedAt_47 rfl (r_iald (ci := 9) (k := 39) C dX8_viewedAt_49 rfl rfl hg i5 (r_aload_n C 2 dX8_viewedAt_50 rfl (rg_X8_X8_width C dX8_viewedAt_51 hg (r_iload C 0 dX8_viewedAt_54 rfl (r_iald (ci := 9) (k := 12) C dX8_viewedAt_56 rfl rfl hg i6 (r_iadd C dX8_viewedAt_57 (r_iconst C (v := 1) dX8_viewedAt_58 (by decide) (r_isub C dX8_viewedAt_59 (r_goi (r_runS C dX8_viewedAt_60 (m_X8_isIn w) mt_X8_isIn tw1215 tw1216 rfl (stk := []) rfl (Nat.le_of_ble_eq_true rfl) ⟨rfl, rfl, ⟨Nat.le_of_ble_eq_true rfl, Nat.le_of_ble_eq_true rfl⟩, ⟨Nat.le_of_ble_eq_true rfl, Nat.le_of_ble_eq_true rfl⟩⟩) ?_)))))))))))))))))))))))))))
      intro r7 h8 hp
      obtain ⟨rfl, w⟩ := hp
      refine r_if_eq C 101 dX8_viewedAt_63 (by decide) (fun c9 => ?_) (fun c9 => ?_)
      · have w := w.1 c9
        exact r_sub [2, 3, 4, 5, 6, 7, 1, 0] rfl (t_X8_viewedAt_101 C hn hQ hg ih _ _ _ _ w)
      · have w := w.2 c9
        obtain ⟨i10, w⟩ := w
        obtain ⟨i11, w⟩ := w
        obtain ⟨i12, w⟩ := w
        refine r_iload_n C 5 dX8_viewedAt_66 rfl (r_aload_n C 2 dX8_viewedAt_67 rfl (rg_X8_X8_keptRow C dX8_viewedAt_68 hg (r_iload C 1 dX8_viewedAt_71 rfl (r_iald (ci := 9) (k := 40) C dX8_viewedAt_73 rfl rfl hg i10 (r_aload_n C 2 dX8_viewedAt_74 rfl (rg_X8_X8_keptRow C dX8_viewedAt_75 hg (r_iload C 1 dX8_viewedAt_78 rfl (r_iald (ci := 9) (k := 40) C dX8_viewedAt_80 rfl rfl hg i11 (r_aload_n C 2 dX8_viewedAt_81 rfl (rg_X8_X8_height C dX8_viewedAt_82 hg (r_iload C 0 dX8_viewedAt_85 rfl (r_iald (ci := 9) (k := 13) C dX8_viewedAt_87 rfl rfl hg i12 (r_iadd C dX8_viewedAt_88 (r_iconst C (v := 1) dX8_viewedAt_89 (by decide) (r_isub C dX8_viewedAt_90 (r_goi (r_runS C dX8_viewedAt_91 (m_X8_isIn w) mt_X8_isIn tw1215 tw1216 rfl (stk := []) rfl (Nat.le_of_ble_eq_true rfl) ⟨rfl, rfl, ⟨Nat.le_of_ble_eq_true rfl, Nat.le_of_ble_eq_true rfl⟩, ⟨Nat.le_of_ble_eq_true rfl, Nat.le_of_ble_eq_true rfl⟩⟩) ?_))))))))))))))))
        intro r13 h14 hp
        obtain ⟨rfl, w⟩ := hp
        refine r_if_eq C 101 dX8_viewedAt_94 (by decide) (fun c15 => ?_) (fun c15 => ?_)
        · have w := w.1 c15
          exact r_sub [2, 3, 4, 5, 6, 7, 1, 0] rfl (t_X8_viewedAt_101 C hn hQ hg ih _ _ _ _ w)
        · have w := w.2 c15
          exact r_iconst C (v := 1) dX8_viewedAt_97 (by decide) (r_goto C 102 dX8_viewedAt_98 (by decide) (r_sub [2, 3, 4, 5, 6, 7, 1, 0] rfl (t_X8_viewedAt_102 C hn hQ hg ih _ _ _ _ _ w)))
set_option maxHeartbeats 4000000 in
set_option maxRecDepth 100000 in
theorem m_X8_viewedAt {Y : gWx} {a : Nat}  {p0 : Int32} {p1 : Int32} {p2 : Int32} {post : Int32 → Prop} {g : GH} {o : FO} (hg : g a = some (9, o))    (w : wp_X8_viewedAt p0 p1 p2 o post) : gMet Y yX8_viewedAt cX8_viewedAt 9 (some .int) rm_X8_viewedAt [.ref a, .int p0, .int p1, .int p2] g (gQi Y (fun r9 g9 => g9 = g ∧ post r9)) 0 0 := by
  refine gm_of rfl (Nat.le_of_ble_eq_true rfl) ?_
  intro X hY hn C hnm hQ
  subst hY
  have hQ : gRet X (gQi (xY X) (fun r9 g9 => g9 = g ∧ post r9)) 0 0 ∨ gRex X (gQi (xY X) (fun r9 g9 => g9 = g ∧ post r9)) (fun _ _ => False) 0 0 := Or.inl hQ
  have C : gC X cX8_viewedAt RX8 (some .int) rm_X8_viewedAt := C
  show gX X 0 0 0 [(0, .ref a), (1, .int p0), (2, .int p1), (3, .int p2)] [] g
  unfold wp_X8_viewedAt at w
  exact r_iconst C (v := (-1)) dX8_viewedAt_0 (by decide) (r_istore C dX8_viewedAt_1 (nlt hn (by decide)) rfl (r_iconst C (v := 0) dX8_viewedAt_3 (by decide) (r_istore C dX8_viewedAt_4 (nlt hn (by decide)) rfl (r_sub [2, 3, 4, 5, 1, 0] rfl (t_X8_viewedAt_6 C hn hQ hg 1000 _ _ w)))))
def rm_X8_isViewed : Room := { frames := 2, cells := 0, slots := 0, locals := 50 }
theorem mt_X8_isViewed : gMt yX8_isViewed cX8_isViewed 6 (some .boolean) 2 := ⟨tw1381, tw64, by decide +kernel, by decide +kernel, by decide +kernel⟩
def wp_X8_isViewed_98 (p0 : Int32) (p1 : Int32) (o : FO) (post : Int32 → Prop) (k5 : Int32 → Int32 → Prop) (x4 : Int32) (y0 : Int32)  : Prop :=
k5 y0 (x4 + 1)
def wp_X8_isViewed_93 (p0 : Int32) (p1 : Int32) (o : FO) (post : Int32 → Prop) (k5 : Int32 → Int32 → Prop) (x4 : Int32)  : Prop :=
wp_X8_isViewed_98 p0 p1 o post k5 x4 1
def wp_X8_isViewed_97 (p0 : Int32) (p1 : Int32) (o : FO) (post : Int32 → Prop) (k5 : Int32 → Int32 → Prop) (x4 : Int32)  : Prop :=
wp_X8_isViewed_98 p0 p1 o post k5 x4 0
def wp_X8_isViewed_88 (p0 : Int32) (p1 : Int32) (o : FO) (post : Int32 → Prop) (k5 : Int32 → Int32 → Prop) (x4 : Int32) (y1 : Int32)  : Prop :=
vp_in y1 320 ∧
((¬ (fA o 38 y1.toNatClampNeg) = p1 → wp_X8_isViewed_97 p0 p1 o post k5 x4) ∧ ((fA o 38 y1.toNatClampNeg) = p1 → wp_X8_isViewed_93 p0 p1 o post k5 x4))
def wp_X8_isViewed_5 (p0 : Int32) (p1 : Int32) (o : FO) (post : Int32 → Prop) : Nat → Int32 → Int32 → Prop
  | 0, _, _ => False
  | n + 1, x3, x4 =>
    vp_in p0 8 ∧
    vp_in p0 8 ∧
    ((((fA o 29 p0.toNatClampNeg) * (fA o 30 p0.toNatClampNeg)) ≤ x4 → narrow .boolean (.int x3) = .int x3 ∧
    post x3) ∧ (¬ ((fA o 29 p0.toNatClampNeg) * (fA o 30 p0.toNatClampNeg)) ≤ x4 → vp_in p0 8 ∧
    vp_in p0 8 ∧
    ¬ (fA o 29 p0.toNatClampNeg) = 0 ∧
    vp_in p0 8 ∧
    vp_in p0 8 ∧
    ¬ (fA o 29 p0.toNatClampNeg) = 0 ∧
    wp_X8_viewedAt p0 ((fA o 27 p0.toNatClampNeg) + (x4 - x4 / (fA o 29 p0.toNatClampNeg) * (fA o 29 p0.toNatClampNeg))) ((fA o 28 p0.toNatClampNeg) + (x4 / (fA o 29 p0.toNatClampNeg))) o (fun r11 =>
    ((¬ x3 = 0 → wp_X8_isViewed_93 p0 p1 o post (fun x3 x4 => wp_X8_isViewed_5 p0 p1 o post n x3 x4) x4) ∧ (x3 = 0 → ((r11 = ((-1)) → wp_X8_isViewed_97 p0 p1 o post (fun x3 x4 => wp_X8_isViewed_5 p0 p1 o post n x3 x4) x4) ∧ (¬ r11 = ((-1)) → ((¬ r11 = ((-1)) → wp_X8_isViewed_88 p0 p1 o post (fun x3 x4 => wp_X8_isViewed_5 p0 p1 o post n x3 x4) x4 r11) ∧ (r11 = ((-1)) → wp_X8_isViewed_88 p0 p1 o post (fun x3 x4 => wp_X8_isViewed_5 p0 p1 o post n x3 x4) x4 0)))))))))
def wp_X8_isViewed (p0 : Int32) (p1 : Int32) (o : FO)  (post : Int32 → Prop) : Prop :=
wp_X8_isViewed_5 p0 p1 o post 1000 0 0
set_option maxHeartbeats 4000000 in
set_option maxRecDepth 100000 in
theorem t_X8_isViewed_98 {X : gCx} {a : Nat}  {p0 : Int32} {p1 : Int32} {post : Int32 → Prop} {g : GH} {o : FO} {k5 : Int32 → Int32 → Prop} (C : gC X cX8_isViewed RX8 (some .boolean) rm_X8_isViewed) (hn : xn X = 6) (hQ : gRet X (gQi (xY X) (fun r9 g9 => g9 = g ∧ post r9)) 0 0 ∨ gRex X (gQi (xY X) (fun r9 g9 => g9 = g ∧ post r9)) (fun _ _ => False) 0 0) (hg : g a = some (9, o))   (hk5 : ∀ (x3 : Int32) (x4 : Int32), k5 x3 x4 → gX X 0 0 5 [(0, .ref a), (1, .int p0), (2, .int p1), (3, .int x3), (4, .int x4)] [] g) : ∀ (x4 : Int32) (y0 : Int32), wp_X8_isViewed_98 p0 p1 o post k5 x4 y0 → gX X 0 0 98 [(0, .ref a), (1, .int p0), (2, .int p1), (4, .int x4)] [.int y0] g := by
  intro x4 y0 w
  unfold wp_X8_isViewed_98 at w
  exact r_istore_n C dX8_isViewed_98 (nlt hn (by decide)) rfl (r_iinc C (v := x4 + 1) 4 dX8_isViewed_99 rfl rfl (nlt hn (by decide)) rfl (r_goto C 5 dX8_isViewed_102 (by decide) (r_sub [2, 3, 4, 1, 0] rfl (hk5 _ _ w))))
set_option maxHeartbeats 4000000 in
set_option maxRecDepth 100000 in
theorem t_X8_isViewed_93 {X : gCx} {a : Nat}  {p0 : Int32} {p1 : Int32} {post : Int32 → Prop} {g : GH} {o : FO} {k5 : Int32 → Int32 → Prop} (C : gC X cX8_isViewed RX8 (some .boolean) rm_X8_isViewed) (hn : xn X = 6) (hQ : gRet X (gQi (xY X) (fun r9 g9 => g9 = g ∧ post r9)) 0 0 ∨ gRex X (gQi (xY X) (fun r9 g9 => g9 = g ∧ post r9)) (fun _ _ => False) 0 0) (hg : g a = some (9, o))   (hk5 : ∀ (x3 : Int32) (x4 : Int32), k5 x3 x4 → gX X 0 0 5 [(0, .ref a), (1, .int p0), (2, .int p1), (3, .int x3), (4, .int x4)] [] g) : ∀ (x4 : Int32), wp_X8_isViewed_93 p0 p1 o post k5 x4 → gX X 0 0 93 [(0, .ref a), (1, .int p0), (2, .int p1), (4, .int x4)] [] g := by
  intro x4 w
  unfold wp_X8_isViewed_93 at w
  exact r_iconst C (v := 1) dX8_isViewed_93 (by decide) (r_goto C 98 dX8_isViewed_94 (by decide) (r_sub [0, 1, 2, 3] rfl (t_X8_isViewed_98 C hn hQ hg hk5 _ _ w)))
set_option maxHeartbeats 4000000 in
set_option maxRecDepth 100000 in
theorem t_X8_isViewed_97 {X : gCx} {a : Nat}  {p0 : Int32} {p1 : Int32} {post : Int32 → Prop} {g : GH} {o : FO} {k5 : Int32 → Int32 → Prop} (C : gC X cX8_isViewed RX8 (some .boolean) rm_X8_isViewed) (hn : xn X = 6) (hQ : gRet X (gQi (xY X) (fun r9 g9 => g9 = g ∧ post r9)) 0 0 ∨ gRex X (gQi (xY X) (fun r9 g9 => g9 = g ∧ post r9)) (fun _ _ => False) 0 0) (hg : g a = some (9, o))   (hk5 : ∀ (x3 : Int32) (x4 : Int32), k5 x3 x4 → gX X 0 0 5 [(0, .ref a), (1, .int p0), (2, .int p1), (3, .int x3), (4, .int x4)] [] g) : ∀ (x4 : Int32), wp_X8_isViewed_97 p0 p1 o post k5 x4 → gX X 0 0 97 [(0, .ref a), (1, .int p0), (2, .int p1), (4, .int x4)] [] g := by
  intro x4 w
  unfold wp_X8_isViewed_97 at w
  exact r_iconst C (v := 0) dX8_isViewed_97 (by decide) (r_sub [0, 1, 2, 3] rfl (t_X8_isViewed_98 C hn hQ hg hk5 _ _ w))
set_option maxHeartbeats 4000000 in
set_option maxRecDepth 100000 in
theorem t_X8_isViewed_88 {X : gCx} {a : Nat}  {p0 : Int32} {p1 : Int32} {post : Int32 → Prop} {g : GH} {o : FO} {k5 : Int32 → Int32 → Prop} (C : gC X cX8_isViewed RX8 (some .boolean) rm_X8_isViewed) (hn : xn X = 6) (hQ : gRet X (gQi (xY X) (fun r9 g9 => g9 = g ∧ post r9)) 0 0 ∨ gRex X (gQi (xY X) (fun r9 g9 => g9 = g ∧ post r9)) (fun _ _ => False) 0 0) (hg : g a = some (9, o))   (hk5 : ∀ (x3 : Int32) (x4 : Int32), k5 x3 x4 → gX X 0 0 5 [(0, .ref a), (1, .int p0), (2, .int p1), (3, .int x3), (4, .int x4)] [] g) : ∀ (x4 : Int32) (y1 : Int32), wp_X8_isViewed_88 p0 p1 o post k5 x4 y1 → gX X 0 0 88 [(0, .ref a), (1, .int p0), (2, .int p1), (4, .int x4)] [.int y1, .ref (a + 34)] g := by
  intro x4 y1 w
  unfold wp_X8_isViewed_88 at w
  obtain ⟨i16, w⟩ := w
  refine r_iald (ci := 9) (k := 38) C dX8_isViewed_88 rfl rfl hg i16 (r_iload_n C 2 dX8_isViewed_89 rfl (r_icmp_ne C 97 dX8_isViewed_90 (by decide) (fun c17 => ?_) (fun c17 => ?_)))
  · have w := w.1 c17
    exact r_sub [0, 1, 2, 3] rfl (t_X8_isViewed_97 C hn hQ hg hk5 _ w)
  · have w := w.2 c17
    exact r_sub [0, 1, 2, 3] rfl (t_X8_isViewed_93 C hn hQ hg hk5 _ w)
set_option maxHeartbeats 4000000 in
set_option maxRecDepth 100000 in
theorem t_X8_isViewed_5 {X : gCx} {a : Nat}  {p0 : Int32} {p1 : Int32} {post : Int32 → Prop} {g : GH} {o : FO}  (C : gC X cX8_isViewed RX8 (some .boolean) rm_X8_isViewed) (hn : xn X = 6) (hQ : gRet X (gQi (xY X) (fun r9 g9 => g9 = g ∧ post r9)) 0 0 ∨ gRex X (gQi (xY X) (fun r9 g9 => g9 = g ∧ post r9)) (fun _ _ => False) 0 0) (hg : g a = some (9, o))    : ∀ (n : Nat) (x3 : Int32) (x4 : Int32), wp_X8_isViewed_5 p0 p1 o post n x3 x4 → gX X 0 0 5 [(0, .ref a), (1, .int p0), (2, .int p1), (3, .int x3), (4, .int x4)] [] g := by
  intro n
  induction n with
  | zero => intro x3 x4 w; exact w.elim
  | succ n ih =>
    intro x3 x4 w
    unfold wp_X8_isViewed_5 at w
    obtain ⟨i1, w⟩ := w
    obtain ⟨i2, w⟩ := w
    refine r_iload C 4 dX8_isViewed_5 rfl (r_aload_n C 0 dX8_isViewed_7 rfl (rg_X8_X8_viewWidth C dX8_isViewed_8 hg (r_iload_n C 1 dX8_isViewed_11 rfl (r_iald (ci := 9) (k := 29) C dX8_isViewed_12 rfl rfl hg i1 (r_aload_n C 0 dX8_isViewed_13 rfl (rg_X8_X8_viewHeight C dX8_isViewed_14 hg (r_iload_n C 1 dX8_isViewed_17 rfl (r_iald (ci := 9) (k := 30) C dX8_isViewed_18 rfl rfl hg i2 (r_imul C dX8_isViewed_19 (r_icmp_ge C 105 dX8_isViewed_20 (by decide) (fun c3 => ?_) (fun c3 => ?_)))))))))))
    · have w := w.1 c3
      obtain ⟨i4, w⟩ := w
      exact r_iload_n C 3 dX8_isViewed_105 rfl (r_iret C hQ dX8_isViewed_106 rfl i4 ⟨Nat.le_of_ble_eq_true rfl, Nat.le_of_ble_eq_true rfl⟩ ⟨rfl, w⟩)
    · have w := w.2 c3
      obtain ⟨i5, w⟩ := w
      obtain ⟨i6, w⟩ := w
      obtain ⟨i7, w⟩ := w
      obtain ⟨i8, w⟩ := w
      obtain ⟨i9, w⟩ := w
      obtain ⟨i10, w⟩ := w
      refine r_aload_n C 0 dX8_isViewed_23 rfl (r_iload_n C 1 dX8_isViewed_24 rfl (r_aload_n C 0 dX8_isViewed_25 rfl (rg_X8_X8_viewColumn C dX8_isViewed_26 hg (r_iload_n C 1 dX8_isViewed_29 rfl (r_iald (ci := 9) (k := 27) C dX8_isViewed_30 rfl rfl hg i5 (r_iload C 4 dX8_isViewed_31 rfl (r_aload_n C 0 dX8_isViewed_33 rfl (rg_X8_X8_viewWidth C dX8_isViewed_34 hg (r_iload_n C 1 dX8_isViewed_37 rfl (r_iald (ci := 9) (k := 29) C dX8_isViewed_38 rfl rfl hg i6 (r_irem C dX8_isViewed_39 i7 (r_iadd C dX8_isViewed_40 (r_aload_n C 0 dX8_isViewed_41 rfl (rg_X8_X8_viewRow C dX8_isViewed_42 hg (r_iload_n C 1 dX8_isViewed_45 rfl (r_iald (ci := 9) (k := 28) C dX8_isViewed_46 rfl rfl hg i8 (r_iload C 4 dX8_isViewed_47 rfl (r_aload_n C 0 dX8_isViewed_49 rfl (rg_X8_X8_viewWidth C dX8_isViewed_50 hg (r_iload_n C 1 dX8_isViewed_53 rfl (r_iald (ci := 9) (k := 29) C dX8_isViewed_54 rfl rfl hg i9 (r_idiv C dX8_isViewed_55 i10 (r_iadd C dX8_isViewed_56 (r_goi (r_runV C dX8_isViewed_57 (m_X8_viewedAt hg w) mt_X8_viewedAt tw1382 tw1384 tw52 gcl_9.1 hg rfl (stk := []) rfl (Nat.le_of_ble_eq_true rfl) ⟨rfl, rfl, ⟨Nat.le_of_ble_eq_true rfl, Nat.le_of_ble_eq_true rfl⟩, ⟨Nat.le_of_ble_eq_true rfl, Nat.le_of_ble_eq_true rfl⟩⟩) ?_))))))))))))))))))))))))
      intro r11 h12 hp
      obtain ⟨rfl, w⟩ := hp
      refine r_istore C dX8_isViewed_60 (nlt hn (by decide)) rfl (r_iload_n C 4 dX8_isViewed_62 rfl (r_if_ne C 93 dX8_isViewed_63 (by decide) (fun c13 => ?_) (fun c13 => ?_)))
      · have w := w.1 c13
        exact r_sub [1, 2, 3, 5] rfl (t_X8_isViewed_93 C hn hQ hg ih _ w)
      · have w := w.2 c13
        refine r_iload C 0 dX8_isViewed_66 rfl (r_iconst C (v := (-1)) dX8_isViewed_68 (by decide) (r_icmp_eq C 97 dX8_isViewed_69 (by decide) (fun c14 => ?_) (fun c14 => ?_)))
        · have w := w.1 c14
          exact r_sub [1, 2, 3, 5] rfl (t_X8_isViewed_97 C hn hQ hg ih _ w)
        · have w := w.2 c14
          refine r_aload_n C 1 dX8_isViewed_72 rfl (rg_X8_X8_keptShape C dX8_isViewed_73 hg (r_iload C 0 dX8_isViewed_76 rfl (r_iconst C (v := (-1)) dX8_isViewed_78 (by decide) (r_icmp_ne C 86 dX8_isViewed_79 (by decide) (fun c15 => ?_) (fun c15 => ?_)))))
          · have w := w.1 c15
            exact r_iload C 0 dX8_isViewed_86 rfl (r_sub [1, 2, 3, 5] rfl (t_X8_isViewed_88 C hn hQ hg ih _ _ w))
          · have w := w.2 c15
            exact r_iconst C (v := 0) dX8_isViewed_82 (by decide) (r_goto C 88 dX8_isViewed_83 (by decide) (r_sub [1, 2, 3, 5] rfl (t_X8_isViewed_88 C hn hQ hg ih _ _ w)))
set_option maxHeartbeats 4000000 in
set_option maxRecDepth 100000 in
theorem m_X8_isViewed {Y : gWx} {a : Nat}  {p0 : Int32} {p1 : Int32} {post : Int32 → Prop} {g : GH} {o : FO} (hg : g a = some (9, o))    (w : wp_X8_isViewed p0 p1 o post) : gMet Y yX8_isViewed cX8_isViewed 6 (some .boolean) rm_X8_isViewed [.ref a, .int p0, .int p1] g (gQi Y (fun r9 g9 => g9 = g ∧ post r9)) 0 0 := by
  refine gm_of rfl (Nat.le_of_ble_eq_true rfl) ?_
  intro X hY hn C hnm hQ
  subst hY
  have hQ : gRet X (gQi (xY X) (fun r9 g9 => g9 = g ∧ post r9)) 0 0 ∨ gRex X (gQi (xY X) (fun r9 g9 => g9 = g ∧ post r9)) (fun _ _ => False) 0 0 := Or.inl hQ
  have C : gC X cX8_isViewed RX8 (some .boolean) rm_X8_isViewed := C
  show gX X 0 0 0 [(0, .ref a), (1, .int p0), (2, .int p1)] [] g
  unfold wp_X8_isViewed at w
  exact r_iconst C (v := 0) dX8_isViewed_0 (by decide) (r_istore_n C dX8_isViewed_1 (nlt hn (by decide)) rfl (r_iconst C (v := 0) dX8_isViewed_2 (by decide) (r_istore C dX8_isViewed_3 (nlt hn (by decide)) rfl (r_sub [2, 3, 4, 1, 0] rfl (t_X8_isViewed_5 C hn hQ hg 1000 _ _ w)))))
def rm_X8_isEmpty : Room := { frames := 3, cells := 0, slots := 0, locals := 69 }
theorem mt_X8_isEmpty : gMt yX8_isEmpty cX8_isEmpty 7 (some .boolean) 4 := ⟨tw1373, tw64, by decide +kernel, by decide +kernel, by decide +kernel⟩
def wp_X8_isEmpty_45 (p0 : Int32) (p1 : Int32) (p2 : Int32) (p3 : Int32) (o : FO) (post : Int32 → Prop) (k6 : Int32 → Int32 → Prop) (x6 : Int32) (y0 : Int32)  : Prop :=
k6 y0 (x6 + 1)
def wp_X8_isEmpty_44 (p0 : Int32) (p1 : Int32) (p2 : Int32) (p3 : Int32) (o : FO) (post : Int32 → Prop) (k6 : Int32 → Int32 → Prop) (x6 : Int32)  : Prop :=
wp_X8_isEmpty_45 p0 p1 p2 p3 o post k6 x6 0
def wp_X8_isEmpty_6 (p0 : Int32) (p1 : Int32) (p2 : Int32) (p3 : Int32) (o : FO) (post : Int32 → Prop) : Nat → Int32 → Int32 → Prop
  | 0, _, _ => False
  | n + 1, x5, x6 =>
    (((p2 * p3) ≤ x6 → narrow .boolean (.int x5) = .int x5 ∧
    post x5) ∧ (¬ (p2 * p3) ≤ x6 → ((x5 = 0 → wp_X8_isEmpty_44 p0 p1 p2 p3 o post (fun x5 x6 => wp_X8_isEmpty_6 p0 p1 p2 p3 o post n x5 x6) x6) ∧ (¬ x5 = 0 → ¬ p2 = 0 ∧
    ¬ p2 = 0 ∧
    wp_X8_seenAt (p0 + (x6 - x6 / p2 * p2)) (p1 + (x6 / p2)) o (fun r6 =>
    ((¬ r6 = ((-1)) → wp_X8_isEmpty_44 p0 p1 p2 p3 o post (fun x5 x6 => wp_X8_isEmpty_6 p0 p1 p2 p3 o post n x5 x6) x6) ∧ (r6 = ((-1)) → wp_X8_isEmpty_45 p0 p1 p2 p3 o post (fun x5 x6 => wp_X8_isEmpty_6 p0 p1 p2 p3 o post n x5 x6) x6 1)))))))
def wp_X8_isEmpty (p0 : Int32) (p1 : Int32) (p2 : Int32) (p3 : Int32) (o : FO)  (post : Int32 → Prop) : Prop :=
wp_X8_isEmpty_6 p0 p1 p2 p3 o post 1000 1 0
set_option maxHeartbeats 4000000 in
set_option maxRecDepth 100000 in
theorem t_X8_isEmpty_45 {X : gCx} {a : Nat}  {p0 : Int32} {p1 : Int32} {p2 : Int32} {p3 : Int32} {post : Int32 → Prop} {g : GH} {o : FO} {k6 : Int32 → Int32 → Prop} (C : gC X cX8_isEmpty RX8 (some .boolean) rm_X8_isEmpty) (hn : xn X = 7) (hQ : gRet X (gQi (xY X) (fun r9 g9 => g9 = g ∧ post r9)) 0 0 ∨ gRex X (gQi (xY X) (fun r9 g9 => g9 = g ∧ post r9)) (fun _ _ => False) 0 0) (hg : g a = some (9, o))   (hk6 : ∀ (x5 : Int32) (x6 : Int32), k6 x5 x6 → gX X 0 0 6 [(0, .ref a), (1, .int p0), (2, .int p1), (3, .int p2), (4, .int p3), (5, .int x5), (6, .int x6)] [] g) : ∀ (x6 : Int32) (y0 : Int32), wp_X8_isEmpty_45 p0 p1 p2 p3 o post k6 x6 y0 → gX X 0 0 45 [(0, .ref a), (1, .int p0), (2, .int p1), (3, .int p2), (4, .int p3), (6, .int x6)] [.int y0] g := by
  intro x6 y0 w
  unfold wp_X8_isEmpty_45 at w
  exact r_istore C dX8_isEmpty_45 (nlt hn (by decide)) rfl (r_iinc C (v := x6 + 1) 6 dX8_isEmpty_47 rfl rfl (nlt hn (by decide)) rfl (r_goto C 6 dX8_isEmpty_50 (by decide) (r_sub [2, 3, 4, 5, 6, 1, 0] rfl (hk6 _ _ w))))
set_option maxHeartbeats 4000000 in
set_option maxRecDepth 100000 in
theorem t_X8_isEmpty_44 {X : gCx} {a : Nat}  {p0 : Int32} {p1 : Int32} {p2 : Int32} {p3 : Int32} {post : Int32 → Prop} {g : GH} {o : FO} {k6 : Int32 → Int32 → Prop} (C : gC X cX8_isEmpty RX8 (some .boolean) rm_X8_isEmpty) (hn : xn X = 7) (hQ : gRet X (gQi (xY X) (fun r9 g9 => g9 = g ∧ post r9)) 0 0 ∨ gRex X (gQi (xY X) (fun r9 g9 => g9 = g ∧ post r9)) (fun _ _ => False) 0 0) (hg : g a = some (9, o))   (hk6 : ∀ (x5 : Int32) (x6 : Int32), k6 x5 x6 → gX X 0 0 6 [(0, .ref a), (1, .int p0), (2, .int p1), (3, .int p2), (4, .int p3), (5, .int x5), (6, .int x6)] [] g) : ∀ (x6 : Int32), wp_X8_isEmpty_44 p0 p1 p2 p3 o post k6 x6 → gX X 0 0 44 [(0, .ref a), (1, .int p0), (2, .int p1), (3, .int p2), (4, .int p3), (6, .int x6)] [] g := by
  intro x6 w
  unfold wp_X8_isEmpty_44 at w
  exact r_iconst C (v := 0) dX8_isEmpty_44 (by decide) (r_sub [0, 1, 2, 3, 4, 5] rfl (t_X8_isEmpty_45 C hn hQ hg hk6 _ _ w))
set_option maxHeartbeats 4000000 in
set_option maxRecDepth 100000 in
theorem t_X8_isEmpty_6 {X : gCx} {a : Nat}  {p0 : Int32} {p1 : Int32} {p2 : Int32} {p3 : Int32} {post : Int32 → Prop} {g : GH} {o : FO}  (C : gC X cX8_isEmpty RX8 (some .boolean) rm_X8_isEmpty) (hn : xn X = 7) (hQ : gRet X (gQi (xY X) (fun r9 g9 => g9 = g ∧ post r9)) 0 0 ∨ gRex X (gQi (xY X) (fun r9 g9 => g9 = g ∧ post r9)) (fun _ _ => False) 0 0) (hg : g a = some (9, o))    : ∀ (n : Nat) (x5 : Int32) (x6 : Int32), wp_X8_isEmpty_6 p0 p1 p2 p3 o post n x5 x6 → gX X 0 0 6 [(0, .ref a), (1, .int p0), (2, .int p1), (3, .int p2), (4, .int p3), (5, .int x5), (6, .int x6)] [] g := by
  intro n
  induction n with
  | zero => intro x5 x6 w; exact w.elim
  | succ n ih =>
    intro x5 x6 w
    unfold wp_X8_isEmpty_6 at w
    refine r_iload C 6 dX8_isEmpty_6 rfl (r_iload_n C 3 dX8_isEmpty_8 rfl (r_iload C 4 dX8_isEmpty_9 rfl (r_imul C dX8_isEmpty_11 (r_icmp_ge C 53 dX8_isEmpty_12 (by decide) (fun c1 => ?_) (fun c1 => ?_)))))
    · have w := w.1 c1
      obtain ⟨i2, w⟩ := w
      exact r_iload C 5 dX8_isEmpty_53 rfl (r_iret C hQ dX8_isEmpty_55 rfl i2 ⟨Nat.le_of_ble_eq_true rfl, Nat.le_of_ble_eq_true rfl⟩ ⟨rfl, w⟩)
    · have w := w.2 c1
      refine r_iload C 5 dX8_isEmpty_15 rfl (r_if_eq C 44 dX8_isEmpty_17 (by decide) (fun c3 => ?_) (fun c3 => ?_))
      · have w := w.1 c3
        exact r_sub [0, 1, 2, 3, 4, 6] rfl (t_X8_isEmpty_44 C hn hQ hg ih _ w)
      · have w := w.2 c3
        obtain ⟨i4, w⟩ := w
        obtain ⟨i5, w⟩ := w
        refine r_aload_n C 0 dX8_isEmpty_20 rfl (r_iload_n C 1 dX8_isEmpty_21 rfl (r_iload C 6 dX8_isEmpty_22 rfl (r_iload_n C 3 dX8_isEmpty_24 rfl (r_irem C dX8_isEmpty_25 i4 (r_iadd C dX8_isEmpty_26 (r_iload_n C 2 dX8_isEmpty_27 rfl (r_iload C 6 dX8_isEmpty_28 rfl (r_iload_n C 3 dX8_isEmpty_30 rfl (r_idiv C dX8_isEmpty_31 i5 (r_iadd C dX8_isEmpty_32 (r_goi (r_runV C dX8_isEmpty_33 (m_X8_seenAt hg w) mt_X8_seenAt tw1353 tw1355 tw47 gcl_9.1 hg rfl (stk := []) rfl (Nat.le_of_ble_eq_true rfl) ⟨rfl, rfl, ⟨Nat.le_of_ble_eq_true rfl, Nat.le_of_ble_eq_true rfl⟩, ⟨Nat.le_of_ble_eq_true rfl, Nat.le_of_ble_eq_true rfl⟩⟩) ?_)))))))))))
        intro r6 h7 hp
        obtain ⟨rfl, w⟩ := hp
        refine r_iconst C (v := (-1)) dX8_isEmpty_36 (by decide) (r_icmp_ne C 44 dX8_isEmpty_37 (by decide) (fun c8 => ?_) (fun c8 => ?_))
        · have w := w.1 c8
          exact r_sub [0, 1, 2, 3, 4, 6] rfl (t_X8_isEmpty_44 C hn hQ hg ih _ w)
        · have w := w.2 c8
          exact r_iconst C (v := 1) dX8_isEmpty_40 (by decide) (r_goto C 45 dX8_isEmpty_41 (by decide) (r_sub [0, 1, 2, 3, 4, 6] rfl (t_X8_isEmpty_45 C hn hQ hg ih _ _ w)))
set_option maxHeartbeats 4000000 in
set_option maxRecDepth 100000 in
theorem m_X8_isEmpty {Y : gWx} {a : Nat}  {p0 : Int32} {p1 : Int32} {p2 : Int32} {p3 : Int32} {post : Int32 → Prop} {g : GH} {o : FO} (hg : g a = some (9, o))    (w : wp_X8_isEmpty p0 p1 p2 p3 o post) : gMet Y yX8_isEmpty cX8_isEmpty 7 (some .boolean) rm_X8_isEmpty [.ref a, .int p0, .int p1, .int p2, .int p3] g (gQi Y (fun r9 g9 => g9 = g ∧ post r9)) 0 0 := by
  refine gm_of rfl (Nat.le_of_ble_eq_true rfl) ?_
  intro X hY hn C hnm hQ
  subst hY
  have hQ : gRet X (gQi (xY X) (fun r9 g9 => g9 = g ∧ post r9)) 0 0 ∨ gRex X (gQi (xY X) (fun r9 g9 => g9 = g ∧ post r9)) (fun _ _ => False) 0 0 := Or.inl hQ
  have C : gC X cX8_isEmpty RX8 (some .boolean) rm_X8_isEmpty := C
  show gX X 0 0 0 [(0, .ref a), (1, .int p0), (2, .int p1), (3, .int p2), (4, .int p3)] [] g
  unfold wp_X8_isEmpty at w
  exact r_iconst C (v := 1) dX8_isEmpty_0 (by decide) (r_istore C dX8_isEmpty_1 (nlt hn (by decide)) rfl (r_iconst C (v := 0) dX8_isEmpty_3 (by decide) (r_istore C dX8_isEmpty_4 (nlt hn (by decide)) rfl (r_sub [2, 3, 4, 5, 6, 1, 0] rfl (t_X8_isEmpty_6 C hn hQ hg 1000 _ _ w)))))
def rm_X8_keeps : Room := { frames := 3, cells := 0, slots := 0, locals := 75 }
theorem mt_X8_keeps : gMt yX8_keeps cX8_keeps 4 none 1 := ⟨tw1377, tw64, by decide +kernel, by decide +kernel, by decide +kernel⟩
def wp_X8_keeps_175 (p0 : Int32) (post : FO → Prop) (k98 : Int32 → FO → Prop) (x2 : Int32) (o : FO) : Prop :=
k98 (x2 + 1) o
def wp_X8_keeps_264 (p0 : Int32) (post : FO → Prop) (k183 : Int32 → FO → Prop) (x2 : Int32) (y1 : Int32) (y2 : Int32) (o : FO) : Prop :=
vp_in y1 1600 ∧
∀ o56, o56 = sA o 36 y1.toNatClampNeg (vp_nar .boolean y2) →
k183 (x2 + 1) o56
def wp_X8_keeps_263 (p0 : Int32) (post : FO → Prop) (k183 : Int32 → FO → Prop) (x2 : Int32) (y1 : Int32) (o : FO) : Prop :=
wp_X8_keeps_264 p0 post k183 x2 y1 0 o
def wp_X8_keeps_234 (p0 : Int32) (post : FO → Prop) (k183 : Int32 → FO → Prop) (x2 : Int32) (y0 : Int32) (o : FO) : Prop :=
vp_in x2 200 ∧
(((fA o 7 x2.toNatClampNeg) = 0 → wp_X8_keeps_263 p0 post k183 x2 ((200 * p0) + x2) o) ∧ (¬ (fA o 7 x2.toNatClampNeg) = 0 → ((y0 = 0 → wp_X8_keeps_263 p0 post k183 x2 ((200 * p0) + x2) o) ∧ (¬ y0 = 0 → wp_X8_keeps_264 p0 post k183 x2 ((200 * p0) + x2) 1 o))))
def wp_X8_keeps_229 (p0 : Int32) (post : FO → Prop) (k183 : Int32 → FO → Prop) (x2 : Int32) (o : FO) : Prop :=
wp_X8_keeps_234 p0 post k183 x2 1 o
def wp_X8_keeps_233 (p0 : Int32) (post : FO → Prop) (k183 : Int32 → FO → Prop) (x2 : Int32) (o : FO) : Prop :=
wp_X8_keeps_234 p0 post k183 x2 0 o
def wp_X8_keeps_183 (p0 : Int32) (post : FO → Prop) : Nat → Int32 → FO → Prop
  | 0, _, _ => False
  | n + 1, x2, o =>
    (((fI o 1) ≤ x2 → post o) ∧ (¬ (fI o 1) ≤ x2 → vp_in x2 200 ∧
    wp_X8_isViewed p0 (fA o 4 x2.toNatClampNeg) o (fun r43 =>
    ((¬ r43 = 0 → wp_X8_keeps_229 p0 post (fun x2 o => wp_X8_keeps_183 p0 post n x2 o) x2 o) ∧ (r43 = 0 → vp_in x2 200 ∧
    ((¬ (fA o 2 x2.toNatClampNeg) = 5 → wp_X8_keeps_233 p0 post (fun x2 o => wp_X8_keeps_183 p0 post n x2 o) x2 o) ∧ ((fA o 2 x2.toNatClampNeg) = 5 → vp_in x2 200 ∧
    wp_X8_isViewed p0 (fA o 5 x2.toNatClampNeg) o (fun r49 =>
    ((r49 = 0 → wp_X8_keeps_233 p0 post (fun x2 o => wp_X8_keeps_183 p0 post n x2 o) x2 o) ∧ (¬ r49 = 0 → wp_X8_keeps_229 p0 post (fun x2 o => wp_X8_keeps_183 p0 post n x2 o) x2 o))))))))))
def wp_X8_keeps_98 (p0 : Int32) (post : FO → Prop) : Nat → Int32 → FO → Prop
  | 0, _, _ => False
  | n + 1, x2, o =>
    vp_in p0 8 ∧
    vp_in p0 8 ∧
    ((((fA o 29 p0.toNatClampNeg) * (fA o 30 p0.toNatClampNeg)) ≤ x2 → wp_X8_keeps_183 p0 post 1000 0 o) ∧ (¬ ((fA o 29 p0.toNatClampNeg) * (fA o 30 p0.toNatClampNeg)) ≤ x2 → vp_in p0 8 ∧
    vp_in p0 8 ∧
    ¬ (fA o 29 p0.toNatClampNeg) = 0 ∧
    vp_in p0 8 ∧
    vp_in p0 8 ∧
    ¬ (fA o 29 p0.toNatClampNeg) = 0 ∧
    wp_X8_seenAt ((fA o 27 p0.toNatClampNeg) + (x2 - x2 / (fA o 29 p0.toNatClampNeg) * (fA o 29 p0.toNatClampNeg))) ((fA o 28 p0.toNatClampNeg) + (x2 / (fA o 29 p0.toNatClampNeg))) o (fun r33 =>
    ((r33 = ((-1)) → wp_X8_keeps_175 p0 post (fun x2 o => wp_X8_keeps_98 p0 post n x2 o) x2 o) ∧ (¬ r33 = ((-1)) → vp_in r33 40 ∧
    vp_in ((6 * p0) + (fA o 11 r33.toNatClampNeg)) 48 ∧
    vp_in ((6 * p0) + (fA o 11 r33.toNatClampNeg)) 48 ∧
    ∀ o39, o39 = sA o 35 ((6 * p0) + (fA o 11 r33.toNatClampNeg)).toNatClampNeg ((fA o 35 ((6 * p0) + (fA o 11 r33.toNatClampNeg)).toNatClampNeg) + 1) →
    wp_X8_keeps_175 p0 post (fun x2 o => wp_X8_keeps_98 p0 post n x2 o) x2 o39)))))
def wp_X8_keeps_12 (p0 : Int32) (post : FO → Prop) : Nat → Int32 → FO → Prop
  | 0, _, _ => False
  | n + 1, x2, o =>
    (((fI o 18) ≤ x2 → wp_X8_keeps_98 p0 post 1000 0 o) ∧ (¬ (fI o 18) ≤ x2 → vp_in x2 40 ∧
    vp_in ((40 * p0) + x2) 320 ∧
    ∀ o7, o7 = sA o 38 ((40 * p0) + x2).toNatClampNeg (fA o 19 x2.toNatClampNeg) →
    vp_in x2 40 ∧
    vp_in (fA o7 19 x2.toNatClampNeg) 40 ∧
    vp_in ((40 * p0) + x2) 320 ∧
    ∀ o12, o12 = sA o7 39 ((40 * p0) + x2).toNatClampNeg (fA o7 21 (fA o7 19 x2.toNatClampNeg).toNatClampNeg) →
    vp_in x2 40 ∧
    vp_in (fA o12 19 x2.toNatClampNeg) 40 ∧
    vp_in ((40 * p0) + x2) 320 ∧
    ∀ o17, o17 = sA o12 40 ((40 * p0) + x2).toNatClampNeg (fA o12 22 (fA o12 19 x2.toNatClampNeg).toNatClampNeg) →
    vp_in x2 40 ∧
    vp_in (fA o17 19 x2.toNatClampNeg) 40 ∧
    vp_in ((40 * p0) + x2) 320 ∧
    ∀ o22, o22 = sA o17 41 ((40 * p0) + x2).toNatClampNeg (fA o17 23 (fA o17 19 x2.toNatClampNeg).toNatClampNeg) →
    wp_X8_keeps_12 p0 post n (x2 + 1) o22))
def wp_X8_keeps (p0 : Int32) (o : FO) (post : FO → Prop) : Prop :=
vp_in p0 8 ∧
∀ o2, o2 = sA o 37 p0.toNatClampNeg (fI o 18) →
wp_X8_keeps_12 p0 post 1000 0 o2
set_option maxHeartbeats 4000000 in
set_option maxRecDepth 100000 in
theorem t_X8_keeps_175 {X : gCx} {a : Nat}  {p0 : Int32} {post : FO → Prop} {g : GH}  {k98 : Int32 → FO → Prop} (C : gC X cX8_keeps RX8 none rm_X8_keeps) (hn : xn X = 4) (hQ : gRet X (gQv (xY X) (fun  g9 => ∃ o9, g9 = hu g a (9, o9) ∧ post  o9)) 0 0 ∨ gRex X (gQv (xY X) (fun  g9 => ∃ o9, g9 = hu g a (9, o9) ∧ post  o9)) (fun _ _ => False) 0 0)   (hk98 : ∀ (x2 : Int32) (o : FO), k98 x2 o → gX X 0 0 98 [(0, .ref a), (1, .int p0), (2, .int x2)] [] (hu g a (9, o))) : ∀ (x2 : Int32) (o : FO), wp_X8_keeps_175 p0 post k98 x2 o → gX X 0 0 175 [(0, .ref a), (1, .int p0), (2, .int x2)] [] (hu g a (9, o)) := by
  intro x2 o w
  unfold wp_X8_keeps_175 at w
  exact r_iinc C (v := x2 + 1) 2 dX8_keeps_175 rfl rfl (nlt hn (by decide)) rfl (r_goto C 98 dX8_keeps_178 (by decide) (r_sub [1, 2, 0] rfl (hk98 _ _ w)))
set_option maxHeartbeats 4000000 in
set_option maxRecDepth 100000 in
theorem t_X8_keeps_264 {X : gCx} {a : Nat}  {p0 : Int32} {post : FO → Prop} {g : GH}  {k183 : Int32 → FO → Prop} (C : gC X cX8_keeps RX8 none rm_X8_keeps) (hn : xn X = 4) (hQ : gRet X (gQv (xY X) (fun  g9 => ∃ o9, g9 = hu g a (9, o9) ∧ post  o9)) 0 0 ∨ gRex X (gQv (xY X) (fun  g9 => ∃ o9, g9 = hu g a (9, o9) ∧ post  o9)) (fun _ _ => False) 0 0)   (hk183 : ∀ (x2 : Int32) (o : FO), k183 x2 o → gX X 0 0 183 [(0, .ref a), (1, .int p0), (2, .int x2)] [] (hu g a (9, o))) : ∀ (x2 : Int32) (y1 : Int32) (y2 : Int32) (o : FO), wp_X8_keeps_264 p0 post k183 x2 y1 y2 o → gX X 0 0 264 [(0, .ref a), (1, .int p0), (2, .int x2)] [.int y2, .int y1, .ref (a + 32)] (hu g a (9, o)) := by
  intro x2 y1 y2 o w
  unfold wp_X8_keeps_264 at w
  obtain ⟨i55, w⟩ := w
  obtain ⟨o56, e57⟩ : ∃ z, z = sA o 36 y1.toNatClampNeg (vp_nar .boolean y2) := ⟨_, rfl⟩
  have w := w o56 e57
  exact r_zast (ci := 9) (k := 36) C dX8_keeps_264 rfl rfl hu_s i55 e57 hu_hu.symm (r_iinc C (v := x2 + 1) 2 dX8_keeps_265 rfl rfl (nlt hn (by decide)) rfl (r_goto C 183 dX8_keeps_268 (by decide) (r_sub [1, 2, 0] rfl (hk183 _ _ w))))
set_option maxHeartbeats 4000000 in
set_option maxRecDepth 100000 in
theorem t_X8_keeps_263 {X : gCx} {a : Nat}  {p0 : Int32} {post : FO → Prop} {g : GH}  {k183 : Int32 → FO → Prop} (C : gC X cX8_keeps RX8 none rm_X8_keeps) (hn : xn X = 4) (hQ : gRet X (gQv (xY X) (fun  g9 => ∃ o9, g9 = hu g a (9, o9) ∧ post  o9)) 0 0 ∨ gRex X (gQv (xY X) (fun  g9 => ∃ o9, g9 = hu g a (9, o9) ∧ post  o9)) (fun _ _ => False) 0 0)   (hk183 : ∀ (x2 : Int32) (o : FO), k183 x2 o → gX X 0 0 183 [(0, .ref a), (1, .int p0), (2, .int x2)] [] (hu g a (9, o))) : ∀ (x2 : Int32) (y1 : Int32) (o : FO), wp_X8_keeps_263 p0 post k183 x2 y1 o → gX X 0 0 263 [(0, .ref a), (1, .int p0), (2, .int x2)] [.int y1, .ref (a + 32)] (hu g a (9, o)) := by
  intro x2 y1 o w
  unfold wp_X8_keeps_263 at w
  exact r_iconst C (v := 0) dX8_keeps_263 (by decide) (r_sub [0, 1, 2] rfl (t_X8_keeps_264 C hn hQ hk183 _ _ _ _ w))
set_option maxHeartbeats 4000000 in
set_option maxRecDepth 100000 in
theorem t_X8_keeps_234 {X : gCx} {a : Nat}  {p0 : Int32} {post : FO → Prop} {g : GH}  {k183 : Int32 → FO → Prop} (C : gC X cX8_keeps RX8 none rm_X8_keeps) (hn : xn X = 4) (hQ : gRet X (gQv (xY X) (fun  g9 => ∃ o9, g9 = hu g a (9, o9) ∧ post  o9)) 0 0 ∨ gRex X (gQv (xY X) (fun  g9 => ∃ o9, g9 = hu g a (9, o9) ∧ post  o9)) (fun _ _ => False) 0 0)   (hk183 : ∀ (x2 : Int32) (o : FO), k183 x2 o → gX X 0 0 183 [(0, .ref a), (1, .int p0), (2, .int x2)] [] (hu g a (9, o))) : ∀ (x2 : Int32) (y0 : Int32) (o : FO), wp_X8_keeps_234 p0 post k183 x2 y0 o → gX X 0 0 234 [(0, .ref a), (1, .int p0), (2, .int x2)] [.int y0] (hu g a (9, o)) := by
  intro x2 y0 o w
  unfold wp_X8_keeps_234 at w
  obtain ⟨i52, w⟩ := w
  refine r_istore_n C dX8_keeps_234 (nlt hn (by decide)) rfl (r_aload_n C 1 dX8_keeps_235 rfl (rg_X8_X8_holds C dX8_keeps_236 hu_s (r_sipush C (v := 200) dX8_keeps_239 (by decide) (r_iload_n C 2 dX8_keeps_242 rfl (r_imul C dX8_keeps_243 (r_iload_n C 3 dX8_keeps_244 rfl (r_iadd C dX8_keeps_245 (r_aload_n C 1 dX8_keeps_246 rfl (rg_X8_X8_isLive C dX8_keeps_247 hu_s (r_iload_n C 3 dX8_keeps_250 rfl (r_zald (ci := 9) (k := 7) C dX8_keeps_251 rfl rfl hu_s i52 (r_if_eq C 263 dX8_keeps_252 (by decide) (fun c53 => ?_) (fun c53 => ?_)))))))))))))
  · have w := w.1 c53
    exact r_sub [1, 2, 3] rfl (t_X8_keeps_263 C hn hQ hk183 _ _ _ w)
  · have w := w.2 c53
    refine r_iload_n C 0 dX8_keeps_255 rfl (r_if_eq C 263 dX8_keeps_256 (by decide) (fun c54 => ?_) (fun c54 => ?_))
    · have w := w.1 c54
      exact r_sub [1, 2, 3] rfl (t_X8_keeps_263 C hn hQ hk183 _ _ _ w)
    · have w := w.2 c54
      exact r_iconst C (v := 1) dX8_keeps_259 (by decide) (r_goto C 264 dX8_keeps_260 (by decide) (r_sub [1, 2, 3] rfl (t_X8_keeps_264 C hn hQ hk183 _ _ _ _ w)))
set_option maxHeartbeats 4000000 in
set_option maxRecDepth 100000 in
theorem t_X8_keeps_229 {X : gCx} {a : Nat}  {p0 : Int32} {post : FO → Prop} {g : GH}  {k183 : Int32 → FO → Prop} (C : gC X cX8_keeps RX8 none rm_X8_keeps) (hn : xn X = 4) (hQ : gRet X (gQv (xY X) (fun  g9 => ∃ o9, g9 = hu g a (9, o9) ∧ post  o9)) 0 0 ∨ gRex X (gQv (xY X) (fun  g9 => ∃ o9, g9 = hu g a (9, o9) ∧ post  o9)) (fun _ _ => False) 0 0)   (hk183 : ∀ (x2 : Int32) (o : FO), k183 x2 o → gX X 0 0 183 [(0, .ref a), (1, .int p0), (2, .int x2)] [] (hu g a (9, o))) : ∀ (x2 : Int32) (o : FO), wp_X8_keeps_229 p0 post k183 x2 o → gX X 0 0 229 [(0, .ref a), (1, .int p0), (2, .int x2)] [] (hu g a (9, o)) := by
  intro x2 o w
  unfold wp_X8_keeps_229 at w
  exact r_iconst C (v := 1) dX8_keeps_229 (by decide) (r_goto C 234 dX8_keeps_230 (by decide) (r_sub [0, 1, 2] rfl (t_X8_keeps_234 C hn hQ hk183 _ _ _ w)))
set_option maxHeartbeats 4000000 in
set_option maxRecDepth 100000 in
theorem t_X8_keeps_233 {X : gCx} {a : Nat}  {p0 : Int32} {post : FO → Prop} {g : GH}  {k183 : Int32 → FO → Prop} (C : gC X cX8_keeps RX8 none rm_X8_keeps) (hn : xn X = 4) (hQ : gRet X (gQv (xY X) (fun  g9 => ∃ o9, g9 = hu g a (9, o9) ∧ post  o9)) 0 0 ∨ gRex X (gQv (xY X) (fun  g9 => ∃ o9, g9 = hu g a (9, o9) ∧ post  o9)) (fun _ _ => False) 0 0)   (hk183 : ∀ (x2 : Int32) (o : FO), k183 x2 o → gX X 0 0 183 [(0, .ref a), (1, .int p0), (2, .int x2)] [] (hu g a (9, o))) : ∀ (x2 : Int32) (o : FO), wp_X8_keeps_233 p0 post k183 x2 o → gX X 0 0 233 [(0, .ref a), (1, .int p0), (2, .int x2)] [] (hu g a (9, o)) := by
  intro x2 o w
  unfold wp_X8_keeps_233 at w
  exact r_iconst C (v := 0) dX8_keeps_233 (by decide) (r_sub [0, 1, 2] rfl (t_X8_keeps_234 C hn hQ hk183 _ _ _ w))
set_option maxHeartbeats 4000000 in
set_option maxRecDepth 100000 in
theorem t_X8_keeps_183 {X : gCx} {a : Nat}  {p0 : Int32} {post : FO → Prop} {g : GH}   (C : gC X cX8_keeps RX8 none rm_X8_keeps) (hn : xn X = 4) (hQ : gRet X (gQv (xY X) (fun  g9 => ∃ o9, g9 = hu g a (9, o9) ∧ post  o9)) 0 0 ∨ gRex X (gQv (xY X) (fun  g9 => ∃ o9, g9 = hu g a (9, o9) ∧ post  o9)) (fun _ _ => False) 0 0)    : ∀ (n : Nat) (x2 : Int32) (o : FO), wp_X8_keeps_183 p0 post n x2 o → gX X 0 0 183 [(0, .ref a), (1, .int p0), (2, .int x2)] [] (hu g a (9, o)) := by
  intro n
  induction n with
  | zero => intro x2 o w; exact w.elim
  | succ n ih =>
    intro x2 o w
    unfold wp_X8_keeps_183 at w
    refine r_iload_n C 2 dX8_keeps_183 rfl (r_aload_n C 0 dX8_keeps_184 rfl (rg_X8_X8_acts C dX8_keeps_185 hu_s (r_icmp_ge C 271 dX8_keeps_188 (by decide) (fun c41 => ?_) (fun c41 => ?_))))
    · have w := w.1 c41
      exact r_vret C hQ dX8_keeps_271 rfl ⟨Nat.le_of_ble_eq_true rfl, Nat.le_of_ble_eq_true rfl⟩ ⟨_, rfl, w⟩
    · have w := w.2 c41
      obtain ⟨i42, w⟩ := w
      refine r_aload_n C 0 dX8_keeps_191 rfl (r_iload_n C 1 dX8_keeps_192 rfl (r_aload_n C 0 dX8_keeps_193 rfl (rg_X8_X8_shape C dX8_keeps_194 hu_s (r_iload_n C 2 dX8_keeps_197 rfl (r_iald (ci := 9) (k := 4) C dX8_keeps_198 rfl rfl hu_s i42 (r_goi (r_runV C dX8_keeps_199 (m_X8_isViewed hu_s w) mt_X8_isViewed tw1378 tw1380 tw51 gcl_9.1 hu_s rfl (stk := []) rfl (Nat.le_of_ble_eq_true rfl) ⟨rfl, rfl, ⟨Nat.le_of_ble_eq_true rfl, Nat.le_of_ble_eq_true rfl⟩, ⟨Nat.le_of_ble_eq_true rfl, Nat.le_of_ble_eq_true rfl⟩⟩) ?_))))))
      intro r43 h44 hp
      obtain ⟨rfl, w⟩ := hp
      refine r_if_ne C 229 dX8_keeps_202 (by decide) (fun c45 => ?_) (fun c45 => ?_)
      · have w := w.1 c45
        exact r_sub [0, 1, 2] rfl (t_X8_keeps_229 C hn hQ ih _ _ w)
      · have w := w.2 c45
        obtain ⟨i46, w⟩ := w
        refine r_aload_n C 0 dX8_keeps_205 rfl (rg_X8_X8_kind C dX8_keeps_206 hu_s (r_iload_n C 2 dX8_keeps_209 rfl (r_iald (ci := 9) (k := 2) C dX8_keeps_210 rfl rfl hu_s i46 (r_iconst C (v := 5) dX8_keeps_211 (by decide) (r_icmp_ne C 233 dX8_keeps_212 (by decide) (fun c47 => ?_) (fun c47 => ?_))))))
        · have w := w.1 c47
          exact r_sub [0, 1, 2] rfl (t_X8_keeps_233 C hn hQ ih _ _ w)
        · have w := w.2 c47
          obtain ⟨i48, w⟩ := w
          refine r_aload_n C 0 dX8_keeps_215 rfl (r_iload_n C 1 dX8_keeps_216 rfl (r_aload_n C 0 dX8_keeps_217 rfl (rg_X8_X8_first C dX8_keeps_218 hu_s (r_iload_n C 2 dX8_keeps_221 rfl (r_iald (ci := 9) (k := 5) C dX8_keeps_222 rfl rfl hu_s i48 (r_goi (r_runV C dX8_keeps_223 (m_X8_isViewed hu_s w) mt_X8_isViewed tw1378 tw1380 tw51 gcl_9.1 hu_s rfl (stk := []) rfl (Nat.le_of_ble_eq_true rfl) ⟨rfl, rfl, ⟨Nat.le_of_ble_eq_true rfl, Nat.le_of_ble_eq_true rfl⟩, ⟨Nat.le_of_ble_eq_true rfl, Nat.le_of_ble_eq_true rfl⟩⟩) ?_))))))
          intro r49 h50 hp
          obtain ⟨rfl, w⟩ := hp
          refine r_if_eq C 233 dX8_keeps_226 (by decide) (fun c51 => ?_) (fun c51 => ?_)
          · have w := w.1 c51
            exact r_sub [0, 1, 2] rfl (t_X8_keeps_233 C hn hQ ih _ _ w)
          · have w := w.2 c51
            exact r_sub [0, 1, 2] rfl (t_X8_keeps_229 C hn hQ ih _ _ w)
set_option maxHeartbeats 4000000 in
set_option maxRecDepth 100000 in
theorem t_X8_keeps_98 {X : gCx} {a : Nat}  {p0 : Int32} {post : FO → Prop} {g : GH}   (C : gC X cX8_keeps RX8 none rm_X8_keeps) (hn : xn X = 4) (hQ : gRet X (gQv (xY X) (fun  g9 => ∃ o9, g9 = hu g a (9, o9) ∧ post  o9)) 0 0 ∨ gRex X (gQv (xY X) (fun  g9 => ∃ o9, g9 = hu g a (9, o9) ∧ post  o9)) (fun _ _ => False) 0 0)    : ∀ (n : Nat) (x2 : Int32) (o : FO), wp_X8_keeps_98 p0 post n x2 o → gX X 0 0 98 [(0, .ref a), (1, .int p0), (2, .int x2)] [] (hu g a (9, o)) := by
  intro n
  induction n with
  | zero => intro x2 o w; exact w.elim
  | succ n ih =>
    intro x2 o w
    unfold wp_X8_keeps_98 at w
    obtain ⟨i24, w⟩ := w
    obtain ⟨i25, w⟩ := w
    refine r_iload_n C 2 dX8_keeps_98 rfl (r_aload_n C 0 dX8_keeps_99 rfl (rg_X8_X8_viewWidth C dX8_keeps_100 hu_s (r_iload_n C 1 dX8_keeps_103 rfl (r_iald (ci := 9) (k := 29) C dX8_keeps_104 rfl rfl hu_s i24 (r_aload_n C 0 dX8_keeps_105 rfl (rg_X8_X8_viewHeight C dX8_keeps_106 hu_s (r_iload_n C 1 dX8_keeps_109 rfl (r_iald (ci := 9) (k := 30) C dX8_keeps_110 rfl rfl hu_s i25 (r_imul C dX8_keeps_111 (r_icmp_ge C 181 dX8_keeps_112 (by decide) (fun c26 => ?_) (fun c26 => ?_)))))))))))
    · have w := w.1 c26
      exact r_iconst C (v := 0) dX8_keeps_181 (by decide) (r_istore_n C dX8_keeps_182 (nlt hn (by decide)) rfl (r_sub [1, 2, 0] rfl (t_X8_keeps_183 C hn hQ 1000 _ _ w)))
    · have w := w.2 c26
      obtain ⟨i27, w⟩ := w
      obtain ⟨i28, w⟩ := w
      obtain ⟨i29, w⟩ := w
      obtain ⟨i30, w⟩ := w
      obtain ⟨i31, w⟩ := w
      obtain ⟨i32, w⟩ := w
      refine r_aload_n C 0 dX8_keeps_115 rfl (r_aload_n C 0 dX8_keeps_116 rfl (rg_X8_X8_viewColumn C dX8_keeps_117 hu_s (r_iload_n C 1 dX8_keeps_120 rfl (r_iald (ci := 9) (k := 27) C dX8_keeps_121 rfl rfl hu_s i27 (r_iload_n C 2 dX8_keeps_122 rfl (r_aload_n C 0 dX8_keeps_123 rfl (rg_X8_X8_viewWidth C dX8_keeps_124 hu_s (r_iload_n C 1 dX8_keeps_127 rfl (r_iald (ci := 9) (k := 29) C dX8_keeps_128 rfl rfl hu_s i28 (r_irem C dX8_keeps_129 i29 (r_iadd C dX8_keeps_130 (r_aload_n C 0 dX8_keeps_131 rfl (rg_X8_X8_viewRow C dX8_keeps_132 hu_s (r_iload_n C 1 dX8_keeps_135 rfl (r_iald (ci := 9) (k := 28) C dX8_keeps_136 rfl rfl hu_s i30 (r_iload_n C 2 dX8_keeps_137 rfl (r_aload_n C 0 dX8_keeps_138 rfl (rg_X8_X8_viewWidth C dX8_keeps_139 hu_s (r_iload_n C 1 dX8_keeps_142 rfl (r_iald (ci := 9) (k := 29) C dX8_keeps_143 rfl rfl hu_s i31 (r_idiv C dX8_keeps_144 i32 (r_iadd C dX8_keeps_145 (r_goi (r_runV C dX8_keeps_146 (m_X8_seenAt hu_s w) mt_X8_seenAt tw1353 tw1355 tw47 gcl_9.1 hu_s rfl (stk := []) rfl (Nat.le_of_ble_eq_true rfl) ⟨rfl, rfl, ⟨Nat.le_of_ble_eq_true rfl, Nat.le_of_ble_eq_true rfl⟩, ⟨Nat.le_of_ble_eq_true rfl, Nat.le_of_ble_eq_true rfl⟩⟩) ?_)))))))))))))))))))))))
      intro r33 h34 hp
      obtain ⟨rfl, w⟩ := hp
      refine r_istore_n C dX8_keeps_149 (nlt hn (by decide)) rfl (r_iload_n C 0 dX8_keeps_150 rfl (r_iconst C (v := (-1)) dX8_keeps_151 (by decide) (r_icmp_eq C 175 dX8_keeps_152 (by decide) (fun c35 => ?_) (fun c35 => ?_))))
      · have w := w.1 c35
        exact r_sub [1, 2, 3] rfl (t_X8_keeps_175 C hn hQ ih _ _ w)
      · have w := w.2 c35
        obtain ⟨i36, w⟩ := w
        obtain ⟨i37, w⟩ := w
        obtain ⟨i38, w⟩ := w
        obtain ⟨o39, e40⟩ : ∃ z, z = sA o 35 ((6 * p0) + (fA o 11 r33.toNatClampNeg)).toNatClampNeg ((fA o 35 ((6 * p0) + (fA o 11 r33.toNatClampNeg)).toNatClampNeg) + 1) := ⟨_, rfl⟩
        have w := w o39 e40
        exact r_aload_n C 1 dX8_keeps_155 rfl (rg_X8_X8_area C dX8_keeps_156 hu_s (r_bipush C (v := 6) dX8_keeps_159 (by decide) (r_iload_n C 2 dX8_keeps_161 rfl (r_imul C dX8_keeps_162 (r_aload_n C 1 dX8_keeps_163 rfl (rg_X8_X8_maker C dX8_keeps_164 hu_s (r_iload_n C 0 dX8_keeps_167 rfl (r_iald (ci := 9) (k := 11) C dX8_keeps_168 rfl rfl hu_s i36 (r_iadd C dX8_keeps_169 (r_dup2 C dX8_keeps_170 rfl rfl (r_iald (ci := 9) (k := 35) C dX8_keeps_171 rfl rfl hu_s i37 (r_iconst C (v := 1) dX8_keeps_172 (by decide) (r_iadd C dX8_keeps_173 (r_iast (ci := 9) (k := 35) C dX8_keeps_174 rfl rfl hu_s i38 e40 hu_hu.symm (r_sub [1, 2, 3] rfl (t_X8_keeps_175 C hn hQ ih _ _ w))))))))))))))))
set_option maxHeartbeats 4000000 in
set_option maxRecDepth 100000 in
theorem t_X8_keeps_12 {X : gCx} {a : Nat}  {p0 : Int32} {post : FO → Prop} {g : GH}   (C : gC X cX8_keeps RX8 none rm_X8_keeps) (hn : xn X = 4) (hQ : gRet X (gQv (xY X) (fun  g9 => ∃ o9, g9 = hu g a (9, o9) ∧ post  o9)) 0 0 ∨ gRex X (gQv (xY X) (fun  g9 => ∃ o9, g9 = hu g a (9, o9) ∧ post  o9)) (fun _ _ => False) 0 0)    : ∀ (n : Nat) (x2 : Int32) (o : FO), wp_X8_keeps_12 p0 post n x2 o → gX X 0 0 12 [(0, .ref a), (1, .int p0), (2, .int x2)] [] (hu g a (9, o)) := by
  intro n
  induction n with
  | zero => intro x2 o w; exact w.elim
  | succ n ih =>
    intro x2 o w
    unfold wp_X8_keeps_12 at w
    refine r_iload_n C 2 dX8_keeps_12 rfl (r_aload_n C 0 dX8_keeps_13 rfl (rg_X8_X8_many C dX8_keeps_14 hu_s (r_icmp_ge C 96 dX8_keeps_17 (by decide) (fun c4 => ?_) (fun c4 => ?_))))
    · have w := w.1 c4
      exact r_iconst C (v := 0) dX8_keeps_96 (by decide) (r_istore_n C dX8_keeps_97 (nlt hn (by decide)) rfl (r_sub [1, 2, 0] rfl (t_X8_keeps_98 C hn hQ 1000 _ _ w)))
    · have w := w.2 c4
      obtain ⟨i5, w⟩ := w
      obtain ⟨i6, w⟩ := w
      obtain ⟨o7, e8⟩ : ∃ z, z = sA o 38 ((40 * p0) + x2).toNatClampNeg (fA o 19 x2.toNatClampNeg) := ⟨_, rfl⟩
      have w := w o7 e8
      obtain ⟨i9, w⟩ := w
      obtain ⟨i10, w⟩ := w
      obtain ⟨i11, w⟩ := w
      obtain ⟨o12, e13⟩ : ∃ z, z = sA o7 39 ((40 * p0) + x2).toNatClampNeg (fA o7 21 (fA o7 19 x2.toNatClampNeg).toNatClampNeg) := ⟨_, rfl⟩
      have w := w o12 e13
      obtain ⟨i14, w⟩ := w
      obtain ⟨i15, w⟩ := w
      obtain ⟨i16, w⟩ := w
      obtain ⟨o17, e18⟩ : ∃ z, z = sA o12 40 ((40 * p0) + x2).toNatClampNeg (fA o12 22 (fA o12 19 x2.toNatClampNeg).toNatClampNeg) := ⟨_, rfl⟩
      have w := w o17 e18
      obtain ⟨i19, w⟩ := w
      obtain ⟨i20, w⟩ := w
      obtain ⟨i21, w⟩ := w
      obtain ⟨o22, e23⟩ : ∃ z, z = sA o17 41 ((40 * p0) + x2).toNatClampNeg (fA o17 23 (fA o17 19 x2.toNatClampNeg).toNatClampNeg) := ⟨_, rfl⟩
      have w := w o22 e23
      exact r_bipush C (v := 40) dX8_keeps_20 (by decide) (r_iload_n C 1 dX8_keeps_22 rfl (r_imul C dX8_keeps_23 (r_iload_n C 2 dX8_keeps_24 rfl (r_iadd C dX8_keeps_25 (r_istore_n C dX8_keeps_26 (nlt hn (by decide)) rfl (r_aload_n C 1 dX8_keeps_27 rfl (rg_X8_X8_keptShape C dX8_keeps_28 hu_s (r_iload_n C 0 dX8_keeps_31 rfl (r_aload_n C 1 dX8_keeps_32 rfl (rg_X8_X8_order C dX8_keeps_33 hu_s (r_iload_n C 3 dX8_keeps_36 rfl (r_iald (ci := 9) (k := 19) C dX8_keeps_37 rfl rfl hu_s i5 (r_iast (ci := 9) (k := 38) C dX8_keeps_38 rfl rfl hu_s i6 e8 hu_hu.symm (r_aload_n C 1 dX8_keeps_39 rfl (rg_X8_X8_keptColumn C dX8_keeps_40 hu_s (r_iload_n C 0 dX8_keeps_43 rfl (r_aload_n C 1 dX8_keeps_44 rfl (rg_X8_X8_column C dX8_keeps_45 hu_s (r_aload_n C 1 dX8_keeps_48 rfl (rg_X8_X8_order C dX8_keeps_49 hu_s (r_iload_n C 3 dX8_keeps_52 rfl (r_iald (ci := 9) (k := 19) C dX8_keeps_53 rfl rfl hu_s i9 (r_iald (ci := 9) (k := 21) C dX8_keeps_54 rfl rfl hu_s i10 (r_iast (ci := 9) (k := 39) C dX8_keeps_55 rfl rfl hu_s i11 e13 hu_hu.symm (r_aload_n C 1 dX8_keeps_56 rfl (rg_X8_X8_keptRow C dX8_keeps_57 hu_s (r_iload_n C 0 dX8_keeps_60 rfl (r_aload_n C 1 dX8_keeps_61 rfl (rg_X8_X8_row C dX8_keeps_62 hu_s (r_aload_n C 1 dX8_keeps_65 rfl (rg_X8_X8_order C dX8_keeps_66 hu_s (r_iload_n C 3 dX8_keeps_69 rfl (r_iald (ci := 9) (k := 19) C dX8_keeps_70 rfl rfl hu_s i14 (r_iald (ci := 9) (k := 22) C dX8_keeps_71 rfl rfl hu_s i15 (r_iast (ci := 9) (k := 40) C dX8_keeps_72 rfl rfl hu_s i16 e18 hu_hu.symm (r_aload_n C 1 dX8_keeps_73 rfl (rg_X8_X8_keptColour C dX8_keeps_74 hu_s (r_iload_n C 0 dX8_keeps_77 rfl (r_aload_n C 1 dX8_keeps_78 rfl (rg_X8_X8_colour C dX8_keeps_79 hu_s (r_aload_n C 1 dX8_keeps_82 rfl (rg_X8_X8_order C dX8_keeps_83 hu_s (r_iload_n C 3 dX8_keeps_86 rfl (r_iald (ci := 9) (k := 19) C dX8_keeps_87 rfl rfl hu_s i19 (r_iald (ci := 9) (k := 23) C dX8_keeps_88 rfl rfl hu_s i20 (r_iast (ci := 9) (k := 41) C dX8_keeps_89 rfl rfl hu_s i21 e23 hu_hu.symm (r_iinc C (v := x2 + 1) 3 dX8_keeps_90 rfl rfl (nlt hn (by decide)) rfl (r_goto C 12 dX8_keeps_93 (by decide) (r_sub [2, 3, 0] rfl (ih _ _ w))))))))))))))))))))))))))))))))))))))))))))))))))
set_option maxHeartbeats 4000000 in
set_option maxRecDepth 100000 in
theorem m_X8_keeps {Y : gWx} {a : Nat}  {p0 : Int32} {post : FO → Prop} {g : GH}  {o : FO} (hg : g a = some (9, o))    (w : wp_X8_keeps p0 o post) : gMet Y yX8_keeps cX8_keeps 4 none rm_X8_keeps [.ref a, .int p0] g (gQv Y (fun  g9 => ∃ o9, g9 = hu g a (9, o9) ∧ post  o9)) 0 0 := by
  refine gm_of rfl (Nat.le_of_ble_eq_true rfl) ?_
  intro X hY hn C hnm hQ
  subst hY
  have hQ : gRet X (gQv (xY X) (fun  g9 => ∃ o9, g9 = hu g a (9, o9) ∧ post  o9)) 0 0 ∨ gRex X (gQv (xY X) (fun  g9 => ∃ o9, g9 = hu g a (9, o9) ∧ post  o9)) (fun _ _ => False) 0 0 := Or.inl hQ
  have C : gC X cX8_keeps RX8 none rm_X8_keeps := C
  refine gX_eq (hu_id hg).symm ?_
  show gX X 0 0 0 [(0, .ref a), (1, .int p0)] [] (hu g a (9, o))
  unfold wp_X8_keeps at w
  obtain ⟨i1, w⟩ := w
  obtain ⟨o2, e3⟩ : ∃ z, z = sA o 37 p0.toNatClampNeg (fI o 18) := ⟨_, rfl⟩
  have w := w o2 e3
  exact r_aload_n C 0 dX8_keeps_0 rfl (rg_X8_X8_kept C dX8_keeps_1 hu_s (r_iload_n C 1 dX8_keeps_4 rfl (r_aload_n C 0 dX8_keeps_5 rfl (rg_X8_X8_many C dX8_keeps_6 hu_s (r_iast (ci := 9) (k := 37) C dX8_keeps_9 rfl rfl hu_s i1 e3 hu_hu.symm (r_iconst C (v := 0) dX8_keeps_10 (by decide) (r_istore_n C dX8_keeps_11 (nlt hn (by decide)) rfl (r_sub [1, 2, 0] rfl (t_X8_keeps_12 C hn hQ 1000 _ _ w)))))))))
def rm_X8_freeze : Room := { frames := 4, cells := 0, slots := 0, locals := 98 }
theorem mt_X8_freeze : gMt yX8_freeze cX8_freeze 9 (some .int) 7 := ⟨tw1368, tw64, by decide +kernel, by decide +kernel, by decide +kernel⟩
def wp_X8_freeze_149 (p0 : Int32) (p1 : Int32) (p2 : Int32) (p3 : Int32) (p4 : Int32) (p5 : Int32) (p6 : Int32) (post : Int32 → FO → Prop) (y1 : Int32) (o : FO) : Prop :=
∀ o31, o31 = sI o 0 y1 →
(((fI o31 0) ≤ 0 → vp_in (fI o31 25) 8 ∧
∀ o35, o35 = sA o31 26 (fI o31 25).toNatClampNeg p0 →
vp_in (fI o35 25) 8 ∧
∀ o38, o38 = sA o35 27 (fI o35 25).toNatClampNeg p1 →
vp_in (fI o38 25) 8 ∧
∀ o41, o41 = sA o38 28 (fI o38 25).toNatClampNeg p2 →
vp_in (fI o41 25) 8 ∧
∀ o44, o44 = sA o41 29 (fI o41 25).toNatClampNeg p3 →
vp_in (fI o44 25) 8 ∧
∀ o47, o47 = sA o44 30 (fI o44 25).toNatClampNeg p4 →
vp_in (fI o47 25) 8 ∧
∀ o50, o50 = sA o47 31 (fI o47 25).toNatClampNeg p5 →
vp_in (fI o50 25) 8 ∧
∀ o53, o53 = sA o50 32 (fI o50 25).toNatClampNeg p6 →
wp_X8_keeps (fI o53 25) o53 (fun o55 =>
∀ o57, o57 = sI o55 25 ((fI o55 25) + 1) →
post ((fI o57 25) - 1) o57)) ∧ (¬ (fI o31 0) ≤ 0 → post 0 o31))
def wp_X8_freeze_144 (p0 : Int32) (p1 : Int32) (p2 : Int32) (p3 : Int32) (p4 : Int32) (p5 : Int32) (p6 : Int32) (post : Int32 → FO → Prop)  (o : FO) : Prop :=
wp_X8_freeze_149 p0 p1 p2 p3 p4 p5 p6 post 3 o
def wp_X8_freeze_109 (p0 : Int32) (p1 : Int32) (p2 : Int32) (p3 : Int32) (p4 : Int32) (p5 : Int32) (p6 : Int32) (post : Int32 → FO → Prop) (y1 : Int32) (o : FO) : Prop :=
∀ o24, o24 = sI o 0 y1 →
(((fI o24 0) ≤ 0 → (((fI o24 25) = 8 → wp_X8_freeze_144 p0 p1 p2 p3 p4 p5 p6 post o24) ∧ (¬ (fI o24 25) = 8 → wp_X8_isEmpty p1 p2 p3 p4 o24 (fun r28 =>
((r28 = 0 → wp_X8_freeze_149 p0 p1 p2 p3 p4 p5 p6 post 0 o24) ∧ (¬ r28 = 0 → wp_X8_freeze_144 p0 p1 p2 p3 p4 p5 p6 post o24)))))) ∧ (¬ (fI o24 0) ≤ 0 → post 0 o24))
def wp_X8_freeze_85 (p0 : Int32) (p1 : Int32) (p2 : Int32) (p3 : Int32) (p4 : Int32) (p5 : Int32) (p6 : Int32) (post : Int32 → FO → Prop) (y0 : Int32) (o : FO) : Prop :=
wp_X8_isHand p0 (fun r20 =>
((¬ r20 = 0 → ((y0 = 0 → wp_X8_freeze_109 p0 p1 p2 p3 p4 p5 p6 post 2 o) ∧ (¬ y0 = 0 → wp_X8_freeze_109 p0 p1 p2 p3 p4 p5 p6 post 0 o))) ∧ (r20 = 0 → wp_X8_freeze_109 p0 p1 p2 p3 p4 p5 p6 post 1 o)))
def wp_X8_freeze_84 (p0 : Int32) (p1 : Int32) (p2 : Int32) (p3 : Int32) (p4 : Int32) (p5 : Int32) (p6 : Int32) (post : Int32 → FO → Prop)  (o : FO) : Prop :=
wp_X8_freeze_85 p0 p1 p2 p3 p4 p5 p6 post 0 o
def wp_X8_freeze_47 (p0 : Int32) (p1 : Int32) (p2 : Int32) (p3 : Int32) (p4 : Int32) (p5 : Int32) (p6 : Int32) (post : Int32 → FO → Prop) (y0 : Int32) (o : FO) : Prop :=
((y0 = 0 → wp_X8_freeze_84 p0 p1 p2 p3 p4 p5 p6 post o) ∧ (¬ y0 = 0 → wp_X8_isIn p3 1 (24 - p1) (fun r14 =>
((r14 = 0 → wp_X8_freeze_84 p0 p1 p2 p3 p4 p5 p6 post o) ∧ (¬ r14 = 0 → wp_X8_isIn p4 1 (16 - p2) (fun r17 =>
((r17 = 0 → wp_X8_freeze_84 p0 p1 p2 p3 p4 p5 p6 post o) ∧ (¬ r17 = 0 → wp_X8_freeze_85 p0 p1 p2 p3 p4 p5 p6 post 1 o))))))))
def wp_X8_freeze_46 (p0 : Int32) (p1 : Int32) (p2 : Int32) (p3 : Int32) (p4 : Int32) (p5 : Int32) (p6 : Int32) (post : Int32 → FO → Prop)  (o : FO) : Prop :=
wp_X8_freeze_47 p0 p1 p2 p3 p4 p5 p6 post 0 o
def wp_X8_freeze (p0 : Int32) (p1 : Int32) (p2 : Int32) (p3 : Int32) (p4 : Int32) (p5 : Int32) (p6 : Int32) (o : FO) (post : Int32 → FO → Prop) : Prop :=
wp_X8_isIn p1 0 23 (fun r1 =>
((r1 = 0 → wp_X8_freeze_46 p0 p1 p2 p3 p4 p5 p6 post o) ∧ (¬ r1 = 0 → wp_X8_isIn p2 0 15 (fun r4 =>
((r4 = 0 → wp_X8_freeze_46 p0 p1 p2 p3 p4 p5 p6 post o) ∧ (¬ r4 = 0 → wp_X8_isIn p5 1 20 (fun r7 =>
((r7 = 0 → wp_X8_freeze_46 p0 p1 p2 p3 p4 p5 p6 post o) ∧ (¬ r7 = 0 → wp_X8_isIn p6 0 100000 (fun r10 =>
((r10 = 0 → wp_X8_freeze_46 p0 p1 p2 p3 p4 p5 p6 post o) ∧ (¬ r10 = 0 → wp_X8_freeze_47 p0 p1 p2 p3 p4 p5 p6 post 1 o))))))))))))
set_option maxHeartbeats 4000000 in
set_option maxRecDepth 100000 in
theorem t_X8_freeze_149 {X : gCx} {a : Nat}  {p0 : Int32} {p1 : Int32} {p2 : Int32} {p3 : Int32} {p4 : Int32} {p5 : Int32} {p6 : Int32} {post : Int32 → FO → Prop} {g : GH}   (C : gC X cX8_freeze RX8 (some .int) rm_X8_freeze) (hn : xn X = 9) (hQ : gRet X (gQi (xY X) (fun r9 g9 => ∃ o9, g9 = hu g a (9, o9) ∧ post r9 o9)) 0 0 ∨ gRex X (gQi (xY X) (fun r9 g9 => ∃ o9, g9 = hu g a (9, o9) ∧ post r9 o9)) (fun _ _ => False) 0 0)    : ∀ (y1 : Int32) (o : FO), wp_X8_freeze_149 p0 p1 p2 p3 p4 p5 p6 post y1 o → gX X 0 0 149 [(0, .ref a), (1, .int p0), (2, .int p1), (3, .int p2), (4, .int p3), (5, .int p4), (6, .int p5), (7, .int p6)] [.int y1, .ref a] (hu g a (9, o)) := by
  intro y1 o w
  unfold wp_X8_freeze_149 at w
  obtain ⟨o31, e32⟩ : ∃ z, z = sI o 0 y1 := ⟨_, rfl⟩
  have w := w o31 e32
  refine rp_X8_X8_thrown C dX8_freeze_149 hu_s e32 hu_hu.symm (r_aload_n C 0 dX8_freeze_152 rfl (rg_X8_X8_thrown C dX8_freeze_153 hu_s (r_if_le C 161 dX8_freeze_156 (by decide) (fun c33 => ?_) (fun c33 => ?_))))
  · have w := w.1 c33
    obtain ⟨i34, w⟩ := w
    obtain ⟨o35, e36⟩ : ∃ z, z = sA o31 26 (fI o31 25).toNatClampNeg p0 := ⟨_, rfl⟩
    have w := w o35 e36
    obtain ⟨i37, w⟩ := w
    obtain ⟨o38, e39⟩ : ∃ z, z = sA o35 27 (fI o35 25).toNatClampNeg p1 := ⟨_, rfl⟩
    have w := w o38 e39
    obtain ⟨i40, w⟩ := w
    obtain ⟨o41, e42⟩ : ∃ z, z = sA o38 28 (fI o38 25).toNatClampNeg p2 := ⟨_, rfl⟩
    have w := w o41 e42
    obtain ⟨i43, w⟩ := w
    obtain ⟨o44, e45⟩ : ∃ z, z = sA o41 29 (fI o41 25).toNatClampNeg p3 := ⟨_, rfl⟩
    have w := w o44 e45
    obtain ⟨i46, w⟩ := w
    obtain ⟨o47, e48⟩ : ∃ z, z = sA o44 30 (fI o44 25).toNatClampNeg p4 := ⟨_, rfl⟩
    have w := w o47 e48
    obtain ⟨i49, w⟩ := w
    obtain ⟨o50, e51⟩ : ∃ z, z = sA o47 31 (fI o47 25).toNatClampNeg p5 := ⟨_, rfl⟩
    have w := w o50 e51
    obtain ⟨i52, w⟩ := w
    obtain ⟨o53, e54⟩ : ∃ z, z = sA o50 32 (fI o50 25).toNatClampNeg p6 := ⟨_, rfl⟩
    have w := w o53 e54
    refine r_aload_n C 0 dX8_freeze_161 rfl (rg_X8_X8_freezer C dX8_freeze_162 hu_s (r_aload_n C 0 dX8_freeze_165 rfl (rg_X8_X8_editions C dX8_freeze_166 hu_s (r_iload_n C 1 dX8_freeze_169 rfl (r_iast (ci := 9) (k := 26) C dX8_freeze_170 rfl rfl hu_s i34 e36 hu_hu.symm (r_aload_n C 0 dX8_freeze_171 rfl (rg_X8_X8_viewColumn C dX8_freeze_172 hu_s (r_aload_n C 0 dX8_freeze_175 rfl (rg_X8_X8_editions C dX8_freeze_176 hu_s (r_iload_n C 2 dX8_freeze_179 rfl (r_iast (ci := 9) (k := 27) C dX8_freeze_180 rfl rfl hu_s i37 e39 hu_hu.symm (r_aload_n C 0 dX8_freeze_181 rfl (rg_X8_X8_viewRow C dX8_freeze_182 hu_s (r_aload_n C 0 dX8_freeze_185 rfl (rg_X8_X8_editions C dX8_freeze_186 hu_s (r_iload_n C 3 dX8_freeze_189 rfl (r_iast (ci := 9) (k := 28) C dX8_freeze_190 rfl rfl hu_s i40 e42 hu_hu.symm (r_aload_n C 0 dX8_freeze_191 rfl (rg_X8_X8_viewWidth C dX8_freeze_192 hu_s (r_aload_n C 0 dX8_freeze_195 rfl (rg_X8_X8_editions C dX8_freeze_196 hu_s (r_iload C 4 dX8_freeze_199 rfl (r_iast (ci := 9) (k := 29) C dX8_freeze_201 rfl rfl hu_s i43 e45 hu_hu.symm (r_aload_n C 0 dX8_freeze_202 rfl (rg_X8_X8_viewHeight C dX8_freeze_203 hu_s (r_aload_n C 0 dX8_freeze_206 rfl (rg_X8_X8_editions C dX8_freeze_207 hu_s (r_iload C 5 dX8_freeze_210 rfl (r_iast (ci := 9) (k := 30) C dX8_freeze_212 rfl rfl hu_s i46 e48 hu_hu.symm (r_aload_n C 0 dX8_freeze_213 rfl (rg_X8_X8_copies C dX8_freeze_214 hu_s (r_aload_n C 0 dX8_freeze_217 rfl (rg_X8_X8_editions C dX8_freeze_218 hu_s (r_iload C 6 dX8_freeze_221 rfl (r_iast (ci := 9) (k := 31) C dX8_freeze_223 rfl rfl hu_s i49 e51 hu_hu.symm (r_aload_n C 0 dX8_freeze_224 rfl (rg_X8_X8_price C dX8_freeze_225 hu_s (r_aload_n C 0 dX8_freeze_228 rfl (rg_X8_X8_editions C dX8_freeze_229 hu_s (r_iload C 7 dX8_freeze_232 rfl (r_iast (ci := 9) (k := 32) C dX8_freeze_234 rfl rfl hu_s i52 e54 hu_hu.symm (r_aload_n C 0 dX8_freeze_235 rfl (r_aload_n C 0 dX8_freeze_236 rfl (rg_X8_X8_editions C dX8_freeze_237 hu_s (r_gov (r_runV C dX8_freeze_240 (m_X8_keeps hu_s w) mt_X8_keeps tw1374 tw1376 tw50 gcl_9.1 hu_s rfl (stk := []) rfl (Nat.le_of_ble_eq_true rfl) ⟨rfl, rfl, ⟨Nat.le_of_ble_eq_true rfl, Nat.le_of_ble_eq_true rfl⟩, ⟨Nat.le_of_ble_eq_true rfl, Nat.le_of_ble_eq_true rfl⟩⟩) ?_)))))))))))))))))))))))))))))))))))))))))))))
    intro  h56 hp
    obtain ⟨o55, rfl, w⟩ := hp
    refine gX_eq hu_hu ?_
    obtain ⟨o57, e58⟩ : ∃ z, z = sI o55 25 ((fI o55 25) + 1) := ⟨_, rfl⟩
    have w := w o57 e58
    exact r_aload_n C 0 dX8_freeze_243 rfl (r_dup C dX8_freeze_244 rfl (rg_X8_X8_editions C dX8_freeze_245 hu_s (r_iconst C (v := 1) dX8_freeze_248 (by decide) (r_iadd C dX8_freeze_249 (rp_X8_X8_editions C dX8_freeze_250 hu_s e58 hu_hu.symm (r_aload_n C 0 dX8_freeze_253 rfl (rg_X8_X8_editions C dX8_freeze_254 hu_s (r_iconst C (v := 1) dX8_freeze_257 (by decide) (r_isub C dX8_freeze_258 (r_iret C hQ dX8_freeze_259 rfl (vp_nar_int _) ⟨Nat.le_of_ble_eq_true rfl, Nat.le_of_ble_eq_true rfl⟩ ⟨_, rfl, w⟩))))))))))
  · have w := w.2 c33
    exact r_iconst C (v := 0) dX8_freeze_159 (by decide) (r_iret C hQ dX8_freeze_160 rfl (vp_nar_int _) ⟨Nat.le_of_ble_eq_true rfl, Nat.le_of_ble_eq_true rfl⟩ ⟨_, rfl, w⟩)
set_option maxHeartbeats 4000000 in
set_option maxRecDepth 100000 in
theorem t_X8_freeze_144 {X : gCx} {a : Nat}  {p0 : Int32} {p1 : Int32} {p2 : Int32} {p3 : Int32} {p4 : Int32} {p5 : Int32} {p6 : Int32} {post : Int32 → FO → Prop} {g : GH}   (C : gC X cX8_freeze RX8 (some .int) rm_X8_freeze) (hn : xn X = 9) (hQ : gRet X (gQi (xY X) (fun r9 g9 => ∃ o9, g9 = hu g a (9, o9) ∧ post r9 o9)) 0 0 ∨ gRex X (gQi (xY X) (fun r9 g9 => ∃ o9, g9 = hu g a (9, o9) ∧ post r9 o9)) (fun _ _ => False) 0 0)    : ∀ (o : FO), wp_X8_freeze_144 p0 p1 p2 p3 p4 p5 p6 post o → gX X 0 0 144 [(0, .ref a), (1, .int p0), (2, .int p1), (3, .int p2), (4, .int p3), (5, .int p4), (6, .int p5), (7, .int p6)] [.ref a] (hu g a (9, o)) := by
  intro o w
  unfold wp_X8_freeze_144 at w
  exact r_iconst C (v := 3) dX8_freeze_144 (by decide) (r_goto C 149 dX8_freeze_145 (by decide) (r_sub [0, 1, 2, 3, 4, 5, 6, 7] rfl (t_X8_freeze_149 C hn hQ _ _ w)))
set_option maxHeartbeats 4000000 in
set_option maxRecDepth 100000 in
theorem t_X8_freeze_109 {X : gCx} {a : Nat}  {p0 : Int32} {p1 : Int32} {p2 : Int32} {p3 : Int32} {p4 : Int32} {p5 : Int32} {p6 : Int32} {post : Int32 → FO → Prop} {g : GH}   (C : gC X cX8_freeze RX8 (some .int) rm_X8_freeze) (hn : xn X = 9) (hQ : gRet X (gQi (xY X) (fun r9 g9 => ∃ o9, g9 = hu g a (9, o9) ∧ post r9 o9)) 0 0 ∨ gRex X (gQi (xY X) (fun r9 g9 => ∃ o9, g9 = hu g a (9, o9) ∧ post r9 o9)) (fun _ _ => False) 0 0)    : ∀ (y1 : Int32) (o : FO), wp_X8_freeze_109 p0 p1 p2 p3 p4 p5 p6 post y1 o → gX X 0 0 109 [(0, .ref a), (1, .int p0), (2, .int p1), (3, .int p2), (4, .int p3), (5, .int p4), (6, .int p5), (7, .int p6)] [.int y1, .ref a] (hu g a (9, o)) := by
  intro y1 o w
  unfold wp_X8_freeze_109 at w
  obtain ⟨o24, e25⟩ : ∃ z, z = sI o 0 y1 := ⟨_, rfl⟩
  have w := w o24 e25
  refine rp_X8_X8_thrown C dX8_freeze_109 hu_s e25 hu_hu.symm (r_aload_n C 0 dX8_freeze_112 rfl (rg_X8_X8_thrown C dX8_freeze_113 hu_s (r_if_le C 121 dX8_freeze_116 (by decide) (fun c26 => ?_) (fun c26 => ?_))))
  · have w := w.1 c26
    refine r_aload_n C 0 dX8_freeze_121 rfl (r_aload_n C 0 dX8_freeze_122 rfl (rg_X8_X8_editions C dX8_freeze_123 hu_s (r_bipush C (v := 8) dX8_freeze_126 (by decide) (r_icmp_eq C 144 dX8_freeze_128 (by decide) (fun c27 => ?_) (fun c27 => ?_)))))
    · have w := w.1 c27
      exact r_sub [0, 1, 2, 3, 4, 5, 6, 7] rfl (t_X8_freeze_144 C hn hQ _ w)
    · have w := w.2 c27
      refine r_aload_n C 0 dX8_freeze_131 rfl (r_iload_n C 2 dX8_freeze_132 rfl (r_iload_n C 3 dX8_freeze_133 rfl (r_iload C 4 dX8_freeze_134 rfl (r_iload C 5 dX8_freeze_136 rfl (r_goi (r_runV C dX8_freeze_138 (m_X8_isEmpty hu_s w) mt_X8_isEmpty tw1370 tw1372 tw49 gcl_9.1 hu_s rfl (stk := [.ref a]) rfl (Nat.le_of_ble_eq_true rfl) ⟨rfl, rfl, ⟨Nat.le_of_ble_eq_true rfl, Nat.le_of_ble_eq_true rfl⟩, ⟨Nat.le_of_ble_eq_true rfl, Nat.le_of_ble_eq_true rfl⟩⟩) ?_)))))
      intro r28 h29 hp
      obtain ⟨rfl, w⟩ := hp
      refine r_if_eq C 148 dX8_freeze_141 (by decide) (fun c30 => ?_) (fun c30 => ?_)
      · have w := w.1 c30
        exact r_iconst C (v := 0) dX8_freeze_148 (by decide) (r_sub [0, 1, 2, 3, 4, 5, 6, 7] rfl (t_X8_freeze_149 C hn hQ _ _ w))
      · have w := w.2 c30
        exact r_sub [0, 1, 2, 3, 4, 5, 6, 7] rfl (t_X8_freeze_144 C hn hQ _ w)
  · have w := w.2 c26
    exact r_iconst C (v := 0) dX8_freeze_119 (by decide) (r_iret C hQ dX8_freeze_120 rfl (vp_nar_int _) ⟨Nat.le_of_ble_eq_true rfl, Nat.le_of_ble_eq_true rfl⟩ ⟨_, rfl, w⟩)
set_option maxHeartbeats 4000000 in
set_option maxRecDepth 100000 in
theorem t_X8_freeze_85 {X : gCx} {a : Nat}  {p0 : Int32} {p1 : Int32} {p2 : Int32} {p3 : Int32} {p4 : Int32} {p5 : Int32} {p6 : Int32} {post : Int32 → FO → Prop} {g : GH}   (C : gC X cX8_freeze RX8 (some .int) rm_X8_freeze) (hn : xn X = 9) (hQ : gRet X (gQi (xY X) (fun r9 g9 => ∃ o9, g9 = hu g a (9, o9) ∧ post r9 o9)) 0 0 ∨ gRex X (gQi (xY X) (fun r9 g9 => ∃ o9, g9 = hu g a (9, o9) ∧ post r9 o9)) (fun _ _ => False) 0 0)    : ∀ (y0 : Int32) (o : FO), wp_X8_freeze_85 p0 p1 p2 p3 p4 p5 p6 post y0 o → gX X 0 0 85 [(0, .ref a), (1, .int p0), (2, .int p1), (3, .int p2), (4, .int p3), (5, .int p4), (6, .int p5), (7, .int p6)] [.int y0] (hu g a (9, o)) := by
  intro y0 o w
  unfold wp_X8_freeze_85 at w
  refine r_istore C dX8_freeze_85 (nlt hn (by decide)) rfl (r_aload_n C 1 dX8_freeze_87 rfl (r_iload_n C 2 dX8_freeze_88 rfl (r_goi (r_runS C dX8_freeze_89 (m_X8_isHand w) mt_X8_isHand tw1218 tw1219 rfl (stk := [.ref a]) rfl (Nat.le_of_ble_eq_true rfl) ⟨rfl, rfl, ⟨Nat.le_of_ble_eq_true rfl, Nat.le_of_ble_eq_true rfl⟩, ⟨Nat.le_of_ble_eq_true rfl, Nat.le_of_ble_eq_true rfl⟩⟩) ?_)))
  intro r20 h21 hp
  obtain ⟨rfl, w⟩ := hp
  refine r_if_ne C 99 dX8_freeze_92 (by decide) (fun c22 => ?_) (fun c22 => ?_)
  · have w := w.1 c22
    refine r_iload C 0 dX8_freeze_99 rfl (r_if_eq C 108 dX8_freeze_101 (by decide) (fun c23 => ?_) (fun c23 => ?_))
    · have w := w.1 c23
      exact r_iconst C (v := 2) dX8_freeze_108 (by decide) (r_sub [1, 2, 3, 4, 5, 6, 7, 8] rfl (t_X8_freeze_109 C hn hQ _ _ w))
    · have w := w.2 c23
      exact r_iconst C (v := 0) dX8_freeze_104 (by decide) (r_goto C 109 dX8_freeze_105 (by decide) (r_sub [1, 2, 3, 4, 5, 6, 7, 8] rfl (t_X8_freeze_109 C hn hQ _ _ w)))
  · have w := w.2 c22
    exact r_iconst C (v := 1) dX8_freeze_95 (by decide) (r_goto C 109 dX8_freeze_96 (by decide) (r_sub [1, 2, 3, 4, 5, 6, 7, 8] rfl (t_X8_freeze_109 C hn hQ _ _ w)))
set_option maxHeartbeats 4000000 in
set_option maxRecDepth 100000 in
theorem t_X8_freeze_84 {X : gCx} {a : Nat}  {p0 : Int32} {p1 : Int32} {p2 : Int32} {p3 : Int32} {p4 : Int32} {p5 : Int32} {p6 : Int32} {post : Int32 → FO → Prop} {g : GH}   (C : gC X cX8_freeze RX8 (some .int) rm_X8_freeze) (hn : xn X = 9) (hQ : gRet X (gQi (xY X) (fun r9 g9 => ∃ o9, g9 = hu g a (9, o9) ∧ post r9 o9)) 0 0 ∨ gRex X (gQi (xY X) (fun r9 g9 => ∃ o9, g9 = hu g a (9, o9) ∧ post r9 o9)) (fun _ _ => False) 0 0)    : ∀ (o : FO), wp_X8_freeze_84 p0 p1 p2 p3 p4 p5 p6 post o → gX X 0 0 84 [(0, .ref a), (1, .int p0), (2, .int p1), (3, .int p2), (4, .int p3), (5, .int p4), (6, .int p5), (7, .int p6)] [] (hu g a (9, o)) := by
  intro o w
  unfold wp_X8_freeze_84 at w
  exact r_iconst C (v := 0) dX8_freeze_84 (by decide) (r_sub [0, 1, 2, 3, 4, 5, 6, 7] rfl (t_X8_freeze_85 C hn hQ _ _ w))
set_option maxHeartbeats 4000000 in
set_option maxRecDepth 100000 in
theorem t_X8_freeze_47 {X : gCx} {a : Nat}  {p0 : Int32} {p1 : Int32} {p2 : Int32} {p3 : Int32} {p4 : Int32} {p5 : Int32} {p6 : Int32} {post : Int32 → FO → Prop} {g : GH}   (C : gC X cX8_freeze RX8 (some .int) rm_X8_freeze) (hn : xn X = 9) (hQ : gRet X (gQi (xY X) (fun r9 g9 => ∃ o9, g9 = hu g a (9, o9) ∧ post r9 o9)) 0 0 ∨ gRex X (gQi (xY X) (fun r9 g9 => ∃ o9, g9 = hu g a (9, o9) ∧ post r9 o9)) (fun _ _ => False) 0 0)    : ∀ (y0 : Int32) (o : FO), wp_X8_freeze_47 p0 p1 p2 p3 p4 p5 p6 post y0 o → gX X 0 0 47 [(0, .ref a), (1, .int p0), (2, .int p1), (3, .int p2), (4, .int p3), (5, .int p4), (6, .int p5), (7, .int p6)] [.int y0] (hu g a (9, o)) := by
  intro y0 o w
  unfold wp_X8_freeze_47 at w
  refine r_istore C dX8_freeze_47 (nlt hn (by decide)) rfl (r_iload C 0 dX8_freeze_49 rfl (r_if_eq C 84 dX8_freeze_51 (by decide) (fun c13 => ?_) (fun c13 => ?_)))
  · have w := w.1 c13
    exact r_sub [1, 2, 3, 4, 5, 6, 7, 8] rfl (t_X8_freeze_84 C hn hQ _ w)
  · have w := w.2 c13
    refine r_iload C 5 dX8_freeze_54 rfl (r_iconst C (v := 1) dX8_freeze_56 (by decide) (r_bipush C (v := 24) dX8_freeze_57 (by decide) (r_iload_n C 3 dX8_freeze_59 rfl (r_isub C dX8_freeze_60 (r_goi (r_runS C dX8_freeze_61 (m_X8_isIn w) mt_X8_isIn tw1215 tw1216 rfl (stk := []) rfl (Nat.le_of_ble_eq_true rfl) ⟨rfl, rfl, ⟨Nat.le_of_ble_eq_true rfl, Nat.le_of_ble_eq_true rfl⟩, ⟨Nat.le_of_ble_eq_true rfl, Nat.le_of_ble_eq_true rfl⟩⟩) ?_)))))
    intro r14 h15 hp
    obtain ⟨rfl, w⟩ := hp
    refine r_if_eq C 84 dX8_freeze_64 (by decide) (fun c16 => ?_) (fun c16 => ?_)
    · have w := w.1 c16
      exact r_sub [1, 2, 3, 4, 5, 6, 7, 8] rfl (t_X8_freeze_84 C hn hQ _ w)
    · have w := w.2 c16
      refine r_iload C 6 dX8_freeze_67 rfl (r_iconst C (v := 1) dX8_freeze_69 (by decide) (r_bipush C (v := 16) dX8_freeze_70 (by decide) (r_iload_n C 4 dX8_freeze_72 rfl (r_isub C dX8_freeze_73 (r_goi (r_runS C dX8_freeze_74 (m_X8_isIn w) mt_X8_isIn tw1215 tw1216 rfl (stk := []) rfl (Nat.le_of_ble_eq_true rfl) ⟨rfl, rfl, ⟨Nat.le_of_ble_eq_true rfl, Nat.le_of_ble_eq_true rfl⟩, ⟨Nat.le_of_ble_eq_true rfl, Nat.le_of_ble_eq_true rfl⟩⟩) ?_)))))
      intro r17 h18 hp
      obtain ⟨rfl, w⟩ := hp
      refine r_if_eq C 84 dX8_freeze_77 (by decide) (fun c19 => ?_) (fun c19 => ?_)
      · have w := w.1 c19
        exact r_sub [1, 2, 3, 4, 5, 6, 7, 8] rfl (t_X8_freeze_84 C hn hQ _ w)
      · have w := w.2 c19
        exact r_iconst C (v := 1) dX8_freeze_80 (by decide) (r_goto C 85 dX8_freeze_81 (by decide) (r_sub [1, 2, 3, 4, 5, 6, 7, 8] rfl (t_X8_freeze_85 C hn hQ _ _ w)))
set_option maxHeartbeats 4000000 in
set_option maxRecDepth 100000 in
theorem t_X8_freeze_46 {X : gCx} {a : Nat}  {p0 : Int32} {p1 : Int32} {p2 : Int32} {p3 : Int32} {p4 : Int32} {p5 : Int32} {p6 : Int32} {post : Int32 → FO → Prop} {g : GH}   (C : gC X cX8_freeze RX8 (some .int) rm_X8_freeze) (hn : xn X = 9) (hQ : gRet X (gQi (xY X) (fun r9 g9 => ∃ o9, g9 = hu g a (9, o9) ∧ post r9 o9)) 0 0 ∨ gRex X (gQi (xY X) (fun r9 g9 => ∃ o9, g9 = hu g a (9, o9) ∧ post r9 o9)) (fun _ _ => False) 0 0)    : ∀ (o : FO), wp_X8_freeze_46 p0 p1 p2 p3 p4 p5 p6 post o → gX X 0 0 46 [(0, .ref a), (1, .int p0), (2, .int p1), (3, .int p2), (4, .int p3), (5, .int p4), (6, .int p5), (7, .int p6)] [] (hu g a (9, o)) := by
  intro o w
  unfold wp_X8_freeze_46 at w
  exact r_iconst C (v := 0) dX8_freeze_46 (by decide) (r_sub [0, 1, 2, 3, 4, 5, 6, 7] rfl (t_X8_freeze_47 C hn hQ _ _ w))
set_option maxHeartbeats 4000000 in
set_option maxRecDepth 100000 in
theorem m_X8_freeze {Y : gWx} {a : Nat}  {p0 : Int32} {p1 : Int32} {p2 : Int32} {p3 : Int32} {p4 : Int32} {p5 : Int32} {p6 : Int32} {post : Int32 → FO → Prop} {g : GH}  {o : FO} (hg : g a = some (9, o))    (w : wp_X8_freeze p0 p1 p2 p3 p4 p5 p6 o post) : gMet Y yX8_freeze cX8_freeze 9 (some .int) rm_X8_freeze [.ref a, .int p0, .int p1, .int p2, .int p3, .int p4, .int p5, .int p6] g (gQi Y (fun r9 g9 => ∃ o9, g9 = hu g a (9, o9) ∧ post r9 o9)) 0 0 := by
  refine gm_of rfl (Nat.le_of_ble_eq_true rfl) ?_
  intro X hY hn C hnm hQ
  subst hY
  have hQ : gRet X (gQi (xY X) (fun r9 g9 => ∃ o9, g9 = hu g a (9, o9) ∧ post r9 o9)) 0 0 ∨ gRex X (gQi (xY X) (fun r9 g9 => ∃ o9, g9 = hu g a (9, o9) ∧ post r9 o9)) (fun _ _ => False) 0 0 := Or.inl hQ
  have C : gC X cX8_freeze RX8 (some .int) rm_X8_freeze := C
  refine gX_eq (hu_id hg).symm ?_
  show gX X 0 0 0 [(0, .ref a), (1, .int p0), (2, .int p1), (3, .int p2), (4, .int p3), (5, .int p4), (6, .int p5), (7, .int p6)] [] (hu g a (9, o))
  unfold wp_X8_freeze at w
  refine r_iload_n C 2 dX8_freeze_0 rfl (r_iconst C (v := 0) dX8_freeze_1 (by decide) (r_bipush C (v := 23) dX8_freeze_2 (by decide) (r_goi (r_runS C dX8_freeze_4 (m_X8_isIn w) mt_X8_isIn tw1215 tw1216 rfl (stk := []) rfl (Nat.le_of_ble_eq_true rfl) ⟨rfl, rfl, ⟨Nat.le_of_ble_eq_true rfl, Nat.le_of_ble_eq_true rfl⟩, ⟨Nat.le_of_ble_eq_true rfl, Nat.le_of_ble_eq_true rfl⟩⟩) ?_)))
  intro r1 h2 hp
  obtain ⟨rfl, w⟩ := hp
  refine r_if_eq C 46 dX8_freeze_7 (by decide) (fun c3 => ?_) (fun c3 => ?_)
  · have w := w.1 c3
    exact r_sub [0, 1, 2, 3, 4, 5, 6, 7] rfl (t_X8_freeze_46 C hn hQ _ w)
  · have w := w.2 c3
    refine r_iload_n C 3 dX8_freeze_10 rfl (r_iconst C (v := 0) dX8_freeze_11 (by decide) (r_bipush C (v := 15) dX8_freeze_12 (by decide) (r_goi (r_runS C dX8_freeze_14 (m_X8_isIn w) mt_X8_isIn tw1215 tw1216 rfl (stk := []) rfl (Nat.le_of_ble_eq_true rfl) ⟨rfl, rfl, ⟨Nat.le_of_ble_eq_true rfl, Nat.le_of_ble_eq_true rfl⟩, ⟨Nat.le_of_ble_eq_true rfl, Nat.le_of_ble_eq_true rfl⟩⟩) ?_)))
    intro r4 h5 hp
    obtain ⟨rfl, w⟩ := hp
    refine r_if_eq C 46 dX8_freeze_17 (by decide) (fun c6 => ?_) (fun c6 => ?_)
    · have w := w.1 c6
      exact r_sub [0, 1, 2, 3, 4, 5, 6, 7] rfl (t_X8_freeze_46 C hn hQ _ w)
    · have w := w.2 c6
      refine r_iload C 6 dX8_freeze_20 rfl (r_iconst C (v := 1) dX8_freeze_22 (by decide) (r_bipush C (v := 20) dX8_freeze_23 (by decide) (r_goi (r_runS C dX8_freeze_25 (m_X8_isIn w) mt_X8_isIn tw1215 tw1216 rfl (stk := []) rfl (Nat.le_of_ble_eq_true rfl) ⟨rfl, rfl, ⟨Nat.le_of_ble_eq_true rfl, Nat.le_of_ble_eq_true rfl⟩, ⟨Nat.le_of_ble_eq_true rfl, Nat.le_of_ble_eq_true rfl⟩⟩) ?_)))
      intro r7 h8 hp
      obtain ⟨rfl, w⟩ := hp
      refine r_if_eq C 46 dX8_freeze_28 (by decide) (fun c9 => ?_) (fun c9 => ?_)
      · have w := w.1 c9
        exact r_sub [0, 1, 2, 3, 4, 5, 6, 7] rfl (t_X8_freeze_46 C hn hQ _ w)
      · have w := w.2 c9
        refine r_iload C 7 dX8_freeze_31 rfl (r_iconst C (v := 0) dX8_freeze_33 (by decide) (r_ldc C dX8_freeze_34 tw1369 (r_goi (r_runS C dX8_freeze_36 (m_X8_isIn w) mt_X8_isIn tw1215 tw1216 rfl (stk := []) rfl (Nat.le_of_ble_eq_true rfl) ⟨rfl, rfl, ⟨Nat.le_of_ble_eq_true rfl, Nat.le_of_ble_eq_true rfl⟩, ⟨Nat.le_of_ble_eq_true rfl, Nat.le_of_ble_eq_true rfl⟩⟩) ?_)))
        intro r10 h11 hp
        obtain ⟨rfl, w⟩ := hp
        refine r_if_eq C 46 dX8_freeze_39 (by decide) (fun c12 => ?_) (fun c12 => ?_)
        · have w := w.1 c12
          exact r_sub [0, 1, 2, 3, 4, 5, 6, 7] rfl (t_X8_freeze_46 C hn hQ _ w)
        · have w := w.2 c12
          exact r_iconst C (v := 1) dX8_freeze_42 (by decide) (r_goto C 47 dX8_freeze_43 (by decide) (r_sub [0, 1, 2, 3, 4, 5, 6, 7] rfl (t_X8_freeze_47 C hn hQ _ _ w)))
def rm_X8_withdraw : Room := { frames := 2, cells := 0, slots := 0, locals := 43 }
theorem mt_X8_withdraw : gMt yX8_withdraw cX8_withdraw 4 (some .int) 1 := ⟨tw1389, tw64, by decide +kernel, by decide +kernel, by decide +kernel⟩
def wp_X8_withdraw_95 (p0 : Int32) (post : Int32 → FO → Prop) (k66 : Int32 → Int32 → FO → Prop) (x3 : Int32) (y0 : Int32) (y1 : Int32) (o : FO) : Prop :=
vp_in ((200 * p0) + x3) 1600 ∧
∀ o21, o21 = sA o 36 ((200 * p0) + x3).toNatClampNeg (vp_nar .boolean 0) →
k66 (y0 + y1) (x3 + 1) o21
def wp_X8_withdraw_66 (p0 : Int32) (post : Int32 → FO → Prop) : Nat → Int32 → Int32 → FO → Prop
  | 0, _, _, _ => False
  | n + 1, x2, x3, o =>
    (((fI o 1) ≤ x3 → vp_in p0 8 ∧
    ∀ o16, o16 = sA o 33 p0.toNatClampNeg (vp_nar .boolean 1) →
    post x2 o16) ∧ (¬ (fI o 1) ≤ x3 → vp_in ((200 * p0) + x3) 1600 ∧
    (((fA o 36 ((200 * p0) + x3).toNatClampNeg) = 0 → wp_X8_withdraw_95 p0 post (fun x2 x3 o => wp_X8_withdraw_66 p0 post n x2 x3 o) x3 x2 0 o) ∧ (¬ (fA o 36 ((200 * p0) + x3).toNatClampNeg) = 0 → wp_X8_withdraw_95 p0 post (fun x2 x3 o => wp_X8_withdraw_66 p0 post n x2 x3 o) x3 x2 1 o))))
def wp_X8_withdraw_50 (p0 : Int32) (post : Int32 → FO → Prop) (y1 : Int32) (o : FO) : Prop :=
∀ o11, o11 = sI o 0 y1 →
(((fI o11 0) ≤ 0 → wp_X8_withdraw_66 p0 post 1000 0 0 o11) ∧ (¬ (fI o11 0) ≤ 0 → post 0 o11))
def wp_X8_withdraw_45 (p0 : Int32) (post : Int32 → FO → Prop)  (o : FO) : Prop :=
wp_X8_withdraw_50 p0 post 2 o
def wp_X8_withdraw_14 (p0 : Int32) (post : Int32 → FO → Prop) (y1 : Int32) (o : FO) : Prop :=
∀ o4, o4 = sI o 0 y1 →
(((fI o4 0) ≤ 0 → vp_in p0 8 ∧
((¬ (fA o4 33 p0.toNatClampNeg) = 0 → wp_X8_withdraw_45 p0 post o4) ∧ ((fA o4 33 p0.toNatClampNeg) = 0 → vp_in p0 8 ∧
(((fA o4 34 p0.toNatClampNeg) = 0 → wp_X8_withdraw_50 p0 post 0 o4) ∧ (¬ (fA o4 34 p0.toNatClampNeg) = 0 → wp_X8_withdraw_45 p0 post o4))))) ∧ (¬ (fI o4 0) ≤ 0 → post 0 o4))
def wp_X8_withdraw (p0 : Int32) (o : FO) (post : Int32 → FO → Prop) : Prop :=
wp_X8_isEdition p0 o (fun r1 =>
((r1 = 0 → wp_X8_withdraw_14 p0 post 1 o) ∧ (¬ r1 = 0 → wp_X8_withdraw_14 p0 post 0 o)))
set_option maxHeartbeats 4000000 in
set_option maxRecDepth 100000 in
theorem t_X8_withdraw_95 {X : gCx} {a : Nat}  {p0 : Int32} {post : Int32 → FO → Prop} {g : GH}  {k66 : Int32 → Int32 → FO → Prop} (C : gC X cX8_withdraw RX8 (some .int) rm_X8_withdraw) (hn : xn X = 4) (hQ : gRet X (gQi (xY X) (fun r9 g9 => ∃ o9, g9 = hu g a (9, o9) ∧ post r9 o9)) 0 0 ∨ gRex X (gQi (xY X) (fun r9 g9 => ∃ o9, g9 = hu g a (9, o9) ∧ post r9 o9)) (fun _ _ => False) 0 0)   (hk66 : ∀ (x2 : Int32) (x3 : Int32) (o : FO), k66 x2 x3 o → gX X 0 0 66 [(0, .ref a), (1, .int p0), (2, .int x2), (3, .int x3)] [] (hu g a (9, o))) : ∀ (x3 : Int32) (y0 : Int32) (y1 : Int32) (o : FO), wp_X8_withdraw_95 p0 post k66 x3 y0 y1 o → gX X 0 0 95 [(0, .ref a), (1, .int p0), (3, .int x3)] [.int y1, .int y0] (hu g a (9, o)) := by
  intro x3 y0 y1 o w
  unfold wp_X8_withdraw_95 at w
  obtain ⟨i20, w⟩ := w
  obtain ⟨o21, e22⟩ : ∃ z, z = sA o 36 ((200 * p0) + x3).toNatClampNeg (vp_nar .boolean 0) := ⟨_, rfl⟩
  have w := w o21 e22
  exact r_iadd C dX8_withdraw_95 (r_istore_n C dX8_withdraw_96 (nlt hn (by decide)) rfl (r_aload_n C 1 dX8_withdraw_97 rfl (rg_X8_X8_holds C dX8_withdraw_98 hu_s (r_sipush C (v := 200) dX8_withdraw_101 (by decide) (r_iload_n C 2 dX8_withdraw_104 rfl (r_imul C dX8_withdraw_105 (r_iload_n C 3 dX8_withdraw_106 rfl (r_iadd C dX8_withdraw_107 (r_iconst C (v := 0) dX8_withdraw_108 (by decide) (r_zast (ci := 9) (k := 36) C dX8_withdraw_109 rfl rfl hu_s i20 e22 hu_hu.symm (r_iinc C (v := x3 + 1) 3 dX8_withdraw_110 rfl rfl (nlt hn (by decide)) rfl (r_goto C 66 dX8_withdraw_113 (by decide) (r_sub [2, 3, 1, 0] rfl (hk66 _ _ _ w))))))))))))))
set_option maxHeartbeats 4000000 in
set_option maxRecDepth 100000 in
theorem t_X8_withdraw_66 {X : gCx} {a : Nat}  {p0 : Int32} {post : Int32 → FO → Prop} {g : GH}   (C : gC X cX8_withdraw RX8 (some .int) rm_X8_withdraw) (hn : xn X = 4) (hQ : gRet X (gQi (xY X) (fun r9 g9 => ∃ o9, g9 = hu g a (9, o9) ∧ post r9 o9)) 0 0 ∨ gRex X (gQi (xY X) (fun r9 g9 => ∃ o9, g9 = hu g a (9, o9) ∧ post r9 o9)) (fun _ _ => False) 0 0)    : ∀ (n : Nat) (x2 : Int32) (x3 : Int32) (o : FO), wp_X8_withdraw_66 p0 post n x2 x3 o → gX X 0 0 66 [(0, .ref a), (1, .int p0), (2, .int x2), (3, .int x3)] [] (hu g a (9, o)) := by
  intro n
  induction n with
  | zero => intro x2 x3 o w; exact w.elim
  | succ n ih =>
    intro x2 x3 o w
    unfold wp_X8_withdraw_66 at w
    refine r_iload_n C 3 dX8_withdraw_66 rfl (r_aload_n C 0 dX8_withdraw_67 rfl (rg_X8_X8_acts C dX8_withdraw_68 hu_s (r_icmp_ge C 116 dX8_withdraw_71 (by decide) (fun c14 => ?_) (fun c14 => ?_))))
    · have w := w.1 c14
      obtain ⟨i15, w⟩ := w
      obtain ⟨o16, e17⟩ : ∃ z, z = sA o 33 p0.toNatClampNeg (vp_nar .boolean 1) := ⟨_, rfl⟩
      have w := w o16 e17
      exact r_aload_n C 0 dX8_withdraw_116 rfl (rg_X8_X8_isWithdrawn C dX8_withdraw_117 hu_s (r_iload_n C 1 dX8_withdraw_120 rfl (r_iconst C (v := 1) dX8_withdraw_121 (by decide) (r_zast (ci := 9) (k := 33) C dX8_withdraw_122 rfl rfl hu_s i15 e17 hu_hu.symm (r_iload_n C 2 dX8_withdraw_123 rfl (r_iret C hQ dX8_withdraw_124 rfl (vp_nar_int _) ⟨Nat.le_of_ble_eq_true rfl, Nat.le_of_ble_eq_true rfl⟩ ⟨_, rfl, w⟩))))))
    · have w := w.2 c14
      obtain ⟨i18, w⟩ := w
      refine r_iload_n C 2 dX8_withdraw_74 rfl (r_aload_n C 0 dX8_withdraw_75 rfl (rg_X8_X8_holds C dX8_withdraw_76 hu_s (r_sipush C (v := 200) dX8_withdraw_79 (by decide) (r_iload_n C 1 dX8_withdraw_82 rfl (r_imul C dX8_withdraw_83 (r_iload_n C 3 dX8_withdraw_84 rfl (r_iadd C dX8_withdraw_85 (r_zald (ci := 9) (k := 36) C dX8_withdraw_86 rfl rfl hu_s i18 (r_if_eq C 94 dX8_withdraw_87 (by decide) (fun c19 => ?_) (fun c19 => ?_))))))))))
      · have w := w.1 c19
        exact r_iconst C (v := 0) dX8_withdraw_94 (by decide) (r_sub [0, 1, 3] rfl (t_X8_withdraw_95 C hn hQ ih _ _ _ _ w))
      · have w := w.2 c19
        exact r_iconst C (v := 1) dX8_withdraw_90 (by decide) (r_goto C 95 dX8_withdraw_91 (by decide) (r_sub [0, 1, 3] rfl (t_X8_withdraw_95 C hn hQ ih _ _ _ _ w)))
set_option maxHeartbeats 4000000 in
set_option maxRecDepth 100000 in
theorem t_X8_withdraw_50 {X : gCx} {a : Nat}  {p0 : Int32} {post : Int32 → FO → Prop} {g : GH}   (C : gC X cX8_withdraw RX8 (some .int) rm_X8_withdraw) (hn : xn X = 4) (hQ : gRet X (gQi (xY X) (fun r9 g9 => ∃ o9, g9 = hu g a (9, o9) ∧ post r9 o9)) 0 0 ∨ gRex X (gQi (xY X) (fun r9 g9 => ∃ o9, g9 = hu g a (9, o9) ∧ post r9 o9)) (fun _ _ => False) 0 0)    : ∀ (y1 : Int32) (o : FO), wp_X8_withdraw_50 p0 post y1 o → gX X 0 0 50 [(0, .ref a), (1, .int p0)] [.int y1, .ref a] (hu g a (9, o)) := by
  intro y1 o w
  unfold wp_X8_withdraw_50 at w
  obtain ⟨o11, e12⟩ : ∃ z, z = sI o 0 y1 := ⟨_, rfl⟩
  have w := w o11 e12
  refine rp_X8_X8_thrown C dX8_withdraw_50 hu_s e12 hu_hu.symm (r_aload_n C 0 dX8_withdraw_53 rfl (rg_X8_X8_thrown C dX8_withdraw_54 hu_s (r_if_le C 62 dX8_withdraw_57 (by decide) (fun c13 => ?_) (fun c13 => ?_))))
  · have w := w.1 c13
    exact r_iconst C (v := 0) dX8_withdraw_62 (by decide) (r_istore_n C dX8_withdraw_63 (nlt hn (by decide)) rfl (r_iconst C (v := 0) dX8_withdraw_64 (by decide) (r_istore_n C dX8_withdraw_65 (nlt hn (by decide)) rfl (r_sub [2, 3, 1, 0] rfl (t_X8_withdraw_66 C hn hQ 1000 _ _ _ w)))))
  · have w := w.2 c13
    exact r_iconst C (v := 0) dX8_withdraw_60 (by decide) (r_iret C hQ dX8_withdraw_61 rfl (vp_nar_int _) ⟨Nat.le_of_ble_eq_true rfl, Nat.le_of_ble_eq_true rfl⟩ ⟨_, rfl, w⟩)
set_option maxHeartbeats 4000000 in
set_option maxRecDepth 100000 in
theorem t_X8_withdraw_45 {X : gCx} {a : Nat}  {p0 : Int32} {post : Int32 → FO → Prop} {g : GH}   (C : gC X cX8_withdraw RX8 (some .int) rm_X8_withdraw) (hn : xn X = 4) (hQ : gRet X (gQi (xY X) (fun r9 g9 => ∃ o9, g9 = hu g a (9, o9) ∧ post r9 o9)) 0 0 ∨ gRex X (gQi (xY X) (fun r9 g9 => ∃ o9, g9 = hu g a (9, o9) ∧ post r9 o9)) (fun _ _ => False) 0 0)    : ∀ (o : FO), wp_X8_withdraw_45 p0 post o → gX X 0 0 45 [(0, .ref a), (1, .int p0)] [.ref a] (hu g a (9, o)) := by
  intro o w
  unfold wp_X8_withdraw_45 at w
  exact r_iconst C (v := 2) dX8_withdraw_45 (by decide) (r_goto C 50 dX8_withdraw_46 (by decide) (r_sub [0, 1] rfl (t_X8_withdraw_50 C hn hQ _ _ w)))
set_option maxHeartbeats 4000000 in
set_option maxRecDepth 100000 in
theorem t_X8_withdraw_14 {X : gCx} {a : Nat}  {p0 : Int32} {post : Int32 → FO → Prop} {g : GH}   (C : gC X cX8_withdraw RX8 (some .int) rm_X8_withdraw) (hn : xn X = 4) (hQ : gRet X (gQi (xY X) (fun r9 g9 => ∃ o9, g9 = hu g a (9, o9) ∧ post r9 o9)) 0 0 ∨ gRex X (gQi (xY X) (fun r9 g9 => ∃ o9, g9 = hu g a (9, o9) ∧ post r9 o9)) (fun _ _ => False) 0 0)    : ∀ (y1 : Int32) (o : FO), wp_X8_withdraw_14 p0 post y1 o → gX X 0 0 14 [(0, .ref a), (1, .int p0)] [.int y1, .ref a] (hu g a (9, o)) := by
  intro y1 o w
  unfold wp_X8_withdraw_14 at w
  obtain ⟨o4, e5⟩ : ∃ z, z = sI o 0 y1 := ⟨_, rfl⟩
  have w := w o4 e5
  refine rp_X8_X8_thrown C dX8_withdraw_14 hu_s e5 hu_hu.symm (r_aload_n C 0 dX8_withdraw_17 rfl (rg_X8_X8_thrown C dX8_withdraw_18 hu_s (r_if_le C 26 dX8_withdraw_21 (by decide) (fun c6 => ?_) (fun c6 => ?_))))
  · have w := w.1 c6
    obtain ⟨i7, w⟩ := w
    refine r_aload_n C 0 dX8_withdraw_26 rfl (r_aload_n C 0 dX8_withdraw_27 rfl (rg_X8_X8_isWithdrawn C dX8_withdraw_28 hu_s (r_iload_n C 1 dX8_withdraw_31 rfl (r_zald (ci := 9) (k := 33) C dX8_withdraw_32 rfl rfl hu_s i7 (r_if_ne C 45 dX8_withdraw_33 (by decide) (fun c8 => ?_) (fun c8 => ?_))))))
    · have w := w.1 c8
      exact r_sub [0, 1] rfl (t_X8_withdraw_45 C hn hQ _ w)
    · have w := w.2 c8
      obtain ⟨i9, w⟩ := w
      refine r_aload_n C 0 dX8_withdraw_36 rfl (rg_X8_X8_wasSold C dX8_withdraw_37 hu_s (r_iload_n C 1 dX8_withdraw_40 rfl (r_zald (ci := 9) (k := 34) C dX8_withdraw_41 rfl rfl hu_s i9 (r_if_eq C 49 dX8_withdraw_42 (by decide) (fun c10 => ?_) (fun c10 => ?_)))))
      · have w := w.1 c10
        exact r_iconst C (v := 0) dX8_withdraw_49 (by decide) (r_sub [0, 1] rfl (t_X8_withdraw_50 C hn hQ _ _ w))
      · have w := w.2 c10
        exact r_sub [0, 1] rfl (t_X8_withdraw_45 C hn hQ _ w)
  · have w := w.2 c6
    exact r_iconst C (v := 0) dX8_withdraw_24 (by decide) (r_iret C hQ dX8_withdraw_25 rfl (vp_nar_int _) ⟨Nat.le_of_ble_eq_true rfl, Nat.le_of_ble_eq_true rfl⟩ ⟨_, rfl, w⟩)
set_option maxHeartbeats 4000000 in
set_option maxRecDepth 100000 in
theorem m_X8_withdraw {Y : gWx} {a : Nat}  {p0 : Int32} {post : Int32 → FO → Prop} {g : GH}  {o : FO} (hg : g a = some (9, o))    (w : wp_X8_withdraw p0 o post) : gMet Y yX8_withdraw cX8_withdraw 4 (some .int) rm_X8_withdraw [.ref a, .int p0] g (gQi Y (fun r9 g9 => ∃ o9, g9 = hu g a (9, o9) ∧ post r9 o9)) 0 0 := by
  refine gm_of rfl (Nat.le_of_ble_eq_true rfl) ?_
  intro X hY hn C hnm hQ
  subst hY
  have hQ : gRet X (gQi (xY X) (fun r9 g9 => ∃ o9, g9 = hu g a (9, o9) ∧ post r9 o9)) 0 0 ∨ gRex X (gQi (xY X) (fun r9 g9 => ∃ o9, g9 = hu g a (9, o9) ∧ post r9 o9)) (fun _ _ => False) 0 0 := Or.inl hQ
  have C : gC X cX8_withdraw RX8 (some .int) rm_X8_withdraw := C
  refine gX_eq (hu_id hg).symm ?_
  show gX X 0 0 0 [(0, .ref a), (1, .int p0)] [] (hu g a (9, o))
  unfold wp_X8_withdraw at w
  refine r_aload_n C 0 dX8_withdraw_0 rfl (r_aload_n C 0 dX8_withdraw_1 rfl (r_iload_n C 1 dX8_withdraw_2 rfl (r_goi (r_runV C dX8_withdraw_3 (m_X8_isEdition hu_s w) mt_X8_isEdition tw1390 tw1392 tw53 gcl_9.1 hu_s rfl (stk := [.ref a]) rfl (Nat.le_of_ble_eq_true rfl) ⟨rfl, rfl, ⟨Nat.le_of_ble_eq_true rfl, Nat.le_of_ble_eq_true rfl⟩, ⟨Nat.le_of_ble_eq_true rfl, Nat.le_of_ble_eq_true rfl⟩⟩) ?_)))
  intro r1 h2 hp
  obtain ⟨rfl, w⟩ := hp
  refine r_if_eq C 13 dX8_withdraw_6 (by decide) (fun c3 => ?_) (fun c3 => ?_)
  · have w := w.1 c3
    exact r_iconst C (v := 1) dX8_withdraw_13 (by decide) (r_sub [0, 1] rfl (t_X8_withdraw_14 C hn hQ _ _ w))
  · have w := w.2 c3
    exact r_iconst C (v := 0) dX8_withdraw_9 (by decide) (r_goto C 14 dX8_withdraw_10 (by decide) (r_sub [0, 1] rfl (t_X8_withdraw_14 C hn hQ _ _ w)))
def rm_X8_viewed : Room := { frames := 2, cells := 0, slots := 0, locals := 50 }
theorem mt_X8_viewed : gMt yX8_viewed cX8_viewed 7 (some .int) 3 := ⟨tw1397, tw64, by decide +kernel, by decide +kernel, by decide +kernel⟩
def wp_X8_viewed_75 (p0 : Int32) (p1 : Int32) (p2 : Int32) (post : Int32 → FO → Prop) (y1 : Int32) (o : FO) : Prop :=
∀ o16, o16 = sI o 0 y1 →
(((fI o16 0) ≤ 0 → vp_in p0 8 ∧
vp_in p0 8 ∧
wp_X8_viewedAt p0 ((fA o16 27 p0.toNatClampNeg) + p1) ((fA o16 28 p0.toNatClampNeg) + p2) o16 (fun r21 =>
((¬ r21 = ((-1)) → vp_in r21 320 ∧
post (fA o16 41 r21.toNatClampNeg) o16) ∧ (r21 = ((-1)) → post 0 o16)))) ∧ (¬ (fI o16 0) ≤ 0 → post 0 o16))
def wp_X8_viewed_62 (p0 : Int32) (p1 : Int32) (p2 : Int32) (post : Int32 → FO → Prop) (y0 : Int32) (o : FO) : Prop :=
((y0 = 0 → wp_X8_viewed_75 p0 p1 p2 post 1 o) ∧ (¬ y0 = 0 → wp_X8_viewed_75 p0 p1 p2 post 0 o))
def wp_X8_viewed_61 (p0 : Int32) (p1 : Int32) (p2 : Int32) (post : Int32 → FO → Prop)  (o : FO) : Prop :=
wp_X8_viewed_62 p0 p1 p2 post 0 o
def wp_X8_viewed_13 (p0 : Int32) (p1 : Int32) (p2 : Int32) (post : Int32 → FO → Prop) (y0 : Int32) (o : FO) : Prop :=
wp_X8_isEdition p0 o (fun r4 =>
((r4 = 0 → wp_X8_viewed_61 p0 p1 p2 post o) ∧ (¬ r4 = 0 → vp_in y0 8 ∧
wp_X8_isIn p1 0 ((fA o 29 y0.toNatClampNeg) - 1) (fun r8 =>
((r8 = 0 → wp_X8_viewed_61 p0 p1 p2 post o) ∧ (¬ r8 = 0 → vp_in y0 8 ∧
wp_X8_isIn p2 0 ((fA o 30 y0.toNatClampNeg) - 1) (fun r12 =>
((r12 = 0 → wp_X8_viewed_61 p0 p1 p2 post o) ∧ (¬ r12 = 0 → wp_X8_viewed_62 p0 p1 p2 post 1 o)))))))))
def wp_X8_viewed (p0 : Int32) (p1 : Int32) (p2 : Int32) (o : FO) (post : Int32 → FO → Prop) : Prop :=
wp_X8_isEdition p0 o (fun r1 =>
((r1 = 0 → wp_X8_viewed_13 p0 p1 p2 post 0 o) ∧ (¬ r1 = 0 → wp_X8_viewed_13 p0 p1 p2 post p0 o)))
set_option maxHeartbeats 4000000 in
set_option maxRecDepth 100000 in
theorem t_X8_viewed_75 {X : gCx} {a : Nat}  {p0 : Int32} {p1 : Int32} {p2 : Int32} {post : Int32 → FO → Prop} {g : GH}   (C : gC X cX8_viewed RX8 (some .int) rm_X8_viewed) (hn : xn X = 7) (hQ : gRet X (gQi (xY X) (fun r9 g9 => ∃ o9, g9 = hu g a (9, o9) ∧ post r9 o9)) 0 0 ∨ gRex X (gQi (xY X) (fun r9 g9 => ∃ o9, g9 = hu g a (9, o9) ∧ post r9 o9)) (fun _ _ => False) 0 0)    : ∀ (y1 : Int32) (o : FO), wp_X8_viewed_75 p0 p1 p2 post y1 o → gX X 0 0 75 [(0, .ref a), (1, .int p0), (2, .int p1), (3, .int p2)] [.int y1, .ref a] (hu g a (9, o)) := by
  intro y1 o w
  unfold wp_X8_viewed_75 at w
  obtain ⟨o16, e17⟩ : ∃ z, z = sI o 0 y1 := ⟨_, rfl⟩
  have w := w o16 e17
  refine rp_X8_X8_thrown C dX8_viewed_75 hu_s e17 hu_hu.symm (r_aload_n C 0 dX8_viewed_78 rfl (rg_X8_X8_thrown C dX8_viewed_79 hu_s (r_if_le C 87 dX8_viewed_82 (by decide) (fun c18 => ?_) (fun c18 => ?_))))
  · have w := w.1 c18
    obtain ⟨i19, w⟩ := w
    obtain ⟨i20, w⟩ := w
    refine r_aload_n C 0 dX8_viewed_87 rfl (r_iload_n C 1 dX8_viewed_88 rfl (r_aload_n C 0 dX8_viewed_89 rfl (rg_X8_X8_viewColumn C dX8_viewed_90 hu_s (r_iload_n C 1 dX8_viewed_93 rfl (r_iald (ci := 9) (k := 27) C dX8_viewed_94 rfl rfl hu_s i19 (r_iload_n C 2 dX8_viewed_95 rfl (r_iadd C dX8_viewed_96 (r_aload_n C 0 dX8_viewed_97 rfl (rg_X8_X8_viewRow C dX8_viewed_98 hu_s (r_iload_n C 1 dX8_viewed_101 rfl (r_iald (ci := 9) (k := 28) C dX8_viewed_102 rfl rfl hu_s i20 (r_iload_n C 3 dX8_viewed_103 rfl (r_iadd C dX8_viewed_104 (r_goi (r_runV C dX8_viewed_105 (m_X8_viewedAt hu_s w) mt_X8_viewedAt tw1382 tw1384 tw52 gcl_9.1 hu_s rfl (stk := []) rfl (Nat.le_of_ble_eq_true rfl) ⟨rfl, rfl, ⟨Nat.le_of_ble_eq_true rfl, Nat.le_of_ble_eq_true rfl⟩, ⟨Nat.le_of_ble_eq_true rfl, Nat.le_of_ble_eq_true rfl⟩⟩) ?_))))))))))))))
    intro r21 h22 hp
    obtain ⟨rfl, w⟩ := hp
    refine r_istore C dX8_viewed_108 (nlt hn (by decide)) rfl (r_iload C 0 dX8_viewed_110 rfl (r_iconst C (v := (-1)) dX8_viewed_112 (by decide) (r_icmp_ne C 120 dX8_viewed_113 (by decide) (fun c23 => ?_) (fun c23 => ?_))))
    · have w := w.1 c23
      obtain ⟨i24, w⟩ := w
      exact r_aload_n C 1 dX8_viewed_120 rfl (rg_X8_X8_keptColour C dX8_viewed_121 hu_s (r_iload C 0 dX8_viewed_124 rfl (r_iald (ci := 9) (k := 41) C dX8_viewed_126 rfl rfl hu_s i24 (r_iret C hQ dX8_viewed_127 rfl (vp_nar_int _) ⟨Nat.le_of_ble_eq_true rfl, Nat.le_of_ble_eq_true rfl⟩ ⟨_, rfl, w⟩))))
    · have w := w.2 c23
      exact r_iconst C (v := 0) dX8_viewed_116 (by decide) (r_goto C 127 dX8_viewed_117 (by decide) (r_iret C hQ dX8_viewed_127 rfl (vp_nar_int _) ⟨Nat.le_of_ble_eq_true rfl, Nat.le_of_ble_eq_true rfl⟩ ⟨_, rfl, w⟩))
  · have w := w.2 c18
    exact r_iconst C (v := 0) dX8_viewed_85 (by decide) (r_iret C hQ dX8_viewed_86 rfl (vp_nar_int _) ⟨Nat.le_of_ble_eq_true rfl, Nat.le_of_ble_eq_true rfl⟩ ⟨_, rfl, w⟩)
set_option maxHeartbeats 4000000 in
set_option maxRecDepth 100000 in
theorem t_X8_viewed_62 {X : gCx} {a : Nat}  {p0 : Int32} {p1 : Int32} {p2 : Int32} {post : Int32 → FO → Prop} {g : GH}   (C : gC X cX8_viewed RX8 (some .int) rm_X8_viewed) (hn : xn X = 7) (hQ : gRet X (gQi (xY X) (fun r9 g9 => ∃ o9, g9 = hu g a (9, o9) ∧ post r9 o9)) 0 0 ∨ gRex X (gQi (xY X) (fun r9 g9 => ∃ o9, g9 = hu g a (9, o9) ∧ post r9 o9)) (fun _ _ => False) 0 0)    : ∀ (y0 : Int32) (o : FO), wp_X8_viewed_62 p0 p1 p2 post y0 o → gX X 0 0 62 [(0, .ref a), (1, .int p0), (2, .int p1), (3, .int p2)] [.int y0] (hu g a (9, o)) := by
  intro y0 o w
  unfold wp_X8_viewed_62 at w
  refine r_istore C dX8_viewed_62 (nlt hn (by decide)) rfl (r_aload_n C 1 dX8_viewed_64 rfl (r_iload C 0 dX8_viewed_65 rfl (r_if_eq C 74 dX8_viewed_67 (by decide) (fun c15 => ?_) (fun c15 => ?_))))
  · have w := w.1 c15
    exact r_iconst C (v := 1) dX8_viewed_74 (by decide) (r_sub [1, 2, 3, 4] rfl (t_X8_viewed_75 C hn hQ _ _ w))
  · have w := w.2 c15
    exact r_iconst C (v := 0) dX8_viewed_70 (by decide) (r_goto C 75 dX8_viewed_71 (by decide) (r_sub [1, 2, 3, 4] rfl (t_X8_viewed_75 C hn hQ _ _ w)))
set_option maxHeartbeats 4000000 in
set_option maxRecDepth 100000 in
theorem t_X8_viewed_61 {X : gCx} {a : Nat}  {p0 : Int32} {p1 : Int32} {p2 : Int32} {post : Int32 → FO → Prop} {g : GH}   (C : gC X cX8_viewed RX8 (some .int) rm_X8_viewed) (hn : xn X = 7) (hQ : gRet X (gQi (xY X) (fun r9 g9 => ∃ o9, g9 = hu g a (9, o9) ∧ post r9 o9)) 0 0 ∨ gRex X (gQi (xY X) (fun r9 g9 => ∃ o9, g9 = hu g a (9, o9) ∧ post r9 o9)) (fun _ _ => False) 0 0)    : ∀ (o : FO), wp_X8_viewed_61 p0 p1 p2 post o → gX X 0 0 61 [(0, .ref a), (1, .int p0), (2, .int p1), (3, .int p2)] [] (hu g a (9, o)) := by
  intro o w
  unfold wp_X8_viewed_61 at w
  exact r_iconst C (v := 0) dX8_viewed_61 (by decide) (r_sub [0, 1, 2, 3] rfl (t_X8_viewed_62 C hn hQ _ _ w))
set_option maxHeartbeats 4000000 in
set_option maxRecDepth 100000 in
theorem t_X8_viewed_13 {X : gCx} {a : Nat}  {p0 : Int32} {p1 : Int32} {p2 : Int32} {post : Int32 → FO → Prop} {g : GH}   (C : gC X cX8_viewed RX8 (some .int) rm_X8_viewed) (hn : xn X = 7) (hQ : gRet X (gQi (xY X) (fun r9 g9 => ∃ o9, g9 = hu g a (9, o9) ∧ post r9 o9)) 0 0 ∨ gRex X (gQi (xY X) (fun r9 g9 => ∃ o9, g9 = hu g a (9, o9) ∧ post r9 o9)) (fun _ _ => False) 0 0)    : ∀ (y0 : Int32) (o : FO), wp_X8_viewed_13 p0 p1 p2 post y0 o → gX X 0 0 13 [(0, .ref a), (1, .int p0), (2, .int p1), (3, .int p2)] [.int y0] (hu g a (9, o)) := by
  intro y0 o w
  unfold wp_X8_viewed_13 at w
  refine r_istore C dX8_viewed_13 (nlt hn (by decide)) rfl (r_aload_n C 1 dX8_viewed_15 rfl (r_iload_n C 2 dX8_viewed_16 rfl (r_goi (r_runV C dX8_viewed_17 (m_X8_isEdition hu_s w) mt_X8_isEdition tw1390 tw1392 tw53 gcl_9.1 hu_s rfl (stk := []) rfl (Nat.le_of_ble_eq_true rfl) ⟨rfl, rfl, ⟨Nat.le_of_ble_eq_true rfl, Nat.le_of_ble_eq_true rfl⟩, ⟨Nat.le_of_ble_eq_true rfl, Nat.le_of_ble_eq_true rfl⟩⟩) ?_)))
  intro r4 h5 hp
  obtain ⟨rfl, w⟩ := hp
  refine r_if_eq C 61 dX8_viewed_20 (by decide) (fun c6 => ?_) (fun c6 => ?_)
  · have w := w.1 c6
    exact r_sub [1, 2, 3, 4] rfl (t_X8_viewed_61 C hn hQ _ w)
  · have w := w.2 c6
    obtain ⟨i7, w⟩ := w
    refine r_iload_n C 3 dX8_viewed_23 rfl (r_iconst C (v := 0) dX8_viewed_24 (by decide) (r_aload_n C 1 dX8_viewed_25 rfl (rg_X8_X8_viewWidth C dX8_viewed_26 hu_s (r_iload C 0 dX8_viewed_29 rfl (r_iald (ci := 9) (k := 29) C dX8_viewed_31 rfl rfl hu_s i7 (r_iconst C (v := 1) dX8_viewed_32 (by decide) (r_isub C dX8_viewed_33 (r_goi (r_runS C dX8_viewed_34 (m_X8_isIn w) mt_X8_isIn tw1215 tw1216 rfl (stk := []) rfl (Nat.le_of_ble_eq_true rfl) ⟨rfl, rfl, ⟨Nat.le_of_ble_eq_true rfl, Nat.le_of_ble_eq_true rfl⟩, ⟨Nat.le_of_ble_eq_true rfl, Nat.le_of_ble_eq_true rfl⟩⟩) ?_))))))))
    intro r8 h9 hp
    obtain ⟨rfl, w⟩ := hp
    refine r_if_eq C 61 dX8_viewed_37 (by decide) (fun c10 => ?_) (fun c10 => ?_)
    · have w := w.1 c10
      exact r_sub [1, 2, 3, 4] rfl (t_X8_viewed_61 C hn hQ _ w)
    · have w := w.2 c10
      obtain ⟨i11, w⟩ := w
      refine r_iload_n C 4 dX8_viewed_40 rfl (r_iconst C (v := 0) dX8_viewed_41 (by decide) (r_aload_n C 1 dX8_viewed_42 rfl (rg_X8_X8_viewHeight C dX8_viewed_43 hu_s (r_iload C 0 dX8_viewed_46 rfl (r_iald (ci := 9) (k := 30) C dX8_viewed_48 rfl rfl hu_s i11 (r_iconst C (v := 1) dX8_viewed_49 (by decide) (r_isub C dX8_viewed_50 (r_goi (r_runS C dX8_viewed_51 (m_X8_isIn w) mt_X8_isIn tw1215 tw1216 rfl (stk := []) rfl (Nat.le_of_ble_eq_true rfl) ⟨rfl, rfl, ⟨Nat.le_of_ble_eq_true rfl, Nat.le_of_ble_eq_true rfl⟩, ⟨Nat.le_of_ble_eq_true rfl, Nat.le_of_ble_eq_true rfl⟩⟩) ?_))))))))
      intro r12 h13 hp
      obtain ⟨rfl, w⟩ := hp
      refine r_if_eq C 61 dX8_viewed_54 (by decide) (fun c14 => ?_) (fun c14 => ?_)
      · have w := w.1 c14
        exact r_sub [1, 2, 3, 4] rfl (t_X8_viewed_61 C hn hQ _ w)
      · have w := w.2 c14
        exact r_iconst C (v := 1) dX8_viewed_57 (by decide) (r_goto C 62 dX8_viewed_58 (by decide) (r_sub [1, 2, 3, 4] rfl (t_X8_viewed_62 C hn hQ _ _ w)))
set_option maxHeartbeats 4000000 in
set_option maxRecDepth 100000 in
theorem m_X8_viewed {Y : gWx} {a : Nat}  {p0 : Int32} {p1 : Int32} {p2 : Int32} {post : Int32 → FO → Prop} {g : GH}  {o : FO} (hg : g a = some (9, o))    (w : wp_X8_viewed p0 p1 p2 o post) : gMet Y yX8_viewed cX8_viewed 7 (some .int) rm_X8_viewed [.ref a, .int p0, .int p1, .int p2] g (gQi Y (fun r9 g9 => ∃ o9, g9 = hu g a (9, o9) ∧ post r9 o9)) 0 0 := by
  refine gm_of rfl (Nat.le_of_ble_eq_true rfl) ?_
  intro X hY hn C hnm hQ
  subst hY
  have hQ : gRet X (gQi (xY X) (fun r9 g9 => ∃ o9, g9 = hu g a (9, o9) ∧ post r9 o9)) 0 0 ∨ gRex X (gQi (xY X) (fun r9 g9 => ∃ o9, g9 = hu g a (9, o9) ∧ post r9 o9)) (fun _ _ => False) 0 0 := Or.inl hQ
  have C : gC X cX8_viewed RX8 (some .int) rm_X8_viewed := C
  refine gX_eq (hu_id hg).symm ?_
  show gX X 0 0 0 [(0, .ref a), (1, .int p0), (2, .int p1), (3, .int p2)] [] (hu g a (9, o))
  unfold wp_X8_viewed at w
  refine r_aload_n C 0 dX8_viewed_0 rfl (r_iload_n C 1 dX8_viewed_1 rfl (r_goi (r_runV C dX8_viewed_2 (m_X8_isEdition hu_s w) mt_X8_isEdition tw1390 tw1392 tw53 gcl_9.1 hu_s rfl (stk := []) rfl (Nat.le_of_ble_eq_true rfl) ⟨rfl, rfl, ⟨Nat.le_of_ble_eq_true rfl, Nat.le_of_ble_eq_true rfl⟩, ⟨Nat.le_of_ble_eq_true rfl, Nat.le_of_ble_eq_true rfl⟩⟩) ?_))
  intro r1 h2 hp
  obtain ⟨rfl, w⟩ := hp
  refine r_if_eq C 12 dX8_viewed_5 (by decide) (fun c3 => ?_) (fun c3 => ?_)
  · have w := w.1 c3
    exact r_iconst C (v := 0) dX8_viewed_12 (by decide) (r_sub [0, 1, 2, 3] rfl (t_X8_viewed_13 C hn hQ _ _ w))
  · have w := w.2 c3
    exact r_iload_n C 1 dX8_viewed_8 rfl (r_goto C 13 dX8_viewed_9 (by decide) (r_sub [0, 1, 2, 3] rfl (t_X8_viewed_13 C hn hQ _ _ w)))
def rm_X8_area : Room := { frames := 2, cells := 0, slots := 0, locals := 43 }
theorem mt_X8_area : gMt yX8_area cX8_area 3 (some .int) 2 := ⟨tw1401, tw64, by decide +kernel, by decide +kernel, by decide +kernel⟩
def wp_X8_area_21 (p0 : Int32) (p1 : Int32) (post : Int32 → FO → Prop) (y1 : Int32) (o : FO) : Prop :=
∀ o7, o7 = sI o 0 y1 →
(((fI o7 0) ≤ 0 → vp_in ((6 * p0) + p1) 48 ∧
post (fA o7 35 ((6 * p0) + p1).toNatClampNeg) o7) ∧ (¬ (fI o7 0) ≤ 0 → post 0 o7))
def wp_X8_area_20 (p0 : Int32) (p1 : Int32) (post : Int32 → FO → Prop)  (o : FO) : Prop :=
wp_X8_area_21 p0 p1 post 1 o
def wp_X8_area (p0 : Int32) (p1 : Int32) (o : FO) (post : Int32 → FO → Prop) : Prop :=
wp_X8_isEdition p0 o (fun r1 =>
((r1 = 0 → wp_X8_area_20 p0 p1 post o) ∧ (¬ r1 = 0 → wp_X8_isHand p1 (fun r4 =>
((r4 = 0 → wp_X8_area_20 p0 p1 post o) ∧ (¬ r4 = 0 → wp_X8_area_21 p0 p1 post 0 o))))))
set_option maxHeartbeats 4000000 in
set_option maxRecDepth 100000 in
theorem t_X8_area_21 {X : gCx} {a : Nat}  {p0 : Int32} {p1 : Int32} {post : Int32 → FO → Prop} {g : GH}   (C : gC X cX8_area RX8 (some .int) rm_X8_area) (hn : xn X = 3) (hQ : gRet X (gQi (xY X) (fun r9 g9 => ∃ o9, g9 = hu g a (9, o9) ∧ post r9 o9)) 0 0 ∨ gRex X (gQi (xY X) (fun r9 g9 => ∃ o9, g9 = hu g a (9, o9) ∧ post r9 o9)) (fun _ _ => False) 0 0)    : ∀ (y1 : Int32) (o : FO), wp_X8_area_21 p0 p1 post y1 o → gX X 0 0 21 [(0, .ref a), (1, .int p0), (2, .int p1)] [.int y1, .ref a] (hu g a (9, o)) := by
  intro y1 o w
  unfold wp_X8_area_21 at w
  obtain ⟨o7, e8⟩ : ∃ z, z = sI o 0 y1 := ⟨_, rfl⟩
  have w := w o7 e8
  refine rp_X8_X8_thrown C dX8_area_21 hu_s e8 hu_hu.symm (r_aload_n C 0 dX8_area_24 rfl (rg_X8_X8_thrown C dX8_area_25 hu_s (r_if_le C 35 dX8_area_28 (by decide) (fun c9 => ?_) (fun c9 => ?_))))
  · have w := w.1 c9
    obtain ⟨i10, w⟩ := w
    exact r_aload_n C 0 dX8_area_35 rfl (rg_X8_X8_area C dX8_area_36 hu_s (r_bipush C (v := 6) dX8_area_39 (by decide) (r_iload_n C 1 dX8_area_41 rfl (r_imul C dX8_area_42 (r_iload_n C 2 dX8_area_43 rfl (r_iadd C dX8_area_44 (r_iald (ci := 9) (k := 35) C dX8_area_45 rfl rfl hu_s i10 (r_iret C hQ dX8_area_46 rfl (vp_nar_int _) ⟨Nat.le_of_ble_eq_true rfl, Nat.le_of_ble_eq_true rfl⟩ ⟨_, rfl, w⟩))))))))
  · have w := w.2 c9
    exact r_iconst C (v := 0) dX8_area_31 (by decide) (r_goto C 46 dX8_area_32 (by decide) (r_iret C hQ dX8_area_46 rfl (vp_nar_int _) ⟨Nat.le_of_ble_eq_true rfl, Nat.le_of_ble_eq_true rfl⟩ ⟨_, rfl, w⟩))
set_option maxHeartbeats 4000000 in
set_option maxRecDepth 100000 in
theorem t_X8_area_20 {X : gCx} {a : Nat}  {p0 : Int32} {p1 : Int32} {post : Int32 → FO → Prop} {g : GH}   (C : gC X cX8_area RX8 (some .int) rm_X8_area) (hn : xn X = 3) (hQ : gRet X (gQi (xY X) (fun r9 g9 => ∃ o9, g9 = hu g a (9, o9) ∧ post r9 o9)) 0 0 ∨ gRex X (gQi (xY X) (fun r9 g9 => ∃ o9, g9 = hu g a (9, o9) ∧ post r9 o9)) (fun _ _ => False) 0 0)    : ∀ (o : FO), wp_X8_area_20 p0 p1 post o → gX X 0 0 20 [(0, .ref a), (1, .int p0), (2, .int p1)] [.ref a] (hu g a (9, o)) := by
  intro o w
  unfold wp_X8_area_20 at w
  exact r_iconst C (v := 1) dX8_area_20 (by decide) (r_sub [0, 1, 2] rfl (t_X8_area_21 C hn hQ _ _ w))
set_option maxHeartbeats 4000000 in
set_option maxRecDepth 100000 in
theorem m_X8_area {Y : gWx} {a : Nat}  {p0 : Int32} {p1 : Int32} {post : Int32 → FO → Prop} {g : GH}  {o : FO} (hg : g a = some (9, o))    (w : wp_X8_area p0 p1 o post) : gMet Y yX8_area cX8_area 3 (some .int) rm_X8_area [.ref a, .int p0, .int p1] g (gQi Y (fun r9 g9 => ∃ o9, g9 = hu g a (9, o9) ∧ post r9 o9)) 0 0 := by
  refine gm_of rfl (Nat.le_of_ble_eq_true rfl) ?_
  intro X hY hn C hnm hQ
  subst hY
  have hQ : gRet X (gQi (xY X) (fun r9 g9 => ∃ o9, g9 = hu g a (9, o9) ∧ post r9 o9)) 0 0 ∨ gRex X (gQi (xY X) (fun r9 g9 => ∃ o9, g9 = hu g a (9, o9) ∧ post r9 o9)) (fun _ _ => False) 0 0 := Or.inl hQ
  have C : gC X cX8_area RX8 (some .int) rm_X8_area := C
  refine gX_eq (hu_id hg).symm ?_
  show gX X 0 0 0 [(0, .ref a), (1, .int p0), (2, .int p1)] [] (hu g a (9, o))
  unfold wp_X8_area at w
  refine r_aload_n C 0 dX8_area_0 rfl (r_aload_n C 0 dX8_area_1 rfl (r_iload_n C 1 dX8_area_2 rfl (r_goi (r_runV C dX8_area_3 (m_X8_isEdition hu_s w) mt_X8_isEdition tw1390 tw1392 tw53 gcl_9.1 hu_s rfl (stk := [.ref a]) rfl (Nat.le_of_ble_eq_true rfl) ⟨rfl, rfl, ⟨Nat.le_of_ble_eq_true rfl, Nat.le_of_ble_eq_true rfl⟩, ⟨Nat.le_of_ble_eq_true rfl, Nat.le_of_ble_eq_true rfl⟩⟩) ?_)))
  intro r1 h2 hp
  obtain ⟨rfl, w⟩ := hp
  refine r_if_eq C 20 dX8_area_6 (by decide) (fun c3 => ?_) (fun c3 => ?_)
  · have w := w.1 c3
    exact r_sub [0, 1, 2] rfl (t_X8_area_20 C hn hQ _ w)
  · have w := w.2 c3
    refine r_iload_n C 2 dX8_area_9 rfl (r_goi (r_runS C dX8_area_10 (m_X8_isHand w) mt_X8_isHand tw1218 tw1219 rfl (stk := [.ref a]) rfl (Nat.le_of_ble_eq_true rfl) ⟨rfl, rfl, ⟨Nat.le_of_ble_eq_true rfl, Nat.le_of_ble_eq_true rfl⟩, ⟨Nat.le_of_ble_eq_true rfl, Nat.le_of_ble_eq_true rfl⟩⟩) ?_)
    intro r4 h5 hp
    obtain ⟨rfl, w⟩ := hp
    refine r_if_eq C 20 dX8_area_13 (by decide) (fun c6 => ?_) (fun c6 => ?_)
    · have w := w.1 c6
      exact r_sub [0, 1, 2] rfl (t_X8_area_20 C hn hQ _ w)
    · have w := w.2 c6
      exact r_iconst C (v := 0) dX8_area_16 (by decide) (r_goto C 21 dX8_area_17 (by decide) (r_sub [0, 1, 2] rfl (t_X8_area_21 C hn hQ _ _ w)))
def rm_X8_shares : Room := { frames := 0, cells := 0, slots := 0, locals := 0 }
theorem mt_X8_shares : gMt yX8_shares cX8_shares 7 none 2 := ⟨tw1416, tw64, by decide +kernel, by decide +kernel, by decide +kernel⟩
def wp_X8_shares_39 (p0 : Int32) (p1 : Int32) (post : FO → Prop) : Nat → Int32 → Int32 → Int32 → FO → Prop
  | 0, _, _, _, _ => False
  | n + 1, x3, x4, x5, o =>
    ((6 ≤ x5 → vp_in p0 8 ∧
    vp_in (fA o 26 p0.toNatClampNeg) 6 ∧
    vp_in (fA o 26 p0.toNatClampNeg) 6 ∧
    ∀ o7, o7 = sA o 46 (fA o 26 p0.toNatClampNeg).toNatClampNeg ((fA o 46 (fA o 26 p0.toNatClampNeg).toNatClampNeg) + x4) →
    post o7) ∧ (¬ 6 ≤ x5 → vp_in ((6 * p0) + x5) 48 ∧
    ¬ x3 = 0 ∧
    vp_in x5 6 ∧
    vp_in x5 6 ∧
    ∀ o13, o13 = sA o 46 x5.toNatClampNeg ((fA o 46 x5.toNatClampNeg) + ((p1 * (fA o 35 ((6 * p0) + x5).toNatClampNeg)) / x3)) →
    wp_X8_shares_39 p0 p1 post n x3 (x4 - ((p1 * (fA o 35 ((6 * p0) + x5).toNatClampNeg)) / x3)) (x5 + 1) o13))
def wp_X8_shares_5 (p0 : Int32) (p1 : Int32) (post : FO → Prop) : Nat → Int32 → Int32 → FO → Prop
  | 0, _, _, _ => False
  | n + 1, x3, x4, o =>
    ((6 ≤ x4 → wp_X8_shares_39 p0 p1 post 1000 x3 p1 0 o) ∧ (¬ 6 ≤ x4 → vp_in ((6 * p0) + x4) 48 ∧
    wp_X8_shares_5 p0 p1 post n (x3 + (fA o 35 ((6 * p0) + x4).toNatClampNeg)) (x4 + 1) o))
def wp_X8_shares (p0 : Int32) (p1 : Int32) (o : FO) (post : FO → Prop) : Prop :=
wp_X8_shares_5 p0 p1 post 1000 0 0 o
set_option maxHeartbeats 4000000 in
set_option maxRecDepth 100000 in
theorem t_X8_shares_39 {X : gCx} {a : Nat}  {p0 : Int32} {p1 : Int32} {post : FO → Prop} {g : GH}   (C : gC X cX8_shares RX8 none rm_X8_shares) (hn : xn X = 7) (hQ : gRet X (gQv (xY X) (fun  g9 => ∃ o9, g9 = hu g a (9, o9) ∧ post  o9)) 0 0 ∨ gRex X (gQv (xY X) (fun  g9 => ∃ o9, g9 = hu g a (9, o9) ∧ post  o9)) (fun _ _ => False) 0 0)    : ∀ (n : Nat) (x3 : Int32) (x4 : Int32) (x5 : Int32) (o : FO), wp_X8_shares_39 p0 p1 post n x3 x4 x5 o → gX X 0 0 39 [(0, .ref a), (1, .int p0), (2, .int p1), (3, .int x3), (4, .int x4), (5, .int x5)] [] (hu g a (9, o)) := by
  intro n
  induction n with
  | zero => intro x3 x4 x5 o w; exact w.elim
  | succ n ih =>
    intro x3 x4 x5 o w
    unfold wp_X8_shares_39 at w
    refine r_iload C 5 dX8_shares_39 rfl (r_bipush C (v := 6) dX8_shares_41 (by decide) (r_icmp_ge C 89 dX8_shares_43 (by decide) (fun c3 => ?_) (fun c3 => ?_)))
    · have w := w.1 c3
      obtain ⟨i4, w⟩ := w
      obtain ⟨i5, w⟩ := w
      obtain ⟨i6, w⟩ := w
      obtain ⟨o7, e8⟩ : ∃ z, z = sA o 46 (fA o 26 p0.toNatClampNeg).toNatClampNeg ((fA o 46 (fA o 26 p0.toNatClampNeg).toNatClampNeg) + x4) := ⟨_, rfl⟩
      have w := w o7 e8
      exact r_aload_n C 0 dX8_shares_89 rfl (rg_X8_X8_money C dX8_shares_90 hu_s (r_aload_n C 0 dX8_shares_93 rfl (rg_X8_X8_freezer C dX8_shares_94 hu_s (r_iload_n C 1 dX8_shares_97 rfl (r_iald (ci := 9) (k := 26) C dX8_shares_98 rfl rfl hu_s i4 (r_dup2 C dX8_shares_99 rfl rfl (r_iald (ci := 9) (k := 46) C dX8_shares_100 rfl rfl hu_s i5 (r_iload C 4 dX8_shares_101 rfl (r_iadd C dX8_shares_103 (r_iast (ci := 9) (k := 46) C dX8_shares_104 rfl rfl hu_s i6 e8 hu_hu.symm (r_vret C hQ dX8_shares_105 rfl ⟨Nat.le_of_ble_eq_true rfl, Nat.le_of_ble_eq_true rfl⟩ ⟨_, rfl, w⟩)))))))))))
    · have w := w.2 c3
      obtain ⟨i9, w⟩ := w
      obtain ⟨i10, w⟩ := w
      obtain ⟨i11, w⟩ := w
      obtain ⟨i12, w⟩ := w
      obtain ⟨o13, e14⟩ : ∃ z, z = sA o 46 x5.toNatClampNeg ((fA o 46 x5.toNatClampNeg) + ((p1 * (fA o 35 ((6 * p0) + x5).toNatClampNeg)) / x3)) := ⟨_, rfl⟩
      have w := w o13 e14
      exact r_iload_n C 2 dX8_shares_46 rfl (r_aload_n C 0 dX8_shares_47 rfl (rg_X8_X8_area C dX8_shares_48 hu_s (r_bipush C (v := 6) dX8_shares_51 (by decide) (r_iload_n C 1 dX8_shares_53 rfl (r_imul C dX8_shares_54 (r_iload C 5 dX8_shares_55 rfl (r_iadd C dX8_shares_57 (r_iald (ci := 9) (k := 35) C dX8_shares_58 rfl rfl hu_s i9 (r_imul C dX8_shares_59 (r_iload_n C 3 dX8_shares_60 rfl (r_idiv C dX8_shares_61 i10 (r_istore C dX8_shares_62 (nlt hn (by decide)) rfl (r_aload_n C 1 dX8_shares_64 rfl (rg_X8_X8_money C dX8_shares_65 hu_s (r_iload C 6 dX8_shares_68 rfl (r_dup2 C dX8_shares_70 rfl rfl (r_iald (ci := 9) (k := 46) C dX8_shares_71 rfl rfl hu_s i11 (r_iload C 0 dX8_shares_72 rfl (r_iadd C dX8_shares_74 (r_iast (ci := 9) (k := 46) C dX8_shares_75 rfl rfl hu_s i12 e14 hu_hu.symm (r_iload C 5 dX8_shares_76 rfl (r_iload C 0 dX8_shares_78 rfl (r_isub C dX8_shares_80 (r_istore C dX8_shares_81 (nlt hn (by decide)) rfl (r_iinc C (v := x5 + 1) 6 dX8_shares_83 rfl rfl (nlt hn (by decide)) rfl (r_goto C 39 dX8_shares_86 (by decide) (r_sub [3, 4, 5, 6, 1, 0] rfl (ih _ _ _ _ w))))))))))))))))))))))))))))
set_option maxHeartbeats 4000000 in
set_option maxRecDepth 100000 in
theorem t_X8_shares_5 {X : gCx} {a : Nat}  {p0 : Int32} {p1 : Int32} {post : FO → Prop} {g : GH}   (C : gC X cX8_shares RX8 none rm_X8_shares) (hn : xn X = 7) (hQ : gRet X (gQv (xY X) (fun  g9 => ∃ o9, g9 = hu g a (9, o9) ∧ post  o9)) 0 0 ∨ gRex X (gQv (xY X) (fun  g9 => ∃ o9, g9 = hu g a (9, o9) ∧ post  o9)) (fun _ _ => False) 0 0)    : ∀ (n : Nat) (x3 : Int32) (x4 : Int32) (o : FO), wp_X8_shares_5 p0 p1 post n x3 x4 o → gX X 0 0 5 [(0, .ref a), (1, .int p0), (2, .int p1), (3, .int x3), (4, .int x4)] [] (hu g a (9, o)) := by
  intro n
  induction n with
  | zero => intro x3 x4 o w; exact w.elim
  | succ n ih =>
    intro x3 x4 o w
    unfold wp_X8_shares_5 at w
    refine r_iload C 4 dX8_shares_5 rfl (r_bipush C (v := 6) dX8_shares_7 (by decide) (r_icmp_ge C 33 dX8_shares_9 (by decide) (fun c1 => ?_) (fun c1 => ?_)))
    · have w := w.1 c1
      exact r_iload_n C 2 dX8_shares_33 rfl (r_istore C dX8_shares_34 (nlt hn (by decide)) rfl (r_iconst C (v := 0) dX8_shares_36 (by decide) (r_istore C dX8_shares_37 (nlt hn (by decide)) rfl (r_sub [2, 3, 4, 5, 1, 0] rfl (t_X8_shares_39 C hn hQ 1000 _ _ _ _ w)))))
    · have w := w.2 c1
      obtain ⟨i2, w⟩ := w
      exact r_iload_n C 3 dX8_shares_12 rfl (r_aload_n C 0 dX8_shares_13 rfl (rg_X8_X8_area C dX8_shares_14 hu_s (r_bipush C (v := 6) dX8_shares_17 (by decide) (r_iload_n C 1 dX8_shares_19 rfl (r_imul C dX8_shares_20 (r_iload C 4 dX8_shares_21 rfl (r_iadd C dX8_shares_23 (r_iald (ci := 9) (k := 35) C dX8_shares_24 rfl rfl hu_s i2 (r_iadd C dX8_shares_25 (r_istore_n C dX8_shares_26 (nlt hn (by decide)) rfl (r_iinc C (v := x4 + 1) 4 dX8_shares_27 rfl rfl (nlt hn (by decide)) rfl (r_goto C 5 dX8_shares_30 (by decide) (r_sub [2, 3, 4, 1, 0] rfl (ih _ _ _ w))))))))))))))
set_option maxHeartbeats 4000000 in
set_option maxRecDepth 100000 in
theorem m_X8_shares {Y : gWx} {a : Nat}  {p0 : Int32} {p1 : Int32} {post : FO → Prop} {g : GH}  {o : FO} (hg : g a = some (9, o))    (w : wp_X8_shares p0 p1 o post) : gMet Y yX8_shares cX8_shares 7 none rm_X8_shares [.ref a, .int p0, .int p1] g (gQv Y (fun  g9 => ∃ o9, g9 = hu g a (9, o9) ∧ post  o9)) 0 0 := by
  refine gm_of rfl (Nat.le_of_ble_eq_true rfl) ?_
  intro X hY hn C hnm hQ
  subst hY
  have hQ : gRet X (gQv (xY X) (fun  g9 => ∃ o9, g9 = hu g a (9, o9) ∧ post  o9)) 0 0 ∨ gRex X (gQv (xY X) (fun  g9 => ∃ o9, g9 = hu g a (9, o9) ∧ post  o9)) (fun _ _ => False) 0 0 := Or.inl hQ
  have C : gC X cX8_shares RX8 none rm_X8_shares := C
  refine gX_eq (hu_id hg).symm ?_
  show gX X 0 0 0 [(0, .ref a), (1, .int p0), (2, .int p1)] [] (hu g a (9, o))
  unfold wp_X8_shares at w
  exact r_iconst C (v := 0) dX8_shares_0 (by decide) (r_istore_n C dX8_shares_1 (nlt hn (by decide)) rfl (r_iconst C (v := 0) dX8_shares_2 (by decide) (r_istore C dX8_shares_3 (nlt hn (by decide)) rfl (r_sub [2, 3, 4, 1, 0] rfl (t_X8_shares_5 C hn hQ 1000 _ _ _ w)))))
