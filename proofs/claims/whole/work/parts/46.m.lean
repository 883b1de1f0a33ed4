def rm_X8_move : Room := { frames := 5, cells := 0, slots := 0, locals := 112 }
theorem mt_X8_move : gMt yX8_move cX8_move 5 (some .int) 4 := ⟨tw1260, tw64, by decide +kernel, by decide +kernel, by decide +kernel⟩
def wp_X8_move_74 (p0 : Int32) (p1 : Int32) (p2 : Int32) (p3 : Int32) (post : Int32 → FO → Prop) (y1 : Int32) (o : FO) : Prop :=
∀ o19, o19 = sI o 0 y1 →
(((fI o19 0) ≤ 0 → wp_X8_tells p0 1 p1 p2 p3 o19 (fun o22 =>
wp_X8_inGroup p1 o22 (fun r24 =>
post r24 o22))) ∧ (¬ (fI o19 0) ≤ 0 → post 0 o19))
def wp_X8_move_48 (p0 : Int32) (p1 : Int32) (p2 : Int32) (p3 : Int32) (post : Int32 → FO → Prop) (y1 : Int32) (o : FO) : Prop :=
∀ o13, o13 = sI o 0 y1 →
(((fI o13 0) ≤ 0 → wp_X8_canName p1 o13 (fun r16 =>
((r16 = 0 → wp_X8_move_74 p0 p1 p2 p3 post 3 o13) ∧ (¬ r16 = 0 → wp_X8_move_74 p0 p1 p2 p3 post 0 o13)))) ∧ (¬ (fI o13 0) ≤ 0 → post 0 o13))
def wp_X8_move_16 (p0 : Int32) (p1 : Int32) (p2 : Int32) (p3 : Int32) (post : Int32 → FO → Prop)  (o : FO) : Prop :=
wp_X8_move_48 p0 p1 p2 p3 post 1 o
def wp_X8_move_47 (p0 : Int32) (p1 : Int32) (p2 : Int32) (p3 : Int32) (post : Int32 → FO → Prop)  (o : FO) : Prop :=
wp_X8_move_48 p0 p1 p2 p3 post 2 o
def wp_X8_move (p0 : Int32) (p1 : Int32) (p2 : Int32) (p3 : Int32) (o : FO) (post : Int32 → FO → Prop) : Prop :=
wp_X8_isHand p0 (fun r1 =>
((r1 = 0 → wp_X8_move_16 p0 p1 p2 p3 post o) ∧ (¬ r1 = 0 → wp_X8_isShape p1 o (fun r4 =>
((¬ r4 = 0 → wp_X8_isIn p2 ((-24)) 24 (fun r7 =>
((r7 = 0 → wp_X8_move_47 p0 p1 p2 p3 post o) ∧ (¬ r7 = 0 → wp_X8_isIn p3 ((-16)) 16 (fun r10 =>
((r10 = 0 → wp_X8_move_47 p0 p1 p2 p3 post o) ∧ (¬ r10 = 0 → wp_X8_move_48 p0 p1 p2 p3 post 0 o))))))) ∧ (r4 = 0 → wp_X8_move_16 p0 p1 p2 p3 post o))))))
set_option maxHeartbeats 4000000 in
set_option maxRecDepth 100000 in
theorem t_X8_move_74 {X : gCx} {a : Nat}  {p0 : Int32} {p1 : Int32} {p2 : Int32} {p3 : Int32} {post : Int32 → FO → Prop} {g : GH}   (C : gC X cX8_move RX8 (some .int) rm_X8_move) (hn : xn X = 5) (hQ : gRet X (gQi (xY X) (fun r9 g9 => ∃ o9, g9 = hu g a (9, o9) ∧ post r9 o9)) 0 0 ∨ gRex X (gQi (xY X) (fun r9 g9 => ∃ o9, g9 = hu g a (9, o9) ∧ post r9 o9)) (fun _ _ => False) 0 0)    : ∀ (y1 : Int32) (o : FO), wp_X8_move_74 p0 p1 p2 p3 post y1 o → gX X 0 0 74 [(0, .ref a), (1, .int p0), (2, .int p1), (3, .int p2), (4, .int p3)] [.int y1, .ref a] (hu g a (9, o)) := by
  intro y1 o w
  unfold wp_X8_move_74 at w
  obtain ⟨o19, e20⟩ : ∃ z, z = sI o 0 y1 := ⟨_, rfl⟩
  have w := w o19 e20
  refine rp_X8_X8_thrown C dX8_move_74 hu_s e20 hu_hu.symm (r_aload_n C 0 dX8_move_77 rfl (rg_X8_X8_thrown C dX8_move_78 hu_s (r_if_le C 86 dX8_move_81 (by decide) (fun c21 => ?_) (fun c21 => ?_))))
  · have w := w.1 c21
    refine r_aload_n C 0 dX8_move_86 rfl (r_iload_n C 1 dX8_move_87 rfl (r_iconst C (v := 1) dX8_move_88 (by decide) (r_iload_n C 2 dX8_move_89 rfl (r_iload_n C 3 dX8_move_90 rfl (r_iload C 4 dX8_move_91 rfl (r_gov (r_runV C dX8_move_93 (m_X8_tells hu_s w) mt_X8_tells tw1221 tw1223 tw32 gcl_9.1 hu_s rfl (stk := []) rfl (Nat.le_of_ble_eq_true rfl) ⟨rfl, rfl, ⟨Nat.le_of_ble_eq_true rfl, Nat.le_of_ble_eq_true rfl⟩, ⟨Nat.le_of_ble_eq_true rfl, Nat.le_of_ble_eq_true rfl⟩⟩) ?_))))))
    intro  h23 hp
    obtain ⟨o22, rfl, w⟩ := hp
    refine gX_eq hu_hu ?_
    refine r_aload_n C 0 dX8_move_96 rfl (r_iload_n C 2 dX8_move_97 rfl (r_goi (r_runV C dX8_move_98 (m_X8_inGroup hu_s w) mt_X8_inGroup tw1269 tw1271 tw43 gcl_9.1 hu_s rfl (stk := []) rfl (Nat.le_of_ble_eq_true rfl) ⟨rfl, rfl, ⟨Nat.le_of_ble_eq_true rfl, Nat.le_of_ble_eq_true rfl⟩, ⟨Nat.le_of_ble_eq_true rfl, Nat.le_of_ble_eq_true rfl⟩⟩) ?_))
    intro r24 h25 hp
    obtain ⟨rfl, w⟩ := hp
    exact r_iret C hQ dX8_move_101 rfl (vp_nar_int _) ⟨Nat.le_of_ble_eq_true rfl, Nat.le_of_ble_eq_true rfl⟩ ⟨_, rfl, w⟩
  · have w := w.2 c21
    exact r_iconst C (v := 0) dX8_move_84 (by decide) (r_iret C hQ dX8_move_85 rfl (vp_nar_int _) ⟨Nat.le_of_ble_eq_true rfl, Nat.le_of_ble_eq_true rfl⟩ ⟨_, rfl, w⟩)
set_option maxHeartbeats 4000000 in
set_option maxRecDepth 100000 in
theorem t_X8_move_48 {X : gCx} {a : Nat}  {p0 : Int32} {p1 : Int32} {p2 : Int32} {p3 : Int32} {post : Int32 → FO → Prop} {g : GH}   (C : gC X cX8_move RX8 (some .int) rm_X8_move) (hn : xn X = 5) (hQ : gRet X (gQi (xY X) (fun r9 g9 => ∃ o9, g9 = hu g a (9, o9) ∧ post r9 o9)) 0 0 ∨ gRex X (gQi (xY X) (fun r9 g9 => ∃ o9, g9 = hu g a (9, o9) ∧ post r9 o9)) (fun _ _ => False) 0 0)    : ∀ (y1 : Int32) (o : FO), wp_X8_move_48 p0 p1 p2 p3 post y1 o → gX X 0 0 48 [(0, .ref a), (1, .int p0), (2, .int p1), (3, .int p2), (4, .int p3)] [.int y1, .ref a] (hu g a (9, o)) := by
  intro y1 o w
  unfold wp_X8_move_48 at w
  obtain ⟨o13, e14⟩ : ∃ z, z = sI o 0 y1 := ⟨_, rfl⟩
  have w := w o13 e14
  refine rp_X8_X8_thrown C dX8_move_48 hu_s e14 hu_hu.symm (r_aload_n C 0 dX8_move_51 rfl (rg_X8_X8_thrown C dX8_move_52 hu_s (r_if_le C 60 dX8_move_55 (by decide) (fun c15 => ?_) (fun c15 => ?_))))
  · have w := w.1 c15
    refine r_aload_n C 0 dX8_move_60 rfl (r_aload_n C 0 dX8_move_61 rfl (r_iload_n C 2 dX8_move_62 rfl (r_goi (r_runV C dX8_move_63 (m_X8_canName hu_s w) mt_X8_canName tw1265 tw1267 tw42 gcl_9.1 hu_s rfl (stk := [.ref a]) rfl (Nat.le_of_ble_eq_true rfl) ⟨rfl, rfl, ⟨Nat.le_of_ble_eq_true rfl, Nat.le_of_ble_eq_true rfl⟩, ⟨Nat.le_of_ble_eq_true rfl, Nat.le_of_ble_eq_true rfl⟩⟩) ?_)))
    intro r16 h17 hp
    obtain ⟨rfl, w⟩ := hp
    refine r_if_eq C 73 dX8_move_66 (by decide) (fun c18 => ?_) (fun c18 => ?_)
    · have w := w.1 c18
      exact r_iconst C (v := 3) dX8_move_73 (by decide) (r_sub [0, 1, 2, 3, 4] rfl (t_X8_move_74 C hn hQ _ _ w))
    · have w := w.2 c18
      exact r_iconst C (v := 0) dX8_move_69 (by decide) (r_goto C 74 dX8_move_70 (by decide) (r_sub [0, 1, 2, 3, 4] rfl (t_X8_move_74 C hn hQ _ _ w)))
  · have w := w.2 c15
    exact r_iconst C (v := 0) dX8_move_58 (by decide) (r_iret C hQ dX8_move_59 rfl (vp_nar_int _) ⟨Nat.le_of_ble_eq_true rfl, Nat.le_of_ble_eq_true rfl⟩ ⟨_, rfl, w⟩)
set_option maxHeartbeats 4000000 in
set_option maxRecDepth 100000 in
theorem t_X8_move_16 {X : gCx} {a : Nat}  {p0 : Int32} {p1 : Int32} {p2 : Int32} {p3 : Int32} {post : Int32 → FO → Prop} {g : GH}   (C : gC X cX8_move RX8 (some .int) rm_X8_move) (hn : xn X = 5) (hQ : gRet X (gQi (xY X) (fun r9 g9 => ∃ o9, g9 = hu g a (9, o9) ∧ post r9 o9)) 0 0 ∨ gRex X (gQi (xY X) (fun r9 g9 => ∃ o9, g9 = hu g a (9, o9) ∧ post r9 o9)) (fun _ _ => False) 0 0)    : ∀ (o : FO), wp_X8_move_16 p0 p1 p2 p3 post o → gX X 0 0 16 [(0, .ref a), (1, .int p0), (2, .int p1), (3, .int p2), (4, .int p3)] [.ref a] (hu g a (9, o)) := by
  intro o w
  unfold wp_X8_move_16 at w
  exact r_iconst C (v := 1) dX8_move_16 (by decide) (r_goto C 48 dX8_move_17 (by decide) (r_sub [0, 1, 2, 3, 4] rfl (t_X8_move_48 C hn hQ _ _ w)))
set_option maxHeartbeats 4000000 in
set_option maxRecDepth 100000 in
theorem t_X8_move_47 {X : gCx} {a : Nat}  {p0 : Int32} {p1 : Int32} {p2 : Int32} {p3 : Int32} {post : Int32 → FO → Prop} {g : GH}   (C : gC X cX8_move RX8 (some .int) rm_X8_move) (hn : xn X = 5) (hQ : gRet X (gQi (xY X) (fun r9 g9 => ∃ o9, g9 = hu g a (9, o9) ∧ post r9 o9)) 0 0 ∨ gRex X (gQi (xY X) (fun r9 g9 => ∃ o9, g9 = hu g a (9, o9) ∧ post r9 o9)) (fun _ _ => False) 0 0)    : ∀ (o : FO), wp_X8_move_47 p0 p1 p2 p3 post o → gX X 0 0 47 [(0, .ref a), (1, .int p0), (2, .int p1), (3, .int p2), (4, .int p3)] [.ref a] (hu g a (9, o)) := by
  intro o w
  unfold wp_X8_move_47 at w
  exact r_iconst C (v := 2) dX8_move_47 (by decide) (r_sub [0, 1, 2, 3, 4] rfl (t_X8_move_48 C hn hQ _ _ w))
set_option maxHeartbeats 4000000 in
set_option maxRecDepth 100000 in
theorem m_X8_move {Y : gWx} {a : Nat}  {p0 : Int32} {p1 : Int32} {p2 : Int32} {p3 : Int32} {post : Int32 → FO → Prop} {g : GH}  {o : FO} (hg : g a = some (9, o))    (w : wp_X8_move p0 p1 p2 p3 o post) : gMet Y yX8_move cX8_move 5 (some .int) rm_X8_move [.ref a, .int p0, .int p1, .int p2, .int p3] g (gQi Y (fun r9 g9 => ∃ o9, g9 = hu g a (9, o9) ∧ post r9 o9)) 0 0 := by
  refine gm_of rfl (Nat.le_of_ble_eq_true rfl) ?_
  intro X hY hn C hnm hQ
  subst hY
  have hQ : gRet X (gQi (xY X) (fun r9 g9 => ∃ o9, g9 = hu g a (9, o9) ∧ post r9 o9)) 0 0 ∨ gRex X (gQi (xY X) (fun r9 g9 => ∃ o9, g9 = hu g a (9, o9) ∧ post r9 o9)) (fun _ _ => False) 0 0 := Or.inl hQ
  have C : gC X cX8_move RX8 (some .int) rm_X8_move := C
  refine gX_eq (hu_id hg).symm ?_
  show gX X 0 0 0 [(0, .ref a), (1, .int p0), (2, .int p1), (3, .int p2), (4, .int p3)] [] (hu g a (9, o))
  unfold wp_X8_move at w
  refine r_aload_n C 0 dX8_move_0 rfl (r_iload_n C 1 dX8_move_1 rfl (r_goi (r_runS C dX8_move_2 (m_X8_isHand w) mt_X8_isHand tw1218 tw1219 rfl (stk := [.ref a]) rfl (Nat.le_of_ble_eq_true rfl) ⟨rfl, rfl, ⟨Nat.le_of_ble_eq_true rfl, Nat.le_of_ble_eq_true rfl⟩, ⟨Nat.le_of_ble_eq_true rfl, Nat.le_of_ble_eq_true rfl⟩⟩) ?_))
  intro r1 h2 hp
  obtain ⟨rfl, w⟩ := hp
  refine r_if_eq C 16 dX8_move_5 (by decide) (fun c3 => ?_) (fun c3 => ?_)
  · have w := w.1 c3
    exact r_sub [0, 1, 2, 3, 4] rfl (t_X8_move_16 C hn hQ _ w)
  · have w := w.2 c3
    refine r_aload_n C 0 dX8_move_8 rfl (r_iload_n C 2 dX8_move_9 rfl (r_goi (r_runV C dX8_move_10 (m_X8_isShape hu_s w) mt_X8_isShape tw1261 tw1263 tw41 gcl_9.1 hu_s rfl (stk := [.ref a]) rfl (Nat.le_of_ble_eq_true rfl) ⟨rfl, rfl, ⟨Nat.le_of_ble_eq_true rfl, Nat.le_of_ble_eq_true rfl⟩, ⟨Nat.le_of_ble_eq_true rfl, Nat.le_of_ble_eq_true rfl⟩⟩) ?_))
    intro r4 h5 hp
    obtain ⟨rfl, w⟩ := hp
    refine r_if_ne C 20 dX8_move_13 (by decide) (fun c6 => ?_) (fun c6 => ?_)
    · have w := w.1 c6
      refine r_iload_n C 3 dX8_move_20 rfl (r_bipush C (v := (-24)) dX8_move_21 (by decide) (r_bipush C (v := 24) dX8_move_23 (by decide) (r_goi (r_runS C dX8_move_25 (m_X8_isIn w) mt_X8_isIn tw1215 tw1216 rfl (stk := [.ref a]) rfl (Nat.le_of_ble_eq_true rfl) ⟨rfl, rfl, ⟨Nat.le_of_ble_eq_true rfl, Nat.le_of_ble_eq_true rfl⟩, ⟨Nat.le_of_ble_eq_true rfl, Nat.le_of_ble_eq_true rfl⟩⟩) ?_)))
      intro r7 h8 hp
      obtain ⟨rfl, w⟩ := hp
      refine r_if_eq C 47 dX8_move_28 (by decide) (fun c9 => ?_) (fun c9 => ?_)
      · have w := w.1 c9
        exact r_sub [0, 1, 2, 3, 4] rfl (t_X8_move_47 C hn hQ _ w)
      · have w := w.2 c9
        refine r_iload C 4 dX8_move_31 rfl (r_bipush C (v := (-16)) dX8_move_33 (by decide) (r_bipush C (v := 16) dX8_move_35 (by decide) (r_goi (r_runS C dX8_move_37 (m_X8_isIn w) mt_X8_isIn tw1215 tw1216 rfl (stk := [.ref a]) rfl (Nat.le_of_ble_eq_true rfl) ⟨rfl, rfl, ⟨Nat.le_of_ble_eq_true rfl, Nat.le_of_ble_eq_true rfl⟩, ⟨Nat.le_of_ble_eq_true rfl, Nat.le_of_ble_eq_true rfl⟩⟩) ?_)))
        intro r10 h11 hp
        obtain ⟨rfl, w⟩ := hp
        refine r_if_eq C 47 dX8_move_40 (by decide) (fun c12 => ?_) (fun c12 => ?_)
        · have w := w.1 c12
          exact r_sub [0, 1, 2, 3, 4] rfl (t_X8_move_47 C hn hQ _ w)
        · have w := w.2 c12
          exact r_iconst C (v := 0) dX8_move_43 (by decide) (r_goto C 48 dX8_move_44 (by decide) (r_sub [0, 1, 2, 3, 4] rfl (t_X8_move_48 C hn hQ _ _ w)))
    · have w := w.2 c6
      exact r_sub [0, 1, 2, 3, 4] rfl (t_X8_move_16 C hn hQ _ w)
def rm_X8_paint : Room := { frames := 5, cells := 0, slots := 0, locals := 112 }
theorem mt_X8_paint : gMt yX8_paint cX8_paint 5 (some .int) 3 := ⟨tw1276, tw64, by decide +kernel, by decide +kernel, by decide +kernel⟩
def wp_X8_paint_61 (p0 : Int32) (p1 : Int32) (p2 : Int32) (post : Int32 → FO → Prop) (y1 : Int32) (o : FO) : Prop :=
∀ o16, o16 = sI o 0 y1 →
(((fI o16 0) ≤ 0 → vp_in p1 40 ∧
wp_X8_tells p0 2 p1 p2 0 o16 (fun o20 =>
post (fA o16 23 p1.toNatClampNeg) o20)) ∧ (¬ (fI o16 0) ≤ 0 → post 0 o16))
def wp_X8_paint_35 (p0 : Int32) (p1 : Int32) (p2 : Int32) (post : Int32 → FO → Prop) (y1 : Int32) (o : FO) : Prop :=
∀ o10, o10 = sI o 0 y1 →
(((fI o10 0) ≤ 0 → wp_X8_canName p1 o10 (fun r13 =>
((r13 = 0 → wp_X8_paint_61 p0 p1 p2 post 3 o10) ∧ (¬ r13 = 0 → wp_X8_paint_61 p0 p1 p2 post 0 o10)))) ∧ (¬ (fI o10 0) ≤ 0 → post 0 o10))
def wp_X8_paint_16 (p0 : Int32) (p1 : Int32) (p2 : Int32) (post : Int32 → FO → Prop)  (o : FO) : Prop :=
wp_X8_paint_35 p0 p1 p2 post 1 o
def wp_X8_paint (p0 : Int32) (p1 : Int32) (p2 : Int32) (o : FO) (post : Int32 → FO → Prop) : Prop :=
wp_X8_isHand p0 (fun r1 =>
((r1 = 0 → wp_X8_paint_16 p0 p1 p2 post o) ∧ (¬ r1 = 0 → wp_X8_isShape p1 o (fun r4 =>
((¬ r4 = 0 → wp_X8_isIn p2 1 9 (fun r7 =>
((r7 = 0 → wp_X8_paint_35 p0 p1 p2 post 2 o) ∧ (¬ r7 = 0 → wp_X8_paint_35 p0 p1 p2 post 0 o)))) ∧ (r4 = 0 → wp_X8_paint_16 p0 p1 p2 post o))))))
set_option maxHeartbeats 4000000 in
set_option maxRecDepth 100000 in
theorem t_X8_paint_61 {X : gCx} {a : Nat}  {p0 : Int32} {p1 : Int32} {p2 : Int32} {post : Int32 → FO → Prop} {g : GH}   (C : gC X cX8_paint RX8 (some .int) rm_X8_paint) (hn : xn X = 5) (hQ : gRet X (gQi (xY X) (fun r9 g9 => ∃ o9, g9 = hu g a (9, o9) ∧ post r9 o9)) 0 0 ∨ gRex X (gQi (xY X) (fun r9 g9 => ∃ o9, g9 = hu g a (9, o9) ∧ post r9 o9)) (fun _ _ => False) 0 0)    : ∀ (y1 : Int32) (o : FO), wp_X8_paint_61 p0 p1 p2 post y1 o → gX X 0 0 61 [(0, .ref a), (1, .int p0), (2, .int p1), (3, .int p2)] [.int y1, .ref a] (hu g a (9, o)) := by
  intro y1 o w
  unfold wp_X8_paint_61 at w
  obtain ⟨o16, e17⟩ : ∃ z, z = sI o 0 y1 := ⟨_, rfl⟩
  have w := w o16 e17
  refine rp_X8_X8_thrown C dX8_paint_61 hu_s e17 hu_hu.symm (r_aload_n C 0 dX8_paint_64 rfl (rg_X8_X8_thrown C dX8_paint_65 hu_s (r_if_le C 73 dX8_paint_68 (by decide) (fun c18 => ?_) (fun c18 => ?_))))
  · have w := w.1 c18
    obtain ⟨i19, w⟩ := w
    refine r_aload_n C 0 dX8_paint_73 rfl (rg_X8_X8_colour C dX8_paint_74 hu_s (r_iload_n C 2 dX8_paint_77 rfl (r_iald (ci := 9) (k := 23) C dX8_paint_78 rfl rfl hu_s i19 (r_istore C dX8_paint_79 (nlt hn (by decide)) rfl (r_aload_n C 1 dX8_paint_81 rfl (r_iload_n C 2 dX8_paint_82 rfl (r_iconst C (v := 2) dX8_paint_83 (by decide) (r_iload_n C 3 dX8_paint_84 rfl (r_iload_n C 4 dX8_paint_85 rfl (r_iconst C (v := 0) dX8_paint_86 (by decide) (r_gov (r_runV C dX8_paint_87 (m_X8_tells hu_s w) mt_X8_tells tw1221 tw1223 tw32 gcl_9.1 hu_s rfl (stk := []) rfl (Nat.le_of_ble_eq_true rfl) ⟨rfl, rfl, ⟨Nat.le_of_ble_eq_true rfl, Nat.le_of_ble_eq_true rfl⟩, ⟨Nat.le_of_ble_eq_true rfl, Nat.le_of_ble_eq_true rfl⟩⟩) ?_)))))))))))
    intro  h21 hp
    obtain ⟨o20, rfl, w⟩ := hp
    refine gX_eq hu_hu ?_
    exact r_iload C 0 dX8_paint_90 rfl (r_iret C hQ dX8_paint_92 rfl (vp_nar_int _) ⟨Nat.le_of_ble_eq_true rfl, Nat.le_of_ble_eq_true rfl⟩ ⟨_, rfl, w⟩)
  · have w := w.2 c18
    exact r_iconst C (v := 0) dX8_paint_71 (by decide) (r_iret C hQ dX8_paint_72 rfl (vp_nar_int _) ⟨Nat.le_of_ble_eq_true rfl, Nat.le_of_ble_eq_true rfl⟩ ⟨_, rfl, w⟩)
set_option maxHeartbeats 4000000 in
set_option maxRecDepth 100000 in
theorem t_X8_paint_35 {X : gCx} {a : Nat}  {p0 : Int32} {p1 : Int32} {p2 : Int32} {post : Int32 → FO → Prop} {g : GH}   (C : gC X cX8_paint RX8 (some .int) rm_X8_paint) (hn : xn X = 5) (hQ : gRet X (gQi (xY X) (fun r9 g9 => ∃ o9, g9 = hu g a (9, o9) ∧ post r9 o9)) 0 0 ∨ gRex X (gQi (xY X) (fun r9 g9 => ∃ o9, g9 = hu g a (9, o9) ∧ post r9 o9)) (fun _ _ => False) 0 0)    : ∀ (y1 : Int32) (o : FO), wp_X8_paint_35 p0 p1 p2 post y1 o → gX X 0 0 35 [(0, .ref a), (1, .int p0), (2, .int p1), (3, .int p2)] [.int y1, .ref a] (hu g a (9, o)) := by
  intro y1 o w
  unfold wp_X8_paint_35 at w
  obtain ⟨o10, e11⟩ : ∃ z, z = sI o 0 y1 := ⟨_, rfl⟩
  have w := w o10 e11
  refine rp_X8_X8_thrown C dX8_paint_35 hu_s e11 hu_hu.symm (r_aload_n C 0 dX8_paint_38 rfl (rg_X8_X8_thrown C dX8_paint_39 hu_s (r_if_le C 47 dX8_paint_42 (by decide) (fun c12 => ?_) (fun c12 => ?_))))
  · have w := w.1 c12
    refine r_aload_n C 0 dX8_paint_47 rfl (r_aload_n C 0 dX8_paint_48 rfl (r_iload_n C 2 dX8_paint_49 rfl (r_goi (r_runV C dX8_paint_50 (m_X8_canName hu_s w) mt_X8_canName tw1265 tw1267 tw42 gcl_9.1 hu_s rfl (stk := [.ref a]) rfl (Nat.le_of_ble_eq_true rfl) ⟨rfl, rfl, ⟨Nat.le_of_ble_eq_true rfl, Nat.le_of_ble_eq_true rfl⟩, ⟨Nat.le_of_ble_eq_true rfl, Nat.le_of_ble_eq_true rfl⟩⟩) ?_)))
    intro r13 h14 hp
    obtain ⟨rfl, w⟩ := hp
    refine r_if_eq C 60 dX8_paint_53 (by decide) (fun c15 => ?_) (fun c15 => ?_)
    · have w := w.1 c15
      exact r_iconst C (v := 3) dX8_paint_60 (by decide) (r_sub [0, 1, 2, 3] rfl (t_X8_paint_61 C hn hQ _ _ w))
    · have w := w.2 c15
      exact r_iconst C (v := 0) dX8_paint_56 (by decide) (r_goto C 61 dX8_paint_57 (by decide) (r_sub [0, 1, 2, 3] rfl (t_X8_paint_61 C hn hQ _ _ w)))
  · have w := w.2 c12
    exact r_iconst C (v := 0) dX8_paint_45 (by decide) (r_iret C hQ dX8_paint_46 rfl (vp_nar_int _) ⟨Nat.le_of_ble_eq_true rfl, Nat.le_of_ble_eq_true rfl⟩ ⟨_, rfl, w⟩)
set_option maxHeartbeats 4000000 in
set_option maxRecDepth 100000 in
theorem t_X8_paint_16 {X : gCx} {a : Nat}  {p0 : Int32} {p1 : Int32} {p2 : Int32} {post : Int32 → FO → Prop} {g : GH}   (C : gC X cX8_paint RX8 (some .int) rm_X8_paint) (hn : xn X = 5) (hQ : gRet X (gQi (xY X) (fun r9 g9 => ∃ o9, g9 = hu g a (9, o9) ∧ post r9 o9)) 0 0 ∨ gRex X (gQi (xY X) (fun r9 g9 => ∃ o9, g9 = hu g a (9, o9) ∧ post r9 o9)) (fun _ _ => False) 0 0)    : ∀ (o : FO), wp_X8_paint_16 p0 p1 p2 post o → gX X 0 0 16 [(0, .ref a), (1, .int p0), (2, .int p1), (3, .int p2)] [.ref a] (hu g a (9, o)) := by
  intro o w
  unfold wp_X8_paint_16 at w
  exact r_iconst C (v := 1) dX8_paint_16 (by decide) (r_goto C 35 dX8_paint_17 (by decide) (r_sub [0, 1, 2, 3] rfl (t_X8_paint_35 C hn hQ _ _ w)))
set_option maxHeartbeats 4000000 in
set_option maxRecDepth 100000 in
theorem m_X8_paint {Y : gWx} {a : Nat}  {p0 : Int32} {p1 : Int32} {p2 : Int32} {post : Int32 → FO → Prop} {g : GH}  {o : FO} (hg : g a = some (9, o))    (w : wp_X8_paint p0 p1 p2 o post) : gMet Y yX8_paint cX8_paint 5 (some .int) rm_X8_paint [.ref a, .int p0, .int p1, .int p2] g (gQi Y (fun r9 g9 => ∃ o9, g9 = hu g a (9, o9) ∧ post r9 o9)) 0 0 := by
  refine gm_of rfl (Nat.le_of_ble_eq_true rfl) ?_
  intro X hY hn C hnm hQ
  subst hY
  have hQ : gRet X (gQi (xY X) (fun r9 g9 => ∃ o9, g9 = hu g a (9, o9) ∧ post r9 o9)) 0 0 ∨ gRex X (gQi (xY X) (fun r9 g9 => ∃ o9, g9 = hu g a (9, o9) ∧ post r9 o9)) (fun _ _ => False) 0 0 := Or.inl hQ
  have C : gC X cX8_paint RX8 (some .int) rm_X8_paint := C
  refine gX_eq (hu_id hg).symm ?_
  show gX X 0 0 0 [(0, .ref a), (1, .int p0), (2, .int p1), (3, .int p2)] [] (hu g a (9, o))
  unfold wp_X8_paint at w
  refine r_aload_n C 0 dX8_paint_0 rfl (r_iload_n C 1 dX8_paint_1 rfl (r_goi (r_runS C dX8_paint_2 (m_X8_isHand w) mt_X8_isHand tw1218 tw1219 rfl (stk := [.ref a]) rfl (Nat.le_of_ble_eq_true rfl) ⟨rfl, rfl, ⟨Nat.le_of_ble_eq_true rfl, Nat.le_of_ble_eq_true rfl⟩, ⟨Nat.le_of_ble_eq_true rfl, Nat.le_of_ble_eq_true rfl⟩⟩) ?_))
  intro r1 h2 hp
  obtain ⟨rfl, w⟩ := hp
  refine r_if_eq C 16 dX8_paint_5 (by decide) (fun c3 => ?_) (fun c3 => ?_)
  · have w := w.1 c3
    exact r_sub [0, 1, 2, 3] rfl (t_X8_paint_16 C hn hQ _ w)
  · have w := w.2 c3
    refine r_aload_n C 0 dX8_paint_8 rfl (r_iload_n C 2 dX8_paint_9 rfl (r_goi (r_runV C dX8_paint_10 (m_X8_isShape hu_s w) mt_X8_isShape tw1261 tw1263 tw41 gcl_9.1 hu_s rfl (stk := [.ref a]) rfl (Nat.le_of_ble_eq_true rfl) ⟨rfl, rfl, ⟨Nat.le_of_ble_eq_true rfl, Nat.le_of_ble_eq_true rfl⟩, ⟨Nat.le_of_ble_eq_true rfl, Nat.le_of_ble_eq_true rfl⟩⟩) ?_))
    intro r4 h5 hp
    obtain ⟨rfl, w⟩ := hp
    refine r_if_ne C 20 dX8_paint_13 (by decide) (fun c6 => ?_) (fun c6 => ?_)
    · have w := w.1 c6
      refine r_iload_n C 3 dX8_paint_20 rfl (r_iconst C (v := 1) dX8_paint_21 (by decide) (r_bipush C (v := 9) dX8_paint_22 (by decide) (r_goi (r_runS C dX8_paint_24 (m_X8_isIn w) mt_X8_isIn tw1215 tw1216 rfl (stk := [.ref a]) rfl (Nat.le_of_ble_eq_true rfl) ⟨rfl, rfl, ⟨Nat.le_of_ble_eq_true rfl, Nat.le_of_ble_eq_true rfl⟩, ⟨Nat.le_of_ble_eq_true rfl, Nat.le_of_ble_eq_true rfl⟩⟩) ?_)))
      intro r7 h8 hp
      obtain ⟨rfl, w⟩ := hp
      refine r_if_eq C 34 dX8_paint_27 (by decide) (fun c9 => ?_) (fun c9 => ?_)
      · have w := w.1 c9
        exact r_iconst C (v := 2) dX8_paint_34 (by decide) (r_sub [0, 1, 2, 3] rfl (t_X8_paint_35 C hn hQ _ _ w))
      · have w := w.2 c9
        exact r_iconst C (v := 0) dX8_paint_30 (by decide) (r_goto C 35 dX8_paint_31 (by decide) (r_sub [0, 1, 2, 3] rfl (t_X8_paint_35 C hn hQ _ _ w)))
    · have w := w.2 c6
      exact r_sub [0, 1, 2, 3] rfl (t_X8_paint_16 C hn hQ _ w)
def rm_X8_names : Room := { frames := 2, cells := 0, slots := 0, locals := 43 }
theorem mt_X8_names : gMt yX8_names cX8_names 3 (some .int) 2 := ⟨tw1284, tw64, by decide +kernel, by decide +kernel, by decide +kernel⟩
def wp_X8_names (p0 : Int32) (p1 : Int32) (o : FO)  (post : Int32 → Prop) : Prop :=
wp_X8_isHand p0 (fun r1 =>
((r1 = 0 → post 1) ∧ (¬ r1 = 0 → wp_X8_isShape p1 o (fun r4 =>
((¬ r4 = 0 → wp_X8_canName p1 o (fun r7 =>
((r7 = 0 → post 2) ∧ (¬ r7 = 0 → post 0)))) ∧ (r4 = 0 → post 1))))))
set_option maxHeartbeats 4000000 in
set_option maxRecDepth 100000 in
theorem m_X8_names {Y : gWx} {a : Nat}  {p0 : Int32} {p1 : Int32} {post : Int32 → Prop} {g : GH} {o : FO} (hg : g a = some (9, o))    (w : wp_X8_names p0 p1 o post) : gMet Y yX8_names cX8_names 3 (some .int) rm_X8_names [.ref a, .int p0, .int p1] g (gQi Y (fun r9 g9 => g9 = g ∧ post r9)) 0 0 := by
  refine gm_of rfl (Nat.le_of_ble_eq_true rfl) ?_
  intro X hY hn C hnm hQ
  subst hY
  have hQ : gRet X (gQi (xY X) (fun r9 g9 => g9 = g ∧ post r9)) 0 0 ∨ gRex X (gQi (xY X) (fun r9 g9 => g9 = g ∧ post r9)) (fun _ _ => False) 0 0 := Or.inl hQ
  have C : gC X cX8_names RX8 (some .int) rm_X8_names := C
  show gX X 0 0 0 [(0, .ref a), (1, .int p0), (2, .int p1)] [] g
  unfold wp_X8_names at w
  refine r_iload_n C 1 dX8_names_0 rfl (r_goi (r_runS C dX8_names_1 (m_X8_isHand w) mt_X8_isHand tw1218 tw1219 rfl (stk := []) rfl (Nat.le_of_ble_eq_true rfl) ⟨rfl, rfl, ⟨Nat.le_of_ble_eq_true rfl, Nat.le_of_ble_eq_true rfl⟩, ⟨Nat.le_of_ble_eq_true rfl, Nat.le_of_ble_eq_true rfl⟩⟩) ?_)
  intro r1 h2 hp
  obtain ⟨rfl, w⟩ := hp
  refine r_if_eq C 15 dX8_names_4 (by decide) (fun c3 => ?_) (fun c3 => ?_)
  · have w := w.1 c3
    exact r_iconst C (v := 1) dX8_names_15 (by decide) (r_iret C hQ dX8_names_16 rfl (vp_nar_int _) ⟨Nat.le_of_ble_eq_true rfl, Nat.le_of_ble_eq_true rfl⟩ ⟨rfl, w⟩)
  · have w := w.2 c3
    refine r_aload_n C 0 dX8_names_7 rfl (r_iload_n C 2 dX8_names_8 rfl (r_goi (r_runV C dX8_names_9 (m_X8_isShape hg w) mt_X8_isShape tw1261 tw1263 tw41 gcl_9.1 hg rfl (stk := []) rfl (Nat.le_of_ble_eq_true rfl) ⟨rfl, rfl, ⟨Nat.le_of_ble_eq_true rfl, Nat.le_of_ble_eq_true rfl⟩, ⟨Nat.le_of_ble_eq_true rfl, Nat.le_of_ble_eq_true rfl⟩⟩) ?_))
    intro r4 h5 hp
    obtain ⟨rfl, w⟩ := hp
    refine r_if_ne C 17 dX8_names_12 (by decide) (fun c6 => ?_) (fun c6 => ?_)
    · have w := w.1 c6
      refine r_aload_n C 0 dX8_names_17 rfl (r_iload_n C 2 dX8_names_18 rfl (r_goi (r_runV C dX8_names_19 (m_X8_canName hg w) mt_X8_canName tw1265 tw1267 tw42 gcl_9.1 hg rfl (stk := []) rfl (Nat.le_of_ble_eq_true rfl) ⟨rfl, rfl, ⟨Nat.le_of_ble_eq_true rfl, Nat.le_of_ble_eq_true rfl⟩, ⟨Nat.le_of_ble_eq_true rfl, Nat.le_of_ble_eq_true rfl⟩⟩) ?_))
      intro r7 h8 hp
      obtain ⟨rfl, w⟩ := hp
      refine r_if_eq C 29 dX8_names_22 (by decide) (fun c9 => ?_) (fun c9 => ?_)
      · have w := w.1 c9
        exact r_iconst C (v := 2) dX8_names_29 (by decide) (r_iret C hQ dX8_names_30 rfl (vp_nar_int _) ⟨Nat.le_of_ble_eq_true rfl, Nat.le_of_ble_eq_true rfl⟩ ⟨rfl, w⟩)
      · have w := w.2 c9
        exact r_iconst C (v := 0) dX8_names_25 (by decide) (r_goto C 30 dX8_names_26 (by decide) (r_iret C hQ dX8_names_30 rfl (vp_nar_int _) ⟨Nat.le_of_ble_eq_true rfl, Nat.le_of_ble_eq_true rfl⟩ ⟨rfl, w⟩))
    · have w := w.2 c6
      exact r_iconst C (v := 1) dX8_names_15 (by decide) (r_iret C hQ dX8_names_16 rfl (vp_nar_int _) ⟨Nat.le_of_ble_eq_true rfl, Nat.le_of_ble_eq_true rfl⟩ ⟨rfl, w⟩)
def rm_X8_layer : Room := { frames := 5, cells := 0, slots := 0, locals := 112 }
theorem mt_X8_layer : gMt yX8_layer cX8_layer 4 (some .int) 3 := ⟨tw1280, tw64, by decide +kernel, by decide +kernel, by decide +kernel⟩
def wp_X8_layer_30 (p0 : Int32) (p1 : Int32) (p2 : Int32) (post : Int32 → FO → Prop) (y1 : Int32) (y2 : Int32) (o : FO) : Prop :=
wp_X8_tells y1 y2 p1 0 0 o (fun o7 =>
post (fI o7 18) o7)
def wp_X8_layer (p0 : Int32) (p1 : Int32) (p2 : Int32) (o : FO) (post : Int32 → FO → Prop) : Prop :=
wp_X8_names p0 p1 o (fun r1 =>
∀ o3, o3 = sI o 0 r1 →
(((fI o3 0) ≤ 0 → ((p2 = 0 → wp_X8_layer_30 p0 p1 p2 post p0 4 o3) ∧ (¬ p2 = 0 → wp_X8_layer_30 p0 p1 p2 post p0 3 o3))) ∧ (¬ (fI o3 0) ≤ 0 → post 0 o3)))
set_option maxHeartbeats 4000000 in
set_option maxRecDepth 100000 in
theorem t_X8_layer_30 {X : gCx} {a : Nat}  {p0 : Int32} {p1 : Int32} {p2 : Int32} {post : Int32 → FO → Prop} {g : GH}   (C : gC X cX8_layer RX8 (some .int) rm_X8_layer) (hn : xn X = 4) (hQ : gRet X (gQi (xY X) (fun r9 g9 => ∃ o9, g9 = hu g a (9, o9) ∧ post r9 o9)) 0 0 ∨ gRex X (gQi (xY X) (fun r9 g9 => ∃ o9, g9 = hu g a (9, o9) ∧ post r9 o9)) (fun _ _ => False) 0 0)    : ∀ (y1 : Int32) (y2 : Int32) (o : FO), wp_X8_layer_30 p0 p1 p2 post y1 y2 o → gX X 0 0 30 [(0, .ref a), (2, .int p1)] [.int y2, .int y1, .ref a] (hu g a (9, o)) := by
  intro y1 y2 o w
  unfold wp_X8_layer_30 at w
  refine r_iload_n C 1 dX8_layer_30 rfl (r_iconst C (v := 0) dX8_layer_31 (by decide) (r_iconst C (v := 0) dX8_layer_32 (by decide) (r_gov (r_runV C dX8_layer_33 (m_X8_tells hu_s w) mt_X8_tells tw1221 tw1223 tw32 gcl_9.1 hu_s rfl (stk := []) rfl (Nat.le_of_ble_eq_true rfl) ⟨rfl, rfl, ⟨Nat.le_of_ble_eq_true rfl, Nat.le_of_ble_eq_true rfl⟩, ⟨Nat.le_of_ble_eq_true rfl, Nat.le_of_ble_eq_true rfl⟩⟩) ?_)))
  intro  h8 hp
  obtain ⟨o7, rfl, w⟩ := hp
  refine gX_eq hu_hu ?_
  exact r_aload_n C 0 dX8_layer_36 rfl (rg_X8_X8_many C dX8_layer_37 hu_s (r_iret C hQ dX8_layer_40 rfl (vp_nar_int _) ⟨Nat.le_of_ble_eq_true rfl, Nat.le_of_ble_eq_true rfl⟩ ⟨_, rfl, w⟩))
set_option maxHeartbeats 4000000 in
set_option maxRecDepth 100000 in
theorem m_X8_layer {Y : gWx} {a : Nat}  {p0 : Int32} {p1 : Int32} {p2 : Int32} {post : Int32 → FO → Prop} {g : GH}  {o : FO} (hg : g a = some (9, o))    (w : wp_X8_layer p0 p1 p2 o post) : gMet Y yX8_layer cX8_layer 4 (some .int) rm_X8_layer [.ref a, .int p0, .int p1, .int p2] g (gQi Y (fun r9 g9 => ∃ o9, g9 = hu g a (9, o9) ∧ post r9 o9)) 0 0 := by
  refine gm_of rfl (Nat.le_of_ble_eq_true rfl) ?_
  intro X hY hn C hnm hQ
  subst hY
  have hQ : gRet X (gQi (xY X) (fun r9 g9 => ∃ o9, g9 = hu g a (9, o9) ∧ post r9 o9)) 0 0 ∨ gRex X (gQi (xY X) (fun r9 g9 => ∃ o9, g9 = hu g a (9, o9) ∧ post r9 o9)) (fun _ _ => False) 0 0 := Or.inl hQ
  have C : gC X cX8_layer RX8 (some .int) rm_X8_layer := C
  refine gX_eq (hu_id hg).symm ?_
  show gX X 0 0 0 [(0, .ref a), (1, .int p0), (2, .int p1), (3, .int p2)] [] (hu g a (9, o))
  unfold wp_X8_layer at w
  refine r_aload_n C 0 dX8_layer_0 rfl (r_aload_n C 0 dX8_layer_1 rfl (r_iload_n C 1 dX8_layer_2 rfl (r_iload_n C 2 dX8_layer_3 rfl (r_goi (r_runV C dX8_layer_4 (m_X8_names hu_s w) mt_X8_names tw1281 tw1283 tw44 gcl_9.1 hu_s rfl (stk := [.ref a]) rfl (Nat.le_of_ble_eq_true rfl) ⟨rfl, rfl, ⟨Nat.le_of_ble_eq_true rfl, Nat.le_of_ble_eq_true rfl⟩, ⟨Nat.le_of_ble_eq_true rfl, Nat.le_of_ble_eq_true rfl⟩⟩) ?_))))
  intro r1 h2 hp
  obtain ⟨rfl, w⟩ := hp
  obtain ⟨o3, e4⟩ : ∃ z, z = sI o 0 r1 := ⟨_, rfl⟩
  have w := w o3 e4
  refine rp_X8_X8_thrown C dX8_layer_7 hu_s e4 hu_hu.symm (r_aload_n C 0 dX8_layer_10 rfl (rg_X8_X8_thrown C dX8_layer_11 hu_s (r_if_le C 19 dX8_layer_14 (by decide) (fun c5 => ?_) (fun c5 => ?_))))
  · have w := w.1 c5
    refine r_aload_n C 0 dX8_layer_19 rfl (r_iload_n C 1 dX8_layer_20 rfl (r_iload_n C 3 dX8_layer_21 rfl (r_if_eq C 29 dX8_layer_22 (by decide) (fun c6 => ?_) (fun c6 => ?_))))
    · have w := w.1 c6
      exact r_iconst C (v := 4) dX8_layer_29 (by decide) (r_sub [0, 2] rfl (t_X8_layer_30 C hn hQ _ _ _ w))
    · have w := w.2 c6
      exact r_iconst C (v := 3) dX8_layer_25 (by decide) (r_goto C 30 dX8_layer_26 (by decide) (r_sub [0, 2] rfl (t_X8_layer_30 C hn hQ _ _ _ w)))
  · have w := w.2 c5
    exact r_iconst C (v := 0) dX8_layer_17 (by decide) (r_iret C hQ dX8_layer_18 rfl (vp_nar_int _) ⟨Nat.le_of_ble_eq_true rfl, Nat.le_of_ble_eq_true rfl⟩ ⟨_, rfl, w⟩)
def rm_X8_join : Room := { frames := 5, cells := 0, slots := 0, locals := 112 }
theorem mt_X8_join : gMt yX8_join cX8_join 4 (some .int) 3 := ⟨tw1288, tw64, by decide +kernel, by decide +kernel, by decide +kernel⟩
def wp_X8_join_72 (p0 : Int32) (p1 : Int32) (p2 : Int32) (post : Int32 → FO → Prop) (y1 : Int32) (o : FO) : Prop :=
∀ o20, o20 = sI o 0 y1 →
(((fI o20 0) ≤ 0 → wp_X8_tells p0 5 p1 p2 0 o20 (fun o23 =>
wp_X8_inGroup p1 o23 (fun r25 =>
post r25 o23))) ∧ (¬ (fI o20 0) ≤ 0 → post 0 o20))
def wp_X8_join_71 (p0 : Int32) (p1 : Int32) (p2 : Int32) (post : Int32 → FO → Prop)  (o : FO) : Prop :=
wp_X8_join_72 p0 p1 p2 post 3 o
def wp_X8_join_38 (p0 : Int32) (p1 : Int32) (p2 : Int32) (post : Int32 → FO → Prop) (y1 : Int32) (o : FO) : Prop :=
∀ o11, o11 = sI o 0 y1 →
(((fI o11 0) ≤ 0 → wp_X8_canName p1 o11 (fun r14 =>
((r14 = 0 → wp_X8_join_71 p0 p1 p2 post o11) ∧ (¬ r14 = 0 → wp_X8_canName p2 o11 (fun r17 =>
((r17 = 0 → wp_X8_join_71 p0 p1 p2 post o11) ∧ (¬ r17 = 0 → wp_X8_join_72 p0 p1 p2 post 0 o11))))))) ∧ (¬ (fI o11 0) ≤ 0 → post 0 o11))
def wp_X8_join_24 (p0 : Int32) (p1 : Int32) (p2 : Int32) (post : Int32 → FO → Prop)  (o : FO) : Prop :=
wp_X8_join_38 p0 p1 p2 post 1 o
def wp_X8_join (p0 : Int32) (p1 : Int32) (p2 : Int32) (o : FO) (post : Int32 → FO → Prop) : Prop :=
wp_X8_isHand p0 (fun r1 =>
((r1 = 0 → wp_X8_join_24 p0 p1 p2 post o) ∧ (¬ r1 = 0 → wp_X8_isShape p1 o (fun r4 =>
((r4 = 0 → wp_X8_join_24 p0 p1 p2 post o) ∧ (¬ r4 = 0 → wp_X8_isShape p2 o (fun r7 =>
((¬ r7 = 0 → ((¬ p1 = p2 → wp_X8_join_38 p0 p1 p2 post 0 o) ∧ (p1 = p2 → wp_X8_join_38 p0 p1 p2 post 2 o))) ∧ (r7 = 0 → wp_X8_join_24 p0 p1 p2 post o)))))))))
set_option maxHeartbeats 4000000 in
set_option maxRecDepth 100000 in
theorem t_X8_join_72 {X : gCx} {a : Nat}  {p0 : Int32} {p1 : Int32} {p2 : Int32} {post : Int32 → FO → Prop} {g : GH}   (C : gC X cX8_join RX8 (some .int) rm_X8_join) (hn : xn X = 4) (hQ : gRet X (gQi (xY X) (fun r9 g9 => ∃ o9, g9 = hu g a (9, o9) ∧ post r9 o9)) 0 0 ∨ gRex X (gQi (xY X) (fun r9 g9 => ∃ o9, g9 = hu g a (9, o9) ∧ post r9 o9)) (fun _ _ => False) 0 0)    : ∀ (y1 : Int32) (o : FO), wp_X8_join_72 p0 p1 p2 post y1 o → gX X 0 0 72 [(0, .ref a), (1, .int p0), (2, .int p1), (3, .int p2)] [.int y1, .ref a] (hu g a (9, o)) := by
  intro y1 o w
  unfold wp_X8_join_72 at w
  obtain ⟨o20, e21⟩ : ∃ z, z = sI o 0 y1 := ⟨_, rfl⟩
  have w := w o20 e21
  refine rp_X8_X8_thrown C dX8_join_72 hu_s e21 hu_hu.symm (r_aload_n C 0 dX8_join_75 rfl (rg_X8_X8_thrown C dX8_join_76 hu_s (r_if_le C 84 dX8_join_79 (by decide) (fun c22 => ?_) (fun c22 => ?_))))
  · have w := w.1 c22
    refine r_aload_n C 0 dX8_join_84 rfl (r_iload_n C 1 dX8_join_85 rfl (r_iconst C (v := 5) dX8_join_86 (by decide) (r_iload_n C 2 dX8_join_87 rfl (r_iload_n C 3 dX8_join_88 rfl (r_iconst C (v := 0) dX8_join_89 (by decide) (r_gov (r_runV C dX8_join_90 (m_X8_tells hu_s w) mt_X8_tells tw1221 tw1223 tw32 gcl_9.1 hu_s rfl (stk := []) rfl (Nat.le_of_ble_eq_true rfl) ⟨rfl, rfl, ⟨Nat.le_of_ble_eq_true rfl, Nat.le_of_ble_eq_true rfl⟩, ⟨Nat.le_of_ble_eq_true rfl, Nat.le_of_ble_eq_true rfl⟩⟩) ?_))))))
    intro  h24 hp
    obtain ⟨o23, rfl, w⟩ := hp
    refine gX_eq hu_hu ?_
    refine r_aload_n C 0 dX8_join_93 rfl (r_iload_n C 2 dX8_join_94 rfl (r_goi (r_runV C dX8_join_95 (m_X8_inGroup hu_s w) mt_X8_inGroup tw1269 tw1271 tw43 gcl_9.1 hu_s rfl (stk := []) rfl (Nat.le_of_ble_eq_true rfl) ⟨rfl, rfl, ⟨Nat.le_of_ble_eq_true rfl, Nat.le_of_ble_eq_true rfl⟩, ⟨Nat.le_of_ble_eq_true rfl, Nat.le_of_ble_eq_true rfl⟩⟩) ?_))
    intro r25 h26 hp
    obtain ⟨rfl, w⟩ := hp
    exact r_iret C hQ dX8_join_98 rfl (vp_nar_int _) ⟨Nat.le_of_ble_eq_true rfl, Nat.le_of_ble_eq_true rfl⟩ ⟨_, rfl, w⟩
  · have w := w.2 c22
    exact r_iconst C (v := 0) dX8_join_82 (by decide) (r_iret C hQ dX8_join_83 rfl (vp_nar_int _) ⟨Nat.le_of_ble_eq_true rfl, Nat.le_of_ble_eq_true rfl⟩ ⟨_, rfl, w⟩)
set_option maxHeartbeats 4000000 in
set_option maxRecDepth 100000 in
theorem t_X8_join_71 {X : gCx} {a : Nat}  {p0 : Int32} {p1 : Int32} {p2 : Int32} {post : Int32 → FO → Prop} {g : GH}   (C : gC X cX8_join RX8 (some .int) rm_X8_join) (hn : xn X = 4) (hQ : gRet X (gQi (xY X) (fun r9 g9 => ∃ o9, g9 = hu g a (9, o9) ∧ post r9 o9)) 0 0 ∨ gRex X (gQi (xY X) (fun r9 g9 => ∃ o9, g9 = hu g a (9, o9) ∧ post r9 o9)) (fun _ _ => False) 0 0)    : ∀ (o : FO), wp_X8_join_71 p0 p1 p2 post o → gX X 0 0 71 [(0, .ref a), (1, .int p0), (2, .int p1), (3, .int p2)] [.ref a] (hu g a (9, o)) := by
  intro o w
  unfold wp_X8_join_71 at w
  exact r_iconst C (v := 3) dX8_join_71 (by decide) (r_sub [0, 1, 2, 3] rfl (t_X8_join_72 C hn hQ _ _ w))
set_option maxHeartbeats 4000000 in
set_option maxRecDepth 100000 in
theorem t_X8_join_38 {X : gCx} {a : Nat}  {p0 : Int32} {p1 : Int32} {p2 : Int32} {post : Int32 → FO → Prop} {g : GH}   (C : gC X cX8_join RX8 (some .int) rm_X8_join) (hn : xn X = 4) (hQ : gRet X (gQi (xY X) (fun r9 g9 => ∃ o9, g9 = hu g a (9, o9) ∧ post r9 o9)) 0 0 ∨ gRex X (gQi (xY X) (fun r9 g9 => ∃ o9, g9 = hu g a (9, o9) ∧ post r9 o9)) (fun _ _ => False) 0 0)    : ∀ (y1 : Int32) (o : FO), wp_X8_join_38 p0 p1 p2 post y1 o → gX X 0 0 38 [(0, .ref a), (1, .int p0), (2, .int p1), (3, .int p2)] [.int y1, .ref a] (hu g a (9, o)) := by
  intro y1 o w
  unfold wp_X8_join_38 at w
  obtain ⟨o11, e12⟩ : ∃ z, z = sI o 0 y1 := ⟨_, rfl⟩
  have w := w o11 e12
  refine rp_X8_X8_thrown C dX8_join_38 hu_s e12 hu_hu.symm (r_aload_n C 0 dX8_join_41 rfl (rg_X8_X8_thrown C dX8_join_42 hu_s (r_if_le C 50 dX8_join_45 (by decide) (fun c13 => ?_) (fun c13 => ?_))))
  · have w := w.1 c13
    refine r_aload_n C 0 dX8_join_50 rfl (r_aload_n C 0 dX8_join_51 rfl (r_iload_n C 2 dX8_join_52 rfl (r_goi (r_runV C dX8_join_53 (m_X8_canName hu_s w) mt_X8_canName tw1265 tw1267 tw42 gcl_9.1 hu_s rfl (stk := [.ref a]) rfl (Nat.le_of_ble_eq_true rfl) ⟨rfl, rfl, ⟨Nat.le_of_ble_eq_true rfl, Nat.le_of_ble_eq_true rfl⟩, ⟨Nat.le_of_ble_eq_true rfl, Nat.le_of_ble_eq_true rfl⟩⟩) ?_)))
    intro r14 h15 hp
    obtain ⟨rfl, w⟩ := hp
    refine r_if_eq C 71 dX8_join_56 (by decide) (fun c16 => ?_) (fun c16 => ?_)
    · have w := w.1 c16
      exact r_sub [0, 1, 2, 3] rfl (t_X8_join_71 C hn hQ _ w)
    · have w := w.2 c16
      refine r_aload_n C 0 dX8_join_59 rfl (r_iload_n C 3 dX8_join_60 rfl (r_goi (r_runV C dX8_join_61 (m_X8_canName hu_s w) mt_X8_canName tw1265 tw1267 tw42 gcl_9.1 hu_s rfl (stk := [.ref a]) rfl (Nat.le_of_ble_eq_true rfl) ⟨rfl, rfl, ⟨Nat.le_of_ble_eq_true rfl, Nat.le_of_ble_eq_true rfl⟩, ⟨Nat.le_of_ble_eq_true rfl, Nat.le_of_ble_eq_true rfl⟩⟩) ?_))
      intro r17 h18 hp
      obtain ⟨rfl, w⟩ := hp
      refine r_if_eq C 71 dX8_join_64 (by decide) (fun c19 => ?_) (fun c19 => ?_)
      · have w := w.1 c19
        exact r_sub [0, 1, 2, 3] rfl (t_X8_join_71 C hn hQ _ w)
      · have w := w.2 c19
        exact r_iconst C (v := 0) dX8_join_67 (by decide) (r_goto C 72 dX8_join_68 (by decide) (r_sub [0, 1, 2, 3] rfl (t_X8_join_72 C hn hQ _ _ w)))
  · have w := w.2 c13
    exact r_iconst C (v := 0) dX8_join_48 (by decide) (r_iret C hQ dX8_join_49 rfl (vp_nar_int _) ⟨Nat.le_of_ble_eq_true rfl, Nat.le_of_ble_eq_true rfl⟩ ⟨_, rfl, w⟩)
set_option maxHeartbeats 4000000 in
set_option maxRecDepth 100000 in
theorem t_X8_join_24 {X : gCx} {a : Nat}  {p0 : Int32} {p1 : Int32} {p2 : Int32} {post : Int32 → FO → Prop} {g : GH}   (C : gC X cX8_join RX8 (some .int) rm_X8_join) (hn : xn X = 4) (hQ : gRet X (gQi (xY X) (fun r9 g9 => ∃ o9, g9 = hu g a (9, o9) ∧ post r9 o9)) 0 0 ∨ gRex X (gQi (xY X) (fun r9 g9 => ∃ o9, g9 = hu g a (9, o9) ∧ post r9 o9)) (fun _ _ => False) 0 0)    : ∀ (o : FO), wp_X8_join_24 p0 p1 p2 post o → gX X 0 0 24 [(0, .ref a), (1, .int p0), (2, .int p1), (3, .int p2)] [.ref a] (hu g a (9, o)) := by
  intro o w
  unfold wp_X8_join_24 at w
  exact r_iconst C (v := 1) dX8_join_24 (by decide) (r_goto C 38 dX8_join_25 (by decide) (r_sub [0, 1, 2, 3] rfl (t_X8_join_38 C hn hQ _ _ w)))
set_option maxHeartbeats 4000000 in
set_option maxRecDepth 100000 in
theorem m_X8_join {Y : gWx} {a : Nat}  {p0 : Int32} {p1 : Int32} {p2 : Int32} {post : Int32 → FO → Prop} {g : GH}  {o : FO} (hg : g a = some (9, o))    (w : wp_X8_join p0 p1 p2 o post) : gMet Y yX8_join cX8_join 4 (some .int) rm_X8_join [.ref a, .int p0, .int p1, .int p2] g (gQi Y (fun r9 g9 => ∃ o9, g9 = hu g a (9, o9) ∧ post r9 o9)) 0 0 := by
  refine gm_of rfl (Nat.le_of_ble_eq_true rfl) ?_
  intro X hY hn C hnm hQ
  subst hY
  have hQ : gRet X (gQi (xY X) (fun r9 g9 => ∃ o9, g9 = hu g a (9, o9) ∧ post r9 o9)) 0 0 ∨ gRex X (gQi (xY X) (fun r9 g9 => ∃ o9, g9 = hu g a (9, o9) ∧ post r9 o9)) (fun _ _ => False) 0 0 := Or.inl hQ
  have C : gC X cX8_join RX8 (some .int) rm_X8_join := C
  refine gX_eq (hu_id hg).symm ?_
  show gX X 0 0 0 [(0, .ref a), (1, .int p0), (2, .int p1), (3, .int p2)] [] (hu g a (9, o))
  unfold wp_X8_join at w
  refine r_aload_n C 0 dX8_join_0 rfl (r_iload_n C 1 dX8_join_1 rfl (r_goi (r_runS C dX8_join_2 (m_X8_isHand w) mt_X8_isHand tw1218 tw1219 rfl (stk := [.ref a]) rfl (Nat.le_of_ble_eq_true rfl) ⟨rfl, rfl, ⟨Nat.le_of_ble_eq_true rfl, Nat.le_of_ble_eq_true rfl⟩, ⟨Nat.le_of_ble_eq_true rfl, Nat.le_of_ble_eq_true rfl⟩⟩) ?_))
  intro r1 h2 hp
  obtain ⟨rfl, w⟩ := hp
  refine r_if_eq C 24 dX8_join_5 (by decide) (fun c3 => ?_) (fun c3 => ?_)
  · have w := w.1 c3
    exact r_sub [0, 1, 2, 3] rfl (t_X8_join_24 C hn hQ _ w)
  · have w := w.2 c3
    refine r_aload_n C 0 dX8_join_8 rfl (r_iload_n C 2 dX8_join_9 rfl (r_goi (r_runV C dX8_join_10 (m_X8_isShape hu_s w) mt_X8_isShape tw1261 tw1263 tw41 gcl_9.1 hu_s rfl (stk := [.ref a]) rfl (Nat.le_of_ble_eq_true rfl) ⟨rfl, rfl, ⟨Nat.le_of_ble_eq_true rfl, Nat.le_of_ble_eq_true rfl⟩, ⟨Nat.le_of_ble_eq_true rfl, Nat.le_of_ble_eq_true rfl⟩⟩) ?_))
    intro r4 h5 hp
    obtain ⟨rfl, w⟩ := hp
    refine r_if_eq C 24 dX8_join_13 (by decide) (fun c6 => ?_) (fun c6 => ?_)
    · have w := w.1 c6
      exact r_sub [0, 1, 2, 3] rfl (t_X8_join_24 C hn hQ _ w)
    · have w := w.2 c6
      refine r_aload_n C 0 dX8_join_16 rfl (r_iload_n C 3 dX8_join_17 rfl (r_goi (r_runV C dX8_join_18 (m_X8_isShape hu_s w) mt_X8_isShape tw1261 tw1263 tw41 gcl_9.1 hu_s rfl (stk := [.ref a]) rfl (Nat.le_of_ble_eq_true rfl) ⟨rfl, rfl, ⟨Nat.le_of_ble_eq_true rfl, Nat.le_of_ble_eq_true rfl⟩, ⟨Nat.le_of_ble_eq_true rfl, Nat.le_of_ble_eq_true rfl⟩⟩) ?_))
      intro r7 h8 hp
      obtain ⟨rfl, w⟩ := hp
      refine r_if_ne C 28 dX8_join_21 (by decide) (fun c9 => ?_) (fun c9 => ?_)
      · have w := w.1 c9
        refine r_iload_n C 2 dX8_join_28 rfl (r_iload_n C 3 dX8_join_29 rfl (r_icmp_ne C 37 dX8_join_30 (by decide) (fun c10 => ?_) (fun c10 => ?_)))
        · have w := w.1 c10
          exact r_iconst C (v := 0) dX8_join_37 (by decide) (r_sub [0, 1, 2, 3] rfl (t_X8_join_38 C hn hQ _ _ w))
        · have w := w.2 c10
          exact r_iconst C (v := 2) dX8_join_33 (by decide) (r_goto C 38 dX8_join_34 (by decide) (r_sub [0, 1, 2, 3] rfl (t_X8_join_38 C hn hQ _ _ w)))
      · have w := w.2 c9
        exact r_sub [0, 1, 2, 3] rfl (t_X8_join_24 C hn hQ _ w)
def rm_X8_part : Room := { frames := 5, cells := 0, slots := 0, locals := 112 }
theorem mt_X8_part : gMt yX8_part cX8_part 4 (some .int) 2 := ⟨tw1292, tw64, by decide +kernel, by decide +kernel, by decide +kernel⟩
def wp_X8_part (p0 : Int32) (p1 : Int32) (o : FO) (post : Int32 → FO → Prop) : Prop :=
wp_X8_names p0 p1 o (fun r1 =>
∀ o3, o3 = sI o 0 r1 →
(((fI o3 0) ≤ 0 → wp_X8_inGroup p1 o3 (fun r6 =>
wp_X8_tells p0 6 p1 0 0 o3 (fun o8 =>
post (r6 - 1) o8))) ∧ (¬ (fI o3 0) ≤ 0 → post 0 o3)))
set_option maxHeartbeats 4000000 in
set_option maxRecDepth 100000 in
theorem m_X8_part {Y : gWx} {a : Nat}  {p0 : Int32} {p1 : Int32} {post : Int32 → FO → Prop} {g : GH}  {o : FO} (hg : g a = some (9, o))    (w : wp_X8_part p0 p1 o post) : gMet Y yX8_part cX8_part 4 (some .int) rm_X8_part [.ref a, .int p0, .int p1] g (gQi Y (fun r9 g9 => ∃ o9, g9 = hu g a (9, o9) ∧ post r9 o9)) 0 0 := by
  refine gm_of rfl (Nat.le_of_ble_eq_true rfl) ?_
  intro X hY hn C hnm hQ
  subst hY
  have hQ : gRet X (gQi (xY X) (fun r9 g9 => ∃ o9, g9 = hu g a (9, o9) ∧ post r9 o9)) 0 0 ∨ gRex X (gQi (xY X) (fun r9 g9 => ∃ o9, g9 = hu g a (9, o9) ∧ post r9 o9)) (fun _ _ => False) 0 0 := Or.inl hQ
  have C : gC X cX8_part RX8 (some .int) rm_X8_part := C
  refine gX_eq (hu_id hg).symm ?_
  show gX X 0 0 0 [(0, .ref a), (1, .int p0), (2, .int p1)] [] (hu g a (9, o))
  unfold wp_X8_part at w
  refine r_aload_n C 0 dX8_part_0 rfl (r_aload_n C 0 dX8_part_1 rfl (r_iload_n C 1 dX8_part_2 rfl (r_iload_n C 2 dX8_part_3 rfl (r_goi (r_runV C dX8_part_4 (m_X8_names hu_s w) mt_X8_names tw1281 tw1283 tw44 gcl_9.1 hu_s rfl (stk := [.ref a]) rfl (Nat.le_of_ble_eq_true rfl) ⟨rfl, rfl, ⟨Nat.le_of_ble_eq_true rfl, Nat.le_of_ble_eq_true rfl⟩, ⟨Nat.le_of_ble_eq_true rfl, Nat.le_of_ble_eq_true rfl⟩⟩) ?_))))
  intro r1 h2 hp
  obtain ⟨rfl, w⟩ := hp
  obtain ⟨o3, e4⟩ : ∃ z, z = sI o 0 r1 := ⟨_, rfl⟩
  have w := w o3 e4
  refine rp_X8_X8_thrown C dX8_part_7 hu_s e4 hu_hu.symm (r_aload_n C 0 dX8_part_10 rfl (rg_X8_X8_thrown C dX8_part_11 hu_s (r_if_le C 19 dX8_part_14 (by decide) (fun c5 => ?_) (fun c5 => ?_))))
  · have w := w.1 c5
    refine r_aload_n C 0 dX8_part_19 rfl (r_iload_n C 2 dX8_part_20 rfl (r_goi (r_runV C dX8_part_21 (m_X8_inGroup hu_s w) mt_X8_inGroup tw1269 tw1271 tw43 gcl_9.1 hu_s rfl (stk := []) rfl (Nat.le_of_ble_eq_true rfl) ⟨rfl, rfl, ⟨Nat.le_of_ble_eq_true rfl, Nat.le_of_ble_eq_true rfl⟩, ⟨Nat.le_of_ble_eq_true rfl, Nat.le_of_ble_eq_true rfl⟩⟩) ?_))
    intro r6 h7 hp
    obtain ⟨rfl, w⟩ := hp
    refine r_iconst C (v := 1) dX8_part_24 (by decide) (r_isub C dX8_part_25 (r_istore_n C dX8_part_26 (nlt hn (by decide)) rfl (r_aload_n C 1 dX8_part_27 rfl (r_iload_n C 2 dX8_part_28 rfl (r_bipush C (v := 6) dX8_part_29 (by decide) (r_iload_n C 3 dX8_part_31 rfl (r_iconst C (v := 0) dX8_part_32 (by decide) (r_iconst C (v := 0) dX8_part_33 (by decide) (r_gov (r_runV C dX8_part_34 (m_X8_tells hu_s w) mt_X8_tells tw1221 tw1223 tw32 gcl_9.1 hu_s rfl (stk := []) rfl (Nat.le_of_ble_eq_true rfl) ⟨rfl, rfl, ⟨Nat.le_of_ble_eq_true rfl, Nat.le_of_ble_eq_true rfl⟩, ⟨Nat.le_of_ble_eq_true rfl, Nat.le_of_ble_eq_true rfl⟩⟩) ?_)))))))))
    intro  h9 hp
    obtain ⟨o8, rfl, w⟩ := hp
    refine gX_eq hu_hu ?_
    exact r_iload_n C 0 dX8_part_37 rfl (r_iret C hQ dX8_part_38 rfl (vp_nar_int _) ⟨Nat.le_of_ble_eq_true rfl, Nat.le_of_ble_eq_true rfl⟩ ⟨_, rfl, w⟩)
  · have w := w.2 c5
    exact r_iconst C (v := 0) dX8_part_17 (by decide) (r_iret C hQ dX8_part_18 rfl (vp_nar_int _) ⟨Nat.le_of_ble_eq_true rfl, Nat.le_of_ble_eq_true rfl⟩ ⟨_, rfl, w⟩)
def rm_X8_drop : Room := { frames := 5, cells := 0, slots := 0, locals := 112 }
theorem mt_X8_drop : gMt yX8_drop cX8_drop 3 (some .int) 2 := ⟨tw1296, tw64, by decide +kernel, by decide +kernel, by decide +kernel⟩
def wp_X8_drop (p0 : Int32) (p1 : Int32) (o : FO) (post : Int32 → FO → Prop) : Prop :=
wp_X8_names p0 p1 o (fun r1 =>
∀ o3, o3 = sI o 0 r1 →
(((fI o3 0) ≤ 0 → wp_X8_tells p0 7 p1 0 0 o3 (fun o6 =>
post (fI o6 18) o6)) ∧ (¬ (fI o3 0) ≤ 0 → post 0 o3)))
set_option maxHeartbeats 4000000 in
set_option maxRecDepth 100000 in
theorem m_X8_drop {Y : gWx} {a : Nat}  {p0 : Int32} {p1 : Int32} {post : Int32 → FO → Prop} {g : GH}  {o : FO} (hg : g a = some (9, o))    (w : wp_X8_drop p0 p1 o post) : gMet Y yX8_drop cX8_drop 3 (some .int) rm_X8_drop [.ref a, .int p0, .int p1] g (gQi Y (fun r9 g9 => ∃ o9, g9 = hu g a (9, o9) ∧ post r9 o9)) 0 0 := by
  refine gm_of rfl (Nat.le_of_ble_eq_true rfl) ?_
  intro X hY hn C hnm hQ
  subst hY
  have hQ : gRet X (gQi (xY X) (fun r9 g9 => ∃ o9, g9 = hu g a (9, o9) ∧ post r9 o9)) 0 0 ∨ gRex X (gQi (xY X) (fun r9 g9 => ∃ o9, g9 = hu g a (9, o9) ∧ post r9 o9)) (fun _ _ => False) 0 0 := Or.inl hQ
  have C : gC X cX8_drop RX8 (some .int) rm_X8_drop := C
  refine gX_eq (hu_id hg).symm ?_
  show gX X 0 0 0 [(0, .ref a), (1, .int p0), (2, .int p1)] [] (hu g a (9, o))
  unfold wp_X8_drop at w
  refine r_aload_n C 0 dX8_drop_0 rfl (r_aload_n C 0 dX8_drop_1 rfl (r_iload_n C 1 dX8_drop_2 rfl (r_iload_n C 2 dX8_drop_3 rfl (r_goi (r_runV C dX8_drop_4 (m_X8_names hu_s w) mt_X8_names tw1281 tw1283 tw44 gcl_9.1 hu_s rfl (stk := [.ref a]) rfl (Nat.le_of_ble_eq_true rfl) ⟨rfl, rfl, ⟨Nat.le_of_ble_eq_true rfl, Nat.le_of_ble_eq_true rfl⟩, ⟨Nat.le_of_ble_eq_true rfl, Nat.le_of_ble_eq_true rfl⟩⟩) ?_))))
  intro r1 h2 hp
  obtain ⟨rfl, w⟩ := hp
  obtain ⟨o3, e4⟩ : ∃ z, z = sI o 0 r1 := ⟨_, rfl⟩
  have w := w o3 e4
  refine rp_X8_X8_thrown C dX8_drop_7 hu_s e4 hu_hu.symm (r_aload_n C 0 dX8_drop_10 rfl (rg_X8_X8_thrown C dX8_drop_11 hu_s (r_if_le C 19 dX8_drop_14 (by decide) (fun c5 => ?_) (fun c5 => ?_))))
  · have w := w.1 c5
    refine r_aload_n C 0 dX8_drop_19 rfl (r_iload_n C 1 dX8_drop_20 rfl (r_bipush C (v := 7) dX8_drop_21 (by decide) (r_iload_n C 2 dX8_drop_23 rfl (r_iconst C (v := 0) dX8_drop_24 (by decide) (r_iconst C (v := 0) dX8_drop_25 (by decide) (r_gov (r_runV C dX8_drop_26 (m_X8_tells hu_s w) mt_X8_tells tw1221 tw1223 tw32 gcl_9.1 hu_s rfl (stk := []) rfl (Nat.le_of_ble_eq_true rfl) ⟨rfl, rfl, ⟨Nat.le_of_ble_eq_true rfl, Nat.le_of_ble_eq_true rfl⟩, ⟨Nat.le_of_ble_eq_true rfl, Nat.le_of_ble_eq_true rfl⟩⟩) ?_))))))
    intro  h7 hp
    obtain ⟨o6, rfl, w⟩ := hp
    refine gX_eq hu_hu ?_
    exact r_aload_n C 0 dX8_drop_29 rfl (rg_X8_X8_many C dX8_drop_30 hu_s (r_iret C hQ dX8_drop_33 rfl (vp_nar_int _) ⟨Nat.le_of_ble_eq_true rfl, Nat.le_of_ble_eq_true rfl⟩ ⟨_, rfl, w⟩))
  · have w := w.2 c5
    exact r_iconst C (v := 0) dX8_drop_17 (by decide) (r_iret C hQ dX8_drop_18 rfl (vp_nar_int _) ⟨Nat.le_of_ble_eq_true rfl, Nat.le_of_ble_eq_true rfl⟩ ⟨_, rfl, w⟩)
def rm_X8_holderOf : Room := { frames := 0, cells := 0, slots := 0, locals := 0 }
theorem mt_X8_holderOf : gMt yX8_holderOf cX8_holderOf 4 (some .int) 1 := ⟨tw1304, tw64, by decide +kernel, by decide +kernel, by decide +kernel⟩
def wp_X8_holderOf_33 (p0 : Int32) (o : FO) (post : Int32 → Prop) (k9 : Int32 → Int32 → Prop) (x3 : Int32) (y0 : Int32)  : Prop :=
k9 y0 (x3 + (-1))
def wp_X8_holderOf_9 (p0 : Int32) (o : FO) (post : Int32 → Prop) : Nat → Int32 → Int32 → Prop
  | 0, _, _ => False
  | n + 1, x2, x3 =>
    ((x3 < 0 → post x2) ∧ (¬ x3 < 0 → vp_in ((200 * x3) + p0) 1600 ∧
    (((fA o 36 ((200 * x3) + p0).toNatClampNeg) = 0 → wp_X8_holderOf_33 p0 o post (fun x2 x3 => wp_X8_holderOf_9 p0 o post n x2 x3) x3 x2) ∧ (¬ (fA o 36 ((200 * x3) + p0).toNatClampNeg) = 0 → wp_X8_holderOf_33 p0 o post (fun x2 x3 => wp_X8_holderOf_9 p0 o post n x2 x3) x3 x3))))
def wp_X8_holderOf (p0 : Int32) (o : FO)  (post : Int32 → Prop) : Prop :=
wp_X8_holderOf_9 p0 o post 1000 ((-1)) ((fI o 25) - 1)
set_option maxHeartbeats 4000000 in
set_option maxRecDepth 100000 in
theorem t_X8_holderOf_33 {X : gCx} {a : Nat}  {p0 : Int32} {post : Int32 → Prop} {g : GH} {o : FO} {k9 : Int32 → Int32 → Prop} (C : gC X cX8_holderOf RX8 (some .int) rm_X8_holderOf) (hn : xn X = 4) (hQ : gRet X (gQi (xY X) (fun r9 g9 => g9 = g ∧ post r9)) 0 0 ∨ gRex X (gQi (xY X) (fun r9 g9 => g9 = g ∧ post r9)) (fun _ _ => False) 0 0) (hg : g a = some (9, o))   (hk9 : ∀ (x2 : Int32) (x3 : Int32), k9 x2 x3 → gX X 0 0 9 [(0, .ref a), (1, .int p0), (2, .int x2), (3, .int x3)] [] g) : ∀ (x3 : Int32) (y0 : Int32), wp_X8_holderOf_33 p0 o post k9 x3 y0 → gX X 0 0 33 [(0, .ref a), (1, .int p0), (3, .int x3)] [.int y0] g := by
  intro x3 y0 w
  unfold wp_X8_holderOf_33 at w
  exact r_istore_n C dX8_holderOf_33 (nlt hn (by decide)) rfl (r_iinc C (v := x3 + (-1)) 3 dX8_holderOf_34 rfl rfl (nlt hn (by decide)) rfl (r_goto C 9 dX8_holderOf_37 (by decide) (r_sub [2, 3, 1, 0] rfl (hk9 _ _ w))))
set_option maxHeartbeats 4000000 in
set_option maxRecDepth 100000 in
theorem t_X8_holderOf_9 {X : gCx} {a : Nat}  {p0 : Int32} {post : Int32 → Prop} {g : GH} {o : FO}  (C : gC X cX8_holderOf RX8 (some .int) rm_X8_holderOf) (hn : xn X = 4) (hQ : gRet X (gQi (xY X) (fun r9 g9 => g9 = g ∧ post r9)) 0 0 ∨ gRex X (gQi (xY X) (fun r9 g9 => g9 = g ∧ post r9)) (fun _ _ => False) 0 0) (hg : g a = some (9, o))    : ∀ (n : Nat) (x2 : Int32) (x3 : Int32), wp_X8_holderOf_9 p0 o post n x2 x3 → gX X 0 0 9 [(0, .ref a), (1, .int p0), (2, .int x2), (3, .int x3)] [] g := by
  intro n
  induction n with
  | zero => intro x2 x3 w; exact w.elim
  | succ n ih =>
    intro x2 x3 w
    unfold wp_X8_holderOf_9 at w
    refine r_iload_n C 3 dX8_holderOf_9 rfl (r_if_lt C 40 dX8_holderOf_10 (by decide) (fun c1 => ?_) (fun c1 => ?_))
    · have w := w.1 c1
      exact r_iload_n C 2 dX8_holderOf_40 rfl (r_iret C hQ dX8_holderOf_41 rfl (vp_nar_int _) ⟨Nat.le_of_ble_eq_true rfl, Nat.le_of_ble_eq_true rfl⟩ ⟨rfl, w⟩)
    · have w := w.2 c1
      obtain ⟨i2, w⟩ := w
      refine r_aload_n C 0 dX8_holderOf_13 rfl (rg_X8_X8_holds C dX8_holderOf_14 hg (r_sipush C (v := 200) dX8_holderOf_17 (by decide) (r_iload_n C 3 dX8_holderOf_20 rfl (r_imul C dX8_holderOf_21 (r_iload_n C 1 dX8_holderOf_22 rfl (r_iadd C dX8_holderOf_23 (r_zald (ci := 9) (k := 36) C dX8_holderOf_24 rfl rfl hg i2 (r_if_eq C 32 dX8_holderOf_25 (by decide) (fun c3 => ?_) (fun c3 => ?_)))))))))
      · have w := w.1 c3
        exact r_iload_n C 2 dX8_holderOf_32 rfl (r_sub [0, 1, 3] rfl (t_X8_holderOf_33 C hn hQ hg ih _ _ w))
      · have w := w.2 c3
        exact r_iload_n C 3 dX8_holderOf_28 rfl (r_goto C 33 dX8_holderOf_29 (by decide) (r_sub [0, 1, 3] rfl (t_X8_holderOf_33 C hn hQ hg ih _ _ w)))
set_option maxHeartbeats 4000000 in
set_option maxRecDepth 100000 in
theorem m_X8_holderOf {Y : gWx} {a : Nat}  {p0 : Int32} {post : Int32 → Prop} {g : GH} {o : FO} (hg : g a = some (9, o))    (w : wp_X8_holderOf p0 o post) : gMet Y yX8_holderOf cX8_holderOf 4 (some .int) rm_X8_holderOf [.ref a, .int p0] g (gQi Y (fun r9 g9 => g9 = g ∧ post r9)) 0 0 := by
  refine gm_of rfl (Nat.le_of_ble_eq_true rfl) ?_
  intro X hY hn C hnm hQ
  subst hY
  have hQ : gRet X (gQi (xY X) (fun r9 g9 => g9 = g ∧ post r9)) 0 0 ∨ gRex X (gQi (xY X) (fun r9 g9 => g9 = g ∧ post r9)) (fun _ _ => False) 0 0 := Or.inl hQ
  have C : gC X cX8_holderOf RX8 (some .int) rm_X8_holderOf := C
  show gX X 0 0 0 [(0, .ref a), (1, .int p0)] [] g
  unfold wp_X8_holderOf at w
  exact r_iconst C (v := (-1)) dX8_holderOf_0 (by decide) (r_istore_n C dX8_holderOf_1 (nlt hn (by decide)) rfl (r_aload_n C 1 dX8_holderOf_2 rfl (rg_X8_X8_editions C dX8_holderOf_3 hg (r_iconst C (v := 1) dX8_holderOf_6 (by decide) (r_isub C dX8_holderOf_7 (r_istore_n C dX8_holderOf_8 (nlt hn (by decide)) rfl (r_sub [2, 3, 1, 0] rfl (t_X8_holderOf_9 C hn hQ hg 1000 _ _ w))))))))
def rm_X8_undo : Room := { frames := 4, cells := 0, slots := 0, locals := 87 }
theorem mt_X8_undo : gMt yX8_undo cX8_undo 4 (some .int) 1 := ⟨tw1300, tw64, by decide +kernel, by decide +kernel, by decide +kernel⟩
def wp_X8_undo_61 (p0 : Int32) (post : Int32 → FO → Prop) (k29 : Int32 → Int32 → FO → Prop) (x3 : Int32) (y0 : Int32) (o : FO) : Prop :=
k29 y0 (x3 + 1) o
def wp_X8_undo_60 (p0 : Int32) (post : Int32 → FO → Prop) (k29 : Int32 → Int32 → FO → Prop) (x2 : Int32) (x3 : Int32) (o : FO) : Prop :=
wp_X8_undo_61 p0 post k29 x3 x2 o
def wp_X8_undo_97 (p0 : Int32) (post : Int32 → FO → Prop) (x2 : Int32) (y1 : Int32) (o : FO) : Prop :=
∀ o17, o17 = sI o 0 y1 →
(((fI o17 0) ≤ 0 → vp_in x2 200 ∧
∀ o21, o21 = sA o17 7 x2.toNatClampNeg (vp_nar .boolean 0) →
vp_in p0 6 ∧
vp_in ((200 * p0) + (fA o21 9 p0.toNatClampNeg)) 1200 ∧
∀ o25, o25 = sA o21 8 ((200 * p0) + (fA o21 9 p0.toNatClampNeg)).toNatClampNeg x2 →
vp_in p0 6 ∧
vp_in p0 6 ∧
∀ o29, o29 = sA o25 9 p0.toNatClampNeg ((fA o25 9 p0.toNatClampNeg) + 1) →
wp_X8_anew o29 (fun o31 =>
post x2 o31)) ∧ (¬ (fI o17 0) ≤ 0 → post 0 o17))
def wp_X8_undo_92 (p0 : Int32) (post : Int32 → FO → Prop) (x2 : Int32) (o : FO) : Prop :=
wp_X8_undo_97 p0 post x2 2 o
def wp_X8_undo_85 (p0 : Int32) (post : Int32 → FO → Prop) (x2 : Int32) (y2 : Int32) (o : FO) : Prop :=
wp_X8_holderOf y2 o (fun r14 =>
((r14 = ((-1)) → wp_X8_undo_97 p0 post x2 0 o) ∧ (¬ r14 = ((-1)) → wp_X8_undo_92 p0 post x2 o)))
def wp_X8_undo_29 (p0 : Int32) (post : Int32 → FO → Prop) : Nat → Int32 → Int32 → FO → Prop
  | 0, _, _, _ => False
  | n + 1, x2, x3, o =>
    (((fI o 1) ≤ x3 → ((x2 = ((-1)) → wp_X8_undo_92 p0 post x2 o) ∧ (¬ x2 = ((-1)) → ((¬ x2 = ((-1)) → wp_X8_undo_85 p0 post x2 x2 o) ∧ (x2 = ((-1)) → wp_X8_undo_85 p0 post x2 0 o))))) ∧ (¬ (fI o 1) ≤ x3 → vp_in x3 200 ∧
    (((fA o 7 x3.toNatClampNeg) = 0 → wp_X8_undo_60 p0 post (fun x2 x3 o => wp_X8_undo_29 p0 post n x2 x3 o) x2 x3 o) ∧ (¬ (fA o 7 x3.toNatClampNeg) = 0 → vp_in x3 200 ∧
    ((¬ (fA o 3 x3.toNatClampNeg) = p0 → wp_X8_undo_60 p0 post (fun x2 x3 o => wp_X8_undo_29 p0 post n x2 x3 o) x2 x3 o) ∧ ((fA o 3 x3.toNatClampNeg) = p0 → wp_X8_undo_61 p0 post (fun x2 x3 o => wp_X8_undo_29 p0 post n x2 x3 o) x3 x3 o))))))
def wp_X8_undo_13 (p0 : Int32) (post : Int32 → FO → Prop) (y1 : Int32) (o : FO) : Prop :=
∀ o4, o4 = sI o 0 y1 →
(((fI o4 0) ≤ 0 → wp_X8_undo_29 p0 post 1000 ((-1)) 0 o4) ∧ (¬ (fI o4 0) ≤ 0 → post 0 o4))
def wp_X8_undo (p0 : Int32) (o : FO) (post : Int32 → FO → Prop) : Prop :=
wp_X8_isHand p0 (fun r1 =>
((r1 = 0 → wp_X8_undo_13 p0 post 1 o) ∧ (¬ r1 = 0 → wp_X8_undo_13 p0 post 0 o)))
set_option maxHeartbeats 4000000 in
set_option maxRecDepth 100000 in
theorem t_X8_undo_61 {X : gCx} {a : Nat}  {p0 : Int32} {post : Int32 → FO → Prop} {g : GH}  {k29 : Int32 → Int32 → FO → Prop} (C : gC X cX8_undo RX8 (some .int) rm_X8_undo) (hn : xn X = 4) (hQ : gRet X (gQi (xY X) (fun r9 g9 => ∃ o9, g9 = hu g a (9, o9) ∧ post r9 o9)) 0 0 ∨ gRex X (gQi (xY X) (fun r9 g9 => ∃ o9, g9 = hu g a (9, o9) ∧ post r9 o9)) (fun _ _ => False) 0 0)   (hk29 : ∀ (x2 : Int32) (x3 : Int32) (o : FO), k29 x2 x3 o → gX X 0 0 29 [(0, .ref a), (1, .int p0), (2, .int x2), (3, .int x3)] [] (hu g a (9, o))) : ∀ (x3 : Int32) (y0 : Int32) (o : FO), wp_X8_undo_61 p0 post k29 x3 y0 o → gX X 0 0 61 [(0, .ref a), (1, .int p0), (3, .int x3)] [.int y0] (hu g a (9, o)) := by
  intro x3 y0 o w
  unfold wp_X8_undo_61 at w
  exact r_istore_n C dX8_undo_61 (nlt hn (by decide)) rfl (r_iinc C (v := x3 + 1) 3 dX8_undo_62 rfl rfl (nlt hn (by decide)) rfl (r_goto C 29 dX8_undo_65 (by decide) (r_sub [2, 3, 1, 0] rfl (hk29 _ _ _ w))))
set_option maxHeartbeats 4000000 in
set_option maxRecDepth 100000 in
theorem t_X8_undo_60 {X : gCx} {a : Nat}  {p0 : Int32} {post : Int32 → FO → Prop} {g : GH}  {k29 : Int32 → Int32 → FO → Prop} (C : gC X cX8_undo RX8 (some .int) rm_X8_undo) (hn : xn X = 4) (hQ : gRet X (gQi (xY X) (fun r9 g9 => ∃ o9, g9 = hu g a (9, o9) ∧ post r9 o9)) 0 0 ∨ gRex X (gQi (xY X) (fun r9 g9 => ∃ o9, g9 = hu g a (9, o9) ∧ post r9 o9)) (fun _ _ => False) 0 0)   (hk29 : ∀ (x2 : Int32) (x3 : Int32) (o : FO), k29 x2 x3 o → gX X 0 0 29 [(0, .ref a), (1, .int p0), (2, .int x2), (3, .int x3)] [] (hu g a (9, o))) : ∀ (x2 : Int32) (x3 : Int32) (o : FO), wp_X8_undo_60 p0 post k29 x2 x3 o → gX X 0 0 60 [(0, .ref a), (1, .int p0), (2, .int x2), (3, .int x3)] [] (hu g a (9, o)) := by
  intro x2 x3 o w
  unfold wp_X8_undo_60 at w
  exact r_iload_n C 2 dX8_undo_60 rfl (r_sub [0, 1, 3] rfl (t_X8_undo_61 C hn hQ hk29 _ _ _ w))
set_option maxHeartbeats 4000000 in
set_option maxRecDepth 100000 in
theorem t_X8_undo_97 {X : gCx} {a : Nat}  {p0 : Int32} {post : Int32 → FO → Prop} {g : GH}   (C : gC X cX8_undo RX8 (some .int) rm_X8_undo) (hn : xn X = 4) (hQ : gRet X (gQi (xY X) (fun r9 g9 => ∃ o9, g9 = hu g a (9, o9) ∧ post r9 o9)) 0 0 ∨ gRex X (gQi (xY X) (fun r9 g9 => ∃ o9, g9 = hu g a (9, o9) ∧ post r9 o9)) (fun _ _ => False) 0 0)    : ∀ (x2 : Int32) (y1 : Int32) (o : FO), wp_X8_undo_97 p0 post x2 y1 o → gX X 0 0 97 [(0, .ref a), (1, .int p0), (2, .int x2)] [.int y1, .ref a] (hu g a (9, o)) := by
  intro x2 y1 o w
  unfold wp_X8_undo_97 at w
  obtain ⟨o17, e18⟩ : ∃ z, z = sI o 0 y1 := ⟨_, rfl⟩
  have w := w o17 e18
  refine rp_X8_X8_thrown C dX8_undo_97 hu_s e18 hu_hu.symm (r_aload_n C 0 dX8_undo_100 rfl (rg_X8_X8_thrown C dX8_undo_101 hu_s (r_if_le C 109 dX8_undo_104 (by decide) (fun c19 => ?_) (fun c19 => ?_))))
  · have w := w.1 c19
    obtain ⟨i20, w⟩ := w
    obtain ⟨o21, e22⟩ : ∃ z, z = sA o17 7 x2.toNatClampNeg (vp_nar .boolean 0) := ⟨_, rfl⟩
    have w := w o21 e22
    obtain ⟨i23, w⟩ := w
    obtain ⟨i24, w⟩ := w
    obtain ⟨o25, e26⟩ : ∃ z, z = sA o21 8 ((200 * p0) + (fA o21 9 p0.toNatClampNeg)).toNatClampNeg x2 := ⟨_, rfl⟩
    have w := w o25 e26
    obtain ⟨i27, w⟩ := w
    obtain ⟨i28, w⟩ := w
    obtain ⟨o29, e30⟩ : ∃ z, z = sA o25 9 p0.toNatClampNeg ((fA o25 9 p0.toNatClampNeg) + 1) := ⟨_, rfl⟩
    have w := w o29 e30
    refine r_aload_n C 0 dX8_undo_109 rfl (rg_X8_X8_isLive C dX8_undo_110 hu_s (r_iload_n C 2 dX8_undo_113 rfl (r_iconst C (v := 0) dX8_undo_114 (by decide) (r_zast (ci := 9) (k := 7) C dX8_undo_115 rfl rfl hu_s i20 e22 hu_hu.symm (r_aload_n C 0 dX8_undo_116 rfl (rg_X8_X8_undone C dX8_undo_117 hu_s (r_sipush C (v := 200) dX8_undo_120 (by decide) (r_iload_n C 1 dX8_undo_123 rfl (r_imul C dX8_undo_124 (r_aload_n C 0 dX8_undo_125 rfl (rg_X8_X8_undoings C dX8_undo_126 hu_s (r_iload_n C 1 dX8_undo_129 rfl (r_iald (ci := 9) (k := 9) C dX8_undo_130 rfl rfl hu_s i23 (r_iadd C dX8_undo_131 (r_iload_n C 2 dX8_undo_132 rfl (r_iast (ci := 9) (k := 8) C dX8_undo_133 rfl rfl hu_s i24 e26 hu_hu.symm (r_aload_n C 0 dX8_undo_134 rfl (rg_X8_X8_undoings C dX8_undo_135 hu_s (r_iload_n C 1 dX8_undo_138 rfl (r_dup2 C dX8_undo_139 rfl rfl (r_iald (ci := 9) (k := 9) C dX8_undo_140 rfl rfl hu_s i27 (r_iconst C (v := 1) dX8_undo_141 (by decide) (r_iadd C dX8_undo_142 (r_iast (ci := 9) (k := 9) C dX8_undo_143 rfl rfl hu_s i28 e30 hu_hu.symm (r_aload_n C 0 dX8_undo_144 rfl (r_gov (r_runV C dX8_undo_145 (m_X8_anew hu_s w) mt_X8_anew tw1225 tw1227 tw33 gcl_9.1 hu_s rfl (stk := []) rfl (Nat.le_of_ble_eq_true rfl) ⟨rfl, rfl, ⟨Nat.le_of_ble_eq_true rfl, Nat.le_of_ble_eq_true rfl⟩, ⟨Nat.le_of_ble_eq_true rfl, Nat.le_of_ble_eq_true rfl⟩⟩) ?_))))))))))))))))))))))))))
    intro  h32 hp
    obtain ⟨o31, rfl, w⟩ := hp
    refine gX_eq hu_hu ?_
    exact r_iload_n C 2 dX8_undo_148 rfl (r_iret C hQ dX8_undo_149 rfl (vp_nar_int _) ⟨Nat.le_of_ble_eq_true rfl, Nat.le_of_ble_eq_true rfl⟩ ⟨_, rfl, w⟩)
  · have w := w.2 c19
    exact r_iconst C (v := 0) dX8_undo_107 (by decide) (r_iret C hQ dX8_undo_108 rfl (vp_nar_int _) ⟨Nat.le_of_ble_eq_true rfl, Nat.le_of_ble_eq_true rfl⟩ ⟨_, rfl, w⟩)
set_option maxHeartbeats 4000000 in
set_option maxRecDepth 100000 in
theorem t_X8_undo_92 {X : gCx} {a : Nat}  {p0 : Int32} {post : Int32 → FO → Prop} {g : GH}   (C : gC X cX8_undo RX8 (some .int) rm_X8_undo) (hn : xn X = 4) (hQ : gRet X (gQi (xY X) (fun r9 g9 => ∃ o9, g9 = hu g a (9, o9) ∧ post r9 o9)) 0 0 ∨ gRex X (gQi (xY X) (fun r9 g9 => ∃ o9, g9 = hu g a (9, o9) ∧ post r9 o9)) (fun _ _ => False) 0 0)    : ∀ (x2 : Int32) (o : FO), wp_X8_undo_92 p0 post x2 o → gX X 0 0 92 [(0, .ref a), (1, .int p0), (2, .int x2)] [.ref a] (hu g a (9, o)) := by
  intro x2 o w
  unfold wp_X8_undo_92 at w
  exact r_iconst C (v := 2) dX8_undo_92 (by decide) (r_goto C 97 dX8_undo_93 (by decide) (r_sub [0, 1, 2] rfl (t_X8_undo_97 C hn hQ _ _ _ w)))
set_option maxHeartbeats 4000000 in
set_option maxRecDepth 100000 in
theorem t_X8_undo_85 {X : gCx} {a : Nat}  {p0 : Int32} {post : Int32 → FO → Prop} {g : GH}   (C : gC X cX8_undo RX8 (some .int) rm_X8_undo) (hn : xn X = 4) (hQ : gRet X (gQi (xY X) (fun r9 g9 => ∃ o9, g9 = hu g a (9, o9) ∧ post r9 o9)) 0 0 ∨ gRex X (gQi (xY X) (fun r9 g9 => ∃ o9, g9 = hu g a (9, o9) ∧ post r9 o9)) (fun _ _ => False) 0 0)    : ∀ (x2 : Int32) (y2 : Int32) (o : FO), wp_X8_undo_85 p0 post x2 y2 o → gX X 0 0 85 [(0, .ref a), (1, .int p0), (2, .int x2)] [.int y2, .ref a, .ref a] (hu g a (9, o)) := by
  intro x2 y2 o w
  unfold wp_X8_undo_85 at w
  refine r_goi (r_runV C dX8_undo_85 (m_X8_holderOf hu_s w) mt_X8_holderOf tw1301 tw1303 tw45 gcl_9.1 hu_s rfl (stk := [.ref a]) rfl (Nat.le_of_ble_eq_true rfl) ⟨rfl, rfl, ⟨Nat.le_of_ble_eq_true rfl, Nat.le_of_ble_eq_true rfl⟩, ⟨Nat.le_of_ble_eq_true rfl, Nat.le_of_ble_eq_true rfl⟩⟩) ?_
  intro r14 h15 hp
  obtain ⟨rfl, w⟩ := hp
  refine r_iconst C (v := (-1)) dX8_undo_88 (by decide) (r_icmp_eq C 96 dX8_undo_89 (by decide) (fun c16 => ?_) (fun c16 => ?_))
  · have w := w.1 c16
    exact r_iconst C (v := 0) dX8_undo_96 (by decide) (r_sub [0, 1, 2] rfl (t_X8_undo_97 C hn hQ _ _ _ w))
  · have w := w.2 c16
    exact r_sub [0, 1, 2] rfl (t_X8_undo_92 C hn hQ _ _ w)
set_option maxHeartbeats 4000000 in
set_option maxRecDepth 100000 in
theorem t_X8_undo_29 {X : gCx} {a : Nat}  {p0 : Int32} {post : Int32 → FO → Prop} {g : GH}   (C : gC X cX8_undo RX8 (some .int) rm_X8_undo) (hn : xn X = 4) (hQ : gRet X (gQi (xY X) (fun r9 g9 => ∃ o9, g9 = hu g a (9, o9) ∧ post r9 o9)) 0 0 ∨ gRex X (gQi (xY X) (fun r9 g9 => ∃ o9, g9 = hu g a (9, o9) ∧ post r9 o9)) (fun _ _ => False) 0 0)    : ∀ (n : Nat) (x2 : Int32) (x3 : Int32) (o : FO), wp_X8_undo_29 p0 post n x2 x3 o → gX X 0 0 29 [(0, .ref a), (1, .int p0), (2, .int x2), (3, .int x3)] [] (hu g a (9, o)) := by
  intro n
  induction n with
  | zero => intro x2 x3 o w; exact w.elim
  | succ n ih =>
    intro x2 x3 o w
    unfold wp_X8_undo_29 at w
    refine r_iload_n C 3 dX8_undo_29 rfl (r_aload_n C 0 dX8_undo_30 rfl (rg_X8_X8_acts C dX8_undo_31 hu_s (r_icmp_ge C 68 dX8_undo_34 (by decide) (fun c7 => ?_) (fun c7 => ?_))))
    · have w := w.1 c7
      refine r_aload_n C 0 dX8_undo_68 rfl (r_iload_n C 2 dX8_undo_69 rfl (r_iconst C (v := (-1)) dX8_undo_70 (by decide) (r_icmp_eq C 92 dX8_undo_71 (by decide) (fun c8 => ?_) (fun c8 => ?_))))
      · have w := w.1 c8
        exact r_sub [0, 1, 2] rfl (t_X8_undo_92 C hn hQ _ _ w)
      · have w := w.2 c8
        refine r_aload_n C 0 dX8_undo_74 rfl (r_iload_n C 2 dX8_undo_75 rfl (r_iconst C (v := (-1)) dX8_undo_76 (by decide) (r_icmp_ne C 84 dX8_undo_77 (by decide) (fun c9 => ?_) (fun c9 => ?_))))
        · have w := w.1 c9
          exact r_iload_n C 2 dX8_undo_84 rfl (r_sub [0, 1, 2] rfl (t_X8_undo_85 C hn hQ _ _ _ w))
        · have w := w.2 c9
          exact r_iconst C (v := 0) dX8_undo_80 (by decide) (r_goto C 85 dX8_undo_81 (by decide) (r_sub [0, 1, 2] rfl (t_X8_undo_85 C hn hQ _ _ _ w)))
    · have w := w.2 c7
      obtain ⟨i10, w⟩ := w
      refine r_aload_n C 0 dX8_undo_37 rfl (rg_X8_X8_isLive C dX8_undo_38 hu_s (r_iload_n C 3 dX8_undo_41 rfl (r_zald (ci := 9) (k := 7) C dX8_undo_42 rfl rfl hu_s i10 (r_if_eq C 60 dX8_undo_43 (by decide) (fun c11 => ?_) (fun c11 => ?_)))))
      · have w := w.1 c11
        exact r_sub [0, 1, 2, 3] rfl (t_X8_undo_60 C hn hQ ih _ _ _ w)
      · have w := w.2 c11
        obtain ⟨i12, w⟩ := w
        refine r_aload_n C 0 dX8_undo_46 rfl (rg_X8_X8_hand C dX8_undo_47 hu_s (r_iload_n C 3 dX8_undo_50 rfl (r_iald (ci := 9) (k := 3) C dX8_undo_51 rfl rfl hu_s i12 (r_iload_n C 1 dX8_undo_52 rfl (r_icmp_ne C 60 dX8_undo_53 (by decide) (fun c13 => ?_) (fun c13 => ?_))))))
        · have w := w.1 c13
          exact r_sub [0, 1, 2, 3] rfl (t_X8_undo_60 C hn hQ ih _ _ _ w)
        · have w := w.2 c13
          exact r_iload_n C 3 dX8_undo_56 rfl (r_goto C 61 dX8_undo_57 (by decide) (r_sub [0, 1, 3] rfl (t_X8_undo_61 C hn hQ ih _ _ _ w)))
set_option maxHeartbeats 4000000 in
set_option maxRecDepth 100000 in
theorem t_X8_undo_13 {X : gCx} {a : Nat}  {p0 : Int32} {post : Int32 → FO → Prop} {g : GH}   (C : gC X cX8_undo RX8 (some .int) rm_X8_undo) (hn : xn X = 4) (hQ : gRet X (gQi (xY X) (fun r9 g9 => ∃ o9, g9 = hu g a (9, o9) ∧ post r9 o9)) 0 0 ∨ gRex X (gQi (xY X) (fun r9 g9 => ∃ o9, g9 = hu g a (9, o9) ∧ post r9 o9)) (fun _ _ => False) 0 0)    : ∀ (y1 : Int32) (o : FO), wp_X8_undo_13 p0 post y1 o → gX X 0 0 13 [(0, .ref a), (1, .int p0)] [.int y1, .ref a] (hu g a (9, o)) := by
  intro y1 o w
  unfold wp_X8_undo_13 at w
  obtain ⟨o4, e5⟩ : ∃ z, z = sI o 0 y1 := ⟨_, rfl⟩
  have w := w o4 e5
  refine rp_X8_X8_thrown C dX8_undo_13 hu_s e5 hu_hu.symm (r_aload_n C 0 dX8_undo_16 rfl (rg_X8_X8_thrown C dX8_undo_17 hu_s (r_if_le C 25 dX8_undo_20 (by decide) (fun c6 => ?_) (fun c6 => ?_))))
  · have w := w.1 c6
    exact r_iconst C (v := (-1)) dX8_undo_25 (by decide) (r_istore_n C dX8_undo_26 (nlt hn (by decide)) rfl (r_iconst C (v := 0) dX8_undo_27 (by decide) (r_istore_n C dX8_undo_28 (nlt hn (by decide)) rfl (r_sub [2, 3, 1, 0] rfl (t_X8_undo_29 C hn hQ 1000 _ _ _ w)))))
  · have w := w.2 c6
    exact r_iconst C (v := 0) dX8_undo_23 (by decide) (r_iret C hQ dX8_undo_24 rfl (vp_nar_int _) ⟨Nat.le_of_ble_eq_true rfl, Nat.le_of_ble_eq_true rfl⟩ ⟨_, rfl, w⟩)
set_option maxHeartbeats 4000000 in
set_option maxRecDepth 100000 in
theorem m_X8_undo {Y : gWx} {a : Nat}  {p0 : Int32} {post : Int32 → FO → Prop} {g : GH}  {o : FO} (hg : g a = some (9, o))    (w : wp_X8_undo p0 o post) : gMet Y yX8_undo cX8_undo 4 (some .int) rm_X8_undo [.ref a, .int p0] g (gQi Y (fun r9 g9 => ∃ o9, g9 = hu g a (9, o9) ∧ post r9 o9)) 0 0 := by
  refine gm_of rfl (Nat.le_of_ble_eq_true rfl) ?_
  intro X hY hn C hnm hQ
  subst hY
  have hQ : gRet X (gQi (xY X) (fun r9 g9 => ∃ o9, g9 = hu g a (9, o9) ∧ post r9 o9)) 0 0 ∨ gRex X (gQi (xY X) (fun r9 g9 => ∃ o9, g9 = hu g a (9, o9) ∧ post r9 o9)) (fun _ _ => False) 0 0 := Or.inl hQ
  have C : gC X cX8_undo RX8 (some .int) rm_X8_undo := C
  refine gX_eq (hu_id hg).symm ?_
  show gX X 0 0 0 [(0, .ref a), (1, .int p0)] [] (hu g a (9, o))
  unfold wp_X8_undo at w
  refine r_aload_n C 0 dX8_undo_0 rfl (r_iload_n C 1 dX8_undo_1 rfl (r_goi (r_runS C dX8_undo_2 (m_X8_isHand w) mt_X8_isHand tw1218 tw1219 rfl (stk := [.ref a]) rfl (Nat.le_of_ble_eq_true rfl) ⟨rfl, rfl, ⟨Nat.le_of_ble_eq_true rfl, Nat.le_of_ble_eq_true rfl⟩, ⟨Nat.le_of_ble_eq_true rfl, Nat.le_of_ble_eq_true rfl⟩⟩) ?_))
  intro r1 h2 hp
  obtain ⟨rfl, w⟩ := hp
  refine r_if_eq C 12 dX8_undo_5 (by decide) (fun c3 => ?_) (fun c3 => ?_)
  · have w := w.1 c3
    exact r_iconst C (v := 1) dX8_undo_12 (by decide) (r_sub [0, 1] rfl (t_X8_undo_13 C hn hQ _ _ w))
  · have w := w.2 c3
    exact r_iconst C (v := 0) dX8_undo_8 (by decide) (r_goto C 13 dX8_undo_9 (by decide) (r_sub [0, 1] rfl (t_X8_undo_13 C hn hQ _ _ w)))
def rm_X8_redo : Room := { frames := 4, cells := 0, slots := 0, locals := 87 }
theorem mt_X8_redo : gMt yX8_redo cX8_redo 3 (some .int) 1 := ⟨tw1308, tw64, by decide +kernel, by decide +kernel, by decide +kernel⟩
def wp_X8_redo_40 (p0 : Int32) (post : Int32 → FO → Prop) (y1 : Int32) (o : FO) : Prop :=
∀ o9, o9 = sI o 0 y1 →
(((fI o9 0) ≤ 0 → vp_in p0 6 ∧
vp_in p0 6 ∧
∀ o14, o14 = sA o9 9 p0.toNatClampNeg ((fA o9 9 p0.toNatClampNeg) - 1) →
vp_in p0 6 ∧
vp_in ((200 * p0) + (fA o14 9 p0.toNatClampNeg)) 1200 ∧
vp_in (fA o14 8 ((200 * p0) + (fA o14 9 p0.toNatClampNeg)).toNatClampNeg) 200 ∧
∀ o19, o19 = sA o14 7 (fA o14 8 ((200 * p0) + (fA o14 9 p0.toNatClampNeg)).toNatClampNeg).toNatClampNeg (vp_nar .boolean 1) →
wp_X8_anew o19 (fun o21 =>
post (fA o14 8 ((200 * p0) + (fA o14 9 p0.toNatClampNeg)).toNatClampNeg) o21)) ∧ (¬ (fI o9 0) ≤ 0 → post 0 o9))
def wp_X8_redo_13 (p0 : Int32) (post : Int32 → FO → Prop) (y1 : Int32) (o : FO) : Prop :=
∀ o4, o4 = sI o 0 y1 →
(((fI o4 0) ≤ 0 → vp_in p0 6 ∧
((¬ (fA o4 9 p0.toNatClampNeg) = 0 → wp_X8_redo_40 p0 post 0 o4) ∧ ((fA o4 9 p0.toNatClampNeg) = 0 → wp_X8_redo_40 p0 post 2 o4))) ∧ (¬ (fI o4 0) ≤ 0 → post 0 o4))
def wp_X8_redo (p0 : Int32) (o : FO) (post : Int32 → FO → Prop) : Prop :=
wp_X8_isHand p0 (fun r1 =>
((r1 = 0 → wp_X8_redo_13 p0 post 1 o) ∧ (¬ r1 = 0 → wp_X8_redo_13 p0 post 0 o)))
set_option maxHeartbeats 4000000 in
set_option maxRecDepth 100000 in
theorem t_X8_redo_40 {X : gCx} {a : Nat}  {p0 : Int32} {post : Int32 → FO → Prop} {g : GH}   (C : gC X cX8_redo RX8 (some .int) rm_X8_redo) (hn : xn X = 3) (hQ : gRet X (gQi (xY X) (fun r9 g9 => ∃ o9, g9 = hu g a (9, o9) ∧ post r9 o9)) 0 0 ∨ gRex X (gQi (xY X) (fun r9 g9 => ∃ o9, g9 = hu g a (9, o9) ∧ post r9 o9)) (fun _ _ => False) 0 0)    : ∀ (y1 : Int32) (o : FO), wp_X8_redo_40 p0 post y1 o → gX X 0 0 40 [(0, .ref a), (1, .int p0)] [.int y1, .ref a] (hu g a (9, o)) := by
  intro y1 o w
  unfold wp_X8_redo_40 at w
  obtain ⟨o9, e10⟩ : ∃ z, z = sI o 0 y1 := ⟨_, rfl⟩
  have w := w o9 e10
  refine rp_X8_X8_thrown C dX8_redo_40 hu_s e10 hu_hu.symm (r_aload_n C 0 dX8_redo_43 rfl (rg_X8_X8_thrown C dX8_redo_44 hu_s (r_if_le C 52 dX8_redo_47 (by decide) (fun c11 => ?_) (fun c11 => ?_))))
  · have w := w.1 c11
    obtain ⟨i12, w⟩ := w
    obtain ⟨i13, w⟩ := w
    obtain ⟨o14, e15⟩ : ∃ z, z = sA o9 9 p0.toNatClampNeg ((fA o9 9 p0.toNatClampNeg) - 1) := ⟨_, rfl⟩
    have w := w o14 e15
    obtain ⟨i16, w⟩ := w
    obtain ⟨i17, w⟩ := w
    obtain ⟨i18, w⟩ := w
    obtain ⟨o19, e20⟩ : ∃ z, z = sA o14 7 (fA o14 8 ((200 * p0) + (fA o14 9 p0.toNatClampNeg)).toNatClampNeg).toNatClampNeg (vp_nar .boolean 1) := ⟨_, rfl⟩
    have w := w o19 e20
    refine r_aload_n C 0 dX8_redo_52 rfl (rg_X8_X8_undoings C dX8_redo_53 hu_s (r_iload_n C 1 dX8_redo_56 rfl (r_dup2 C dX8_redo_57 rfl rfl (r_iald (ci := 9) (k := 9) C dX8_redo_58 rfl rfl hu_s i12 (r_iconst C (v := 1) dX8_redo_59 (by decide) (r_isub C dX8_redo_60 (r_iast (ci := 9) (k := 9) C dX8_redo_61 rfl rfl hu_s i13 e15 hu_hu.symm (r_aload_n C 0 dX8_redo_62 rfl (rg_X8_X8_undone C dX8_redo_63 hu_s (r_sipush C (v := 200) dX8_redo_66 (by decide) (r_iload_n C 1 dX8_redo_69 rfl (r_imul C dX8_redo_70 (r_aload_n C 0 dX8_redo_71 rfl (rg_X8_X8_undoings C dX8_redo_72 hu_s (r_iload_n C 1 dX8_redo_75 rfl (r_iald (ci := 9) (k := 9) C dX8_redo_76 rfl rfl hu_s i16 (r_iadd C dX8_redo_77 (r_iald (ci := 9) (k := 8) C dX8_redo_78 rfl rfl hu_s i17 (r_istore_n C dX8_redo_79 (nlt hn (by decide)) rfl (r_aload_n C 1 dX8_redo_80 rfl (rg_X8_X8_isLive C dX8_redo_81 hu_s (r_iload_n C 0 dX8_redo_84 rfl (r_iconst C (v := 1) dX8_redo_85 (by decide) (r_zast (ci := 9) (k := 7) C dX8_redo_86 rfl rfl hu_s i18 e20 hu_hu.symm (r_aload_n C 1 dX8_redo_87 rfl (r_gov (r_runV C dX8_redo_88 (m_X8_anew hu_s w) mt_X8_anew tw1225 tw1227 tw33 gcl_9.1 hu_s rfl (stk := []) rfl (Nat.le_of_ble_eq_true rfl) ⟨rfl, rfl, ⟨Nat.le_of_ble_eq_true rfl, Nat.le_of_ble_eq_true rfl⟩, ⟨Nat.le_of_ble_eq_true rfl, Nat.le_of_ble_eq_true rfl⟩⟩) ?_))))))))))))))))))))))))))
    intro  h22 hp
    obtain ⟨o21, rfl, w⟩ := hp
    refine gX_eq hu_hu ?_
    exact r_iload_n C 0 dX8_redo_91 rfl (r_iret C hQ dX8_redo_92 rfl (vp_nar_int _) ⟨Nat.le_of_ble_eq_true rfl, Nat.le_of_ble_eq_true rfl⟩ ⟨_, rfl, w⟩)
  · have w := w.2 c11
    exact r_iconst C (v := 0) dX8_redo_50 (by decide) (r_iret C hQ dX8_redo_51 rfl (vp_nar_int _) ⟨Nat.le_of_ble_eq_true rfl, Nat.le_of_ble_eq_true rfl⟩ ⟨_, rfl, w⟩)
set_option maxHeartbeats 4000000 in
set_option maxRecDepth 100000 in
theorem t_X8_redo_13 {X : gCx} {a : Nat}  {p0 : Int32} {post : Int32 → FO → Prop} {g : GH}   (C : gC X cX8_redo RX8 (some .int) rm_X8_redo) (hn : xn X = 3) (hQ : gRet X (gQi (xY X) (fun r9 g9 => ∃ o9, g9 = hu g a (9, o9) ∧ post r9 o9)) 0 0 ∨ gRex X (gQi (xY X) (fun r9 g9 => ∃ o9, g9 = hu g a (9, o9) ∧ post r9 o9)) (fun _ _ => False) 0 0)    : ∀ (y1 : Int32) (o : FO), wp_X8_redo_13 p0 post y1 o → gX X 0 0 13 [(0, .ref a), (1, .int p0)] [.int y1, .ref a] (hu g a (9, o)) := by
  intro y1 o w
  unfold wp_X8_redo_13 at w
  obtain ⟨o4, e5⟩ : ∃ z, z = sI o 0 y1 := ⟨_, rfl⟩
  have w := w o4 e5
  refine rp_X8_X8_thrown C dX8_redo_13 hu_s e5 hu_hu.symm (r_aload_n C 0 dX8_redo_16 rfl (rg_X8_X8_thrown C dX8_redo_17 hu_s (r_if_le C 25 dX8_redo_20 (by decide) (fun c6 => ?_) (fun c6 => ?_))))
  · have w := w.1 c6
    obtain ⟨i7, w⟩ := w
    refine r_aload_n C 0 dX8_redo_25 rfl (r_aload_n C 0 dX8_redo_26 rfl (rg_X8_X8_undoings C dX8_redo_27 hu_s (r_iload_n C 1 dX8_redo_30 rfl (r_iald (ci := 9) (k := 9) C dX8_redo_31 rfl rfl hu_s i7 (r_if_ne C 39 dX8_redo_32 (by decide) (fun c8 => ?_) (fun c8 => ?_))))))
    · have w := w.1 c8
      exact r_iconst C (v := 0) dX8_redo_39 (by decide) (r_sub [0, 1] rfl (t_X8_redo_40 C hn hQ _ _ w))
    · have w := w.2 c8
      exact r_iconst C (v := 2) dX8_redo_35 (by decide) (r_goto C 40 dX8_redo_36 (by decide) (r_sub [0, 1] rfl (t_X8_redo_40 C hn hQ _ _ w)))
  · have w := w.2 c6
    exact r_iconst C (v := 0) dX8_redo_23 (by decide) (r_iret C hQ dX8_redo_24 rfl (vp_nar_int _) ⟨Nat.le_of_ble_eq_true rfl, Nat.le_of_ble_eq_true rfl⟩ ⟨_, rfl, w⟩)
set_option maxHeartbeats 4000000 in
set_option maxRecDepth 100000 in
theorem m_X8_redo {Y : gWx} {a : Nat}  {p0 : Int32} {post : Int32 → FO → Prop} {g : GH}  {o : FO} (hg : g a = some (9, o))    (w : wp_X8_redo p0 o post) : gMet Y yX8_redo cX8_redo 3 (some .int) rm_X8_redo [.ref a, .int p0] g (gQi Y (fun r9 g9 => ∃ o9, g9 = hu g a (9, o9) ∧ post r9 o9)) 0 0 := by
  refine gm_of rfl (Nat.le_of_ble_eq_true rfl) ?_
  intro X hY hn C hnm hQ
  subst hY
  have hQ : gRet X (gQi (xY X) (fun r9 g9 => ∃ o9, g9 = hu g a (9, o9) ∧ post r9 o9)) 0 0 ∨ gRex X (gQi (xY X) (fun r9 g9 => ∃ o9, g9 = hu g a (9, o9) ∧ post r9 o9)) (fun _ _ => False) 0 0 := Or.inl hQ
  have C : gC X cX8_redo RX8 (some .int) rm_X8_redo := C
  refine gX_eq (hu_id hg).symm ?_
  show gX X 0 0 0 [(0, .ref a), (1, .int p0)] [] (hu g a (9, o))
  unfold wp_X8_redo at w
  refine r_aload_n C 0 dX8_redo_0 rfl (r_iload_n C 1 dX8_redo_1 rfl (r_goi (r_runS C dX8_redo_2 (m_X8_isHand w) mt_X8_isHand tw1218 tw1219 rfl (stk := [.ref a]) rfl (Nat.le_of_ble_eq_true rfl) ⟨rfl, rfl, ⟨Nat.le_of_ble_eq_true rfl, Nat.le_of_ble_eq_true rfl⟩, ⟨Nat.le_of_ble_eq_true rfl, Nat.le_of_ble_eq_true rfl⟩⟩) ?_))
  intro r1 h2 hp
  obtain ⟨rfl, w⟩ := hp
  refine r_if_eq C 12 dX8_redo_5 (by decide) (fun c3 => ?_) (fun c3 => ?_)
  · have w := w.1 c3
    exact r_iconst C (v := 1) dX8_redo_12 (by decide) (r_sub [0, 1] rfl (t_X8_redo_13 C hn hQ _ _ w))
  · have w := w.2 c3
    exact r_iconst C (v := 0) dX8_redo_8 (by decide) (r_goto C 13 dX8_redo_9 (by decide) (r_sub [0, 1] rfl (t_X8_redo_13 C hn hQ _ _ w)))
def rm_X8_acts : Room := { frames := 0, cells := 0, slots := 0, locals := 0 }
theorem mt_X8_acts : gMt yX8_acts cX8_acts 1 (some .int) 0 := ⟨tw1312, tw64, by decide +kernel, by decide +kernel, by decide +kernel⟩
def wp_X8_acts (o : FO) (post : Int32 → FO → Prop) : Prop :=
∀ o1, o1 = sI o 0 0 →
post (fI o1 1) o1
set_option maxHeartbeats 4000000 in
set_option maxRecDepth 100000 in
theorem m_X8_acts {Y : gWx} {a : Nat}   {post : Int32 → FO → Prop} {g : GH}  {o : FO} (hg : g a = some (9, o))    (w : wp_X8_acts o post) : gMet Y yX8_acts cX8_acts 1 (some .int) rm_X8_acts [.ref a] g (gQi Y (fun r9 g9 => ∃ o9, g9 = hu g a (9, o9) ∧ post r9 o9)) 0 0 := by
  refine gm_of rfl (Nat.le_of_ble_eq_true rfl) ?_
  intro X hY hn C hnm hQ
  subst hY
  have hQ : gRet X (gQi (xY X) (fun r9 g9 => ∃ o9, g9 = hu g a (9, o9) ∧ post r9 o9)) 0 0 ∨ gRex X (gQi (xY X) (fun r9 g9 => ∃ o9, g9 = hu g a (9, o9) ∧ post r9 o9)) (fun _ _ => False) 0 0 := Or.inl hQ
  have C : gC X cX8_acts RX8 (some .int) rm_X8_acts := C
  refine gX_eq (hu_id hg).symm ?_
  show gX X 0 0 0 [(0, .ref a)] [] (hu g a (9, o))
  unfold wp_X8_acts at w
  obtain ⟨o1, e2⟩ : ∃ z, z = sI o 0 0 := ⟨_, rfl⟩
  have w := w o1 e2
  exact r_aload_n C 0 dX8_acts_0 rfl (r_iconst C (v := 0) dX8_acts_1 (by decide) (rp_X8_X8_thrown C dX8_acts_2 hu_s e2 hu_hu.symm (r_aload_n C 0 dX8_acts_5 rfl (rg_X8_X8_acts C dX8_acts_6 hu_s (r_iret C hQ dX8_acts_9 rfl (vp_nar_int _) ⟨Nat.le_of_ble_eq_true rfl, Nat.le_of_ble_eq_true rfl⟩ ⟨_, rfl, w⟩)))))
def rm_X8_isLive : Room := { frames := 2, cells := 0, slots := 0, locals := 43 }
theorem mt_X8_isLive : gMt yX8_isLive cX8_isLive 2 (some .boolean) 1 := ⟨tw1316, tw64, by decide +kernel, by decide +kernel, by decide +kernel⟩
def wp_X8_isLive_14 (p0 : Int32) (post : Int32 → FO → Prop) (y1 : Int32) (o : FO) : Prop :=
∀ o4, o4 = sI o 0 y1 →
((¬ (fI o4 0) = 0 → post 0 o4) ∧ ((fI o4 0) = 0 → vp_in p0 200 ∧
(((fA o4 7 p0.toNatClampNeg) = 0 → post 0 o4) ∧ (¬ (fA o4 7 p0.toNatClampNeg) = 0 → post 1 o4))))
def wp_X8_isLive (p0 : Int32) (o : FO) (post : Int32 → FO → Prop) : Prop :=
wp_X8_isAct p0 o (fun r1 =>
((r1 = 0 → wp_X8_isLive_14 p0 post 1 o) ∧ (¬ r1 = 0 → wp_X8_isLive_14 p0 post 0 o)))
set_option maxHeartbeats 4000000 in
set_option maxRecDepth 100000 in
theorem t_X8_isLive_14 {X : gCx} {a : Nat}  {p0 : Int32} {post : Int32 → FO → Prop} {g : GH}   (C : gC X cX8_isLive RX8 (some .boolean) rm_X8_isLive) (hn : xn X = 2) (hQ : gRet X (gQi (xY X) (fun r9 g9 => ∃ o9, g9 = hu g a (9, o9) ∧ post r9 o9)) 0 0 ∨ gRex X (gQi (xY X) (fun r9 g9 => ∃ o9, g9 = hu g a (9, o9) ∧ post r9 o9)) (fun _ _ => False) 0 0)    : ∀ (y1 : Int32) (o : FO), wp_X8_isLive_14 p0 post y1 o → gX X 0 0 14 [(0, .ref a), (1, .int p0)] [.int y1, .ref a] (hu g a (9, o)) := by
  intro y1 o w
  unfold wp_X8_isLive_14 at w
  obtain ⟨o4, e5⟩ : ∃ z, z = sI o 0 y1 := ⟨_, rfl⟩
  have w := w o4 e5
  refine rp_X8_X8_thrown C dX8_isLive_14 hu_s e5 hu_hu.symm (r_aload_n C 0 dX8_isLive_17 rfl (rg_X8_X8_thrown C dX8_isLive_18 hu_s (r_if_ne C 37 dX8_isLive_21 (by decide) (fun c6 => ?_) (fun c6 => ?_))))
  · have w := w.1 c6
    exact r_iconst C (v := 0) dX8_isLive_37 (by decide) (r_iret C hQ dX8_isLive_38 rfl rfl ⟨Nat.le_of_ble_eq_true rfl, Nat.le_of_ble_eq_true rfl⟩ ⟨_, rfl, w⟩)
  · have w := w.2 c6
    obtain ⟨i7, w⟩ := w
    refine r_aload_n C 0 dX8_isLive_24 rfl (rg_X8_X8_isLive C dX8_isLive_25 hu_s (r_iload_n C 1 dX8_isLive_28 rfl (r_zald (ci := 9) (k := 7) C dX8_isLive_29 rfl rfl hu_s i7 (r_if_eq C 37 dX8_isLive_30 (by decide) (fun c8 => ?_) (fun c8 => ?_)))))
    · have w := w.1 c8
      exact r_iconst C (v := 0) dX8_isLive_37 (by decide) (r_iret C hQ dX8_isLive_38 rfl rfl ⟨Nat.le_of_ble_eq_true rfl, Nat.le_of_ble_eq_true rfl⟩ ⟨_, rfl, w⟩)
    · have w := w.2 c8
      exact r_iconst C (v := 1) dX8_isLive_33 (by decide) (r_goto C 38 dX8_isLive_34 (by decide) (r_iret C hQ dX8_isLive_38 rfl rfl ⟨Nat.le_of_ble_eq_true rfl, Nat.le_of_ble_eq_true rfl⟩ ⟨_, rfl, w⟩))
set_option maxHeartbeats 4000000 in
set_option maxRecDepth 100000 in
theorem m_X8_isLive {Y : gWx} {a : Nat}  {p0 : Int32} {post : Int32 → FO → Prop} {g : GH}  {o : FO} (hg : g a = some (9, o))    (w : wp_X8_isLive p0 o post) : gMet Y yX8_isLive cX8_isLive 2 (some .boolean) rm_X8_isLive [.ref a, .int p0] g (gQi Y (fun r9 g9 => ∃ o9, g9 = hu g a (9, o9) ∧ post r9 o9)) 0 0 := by
  refine gm_of rfl (Nat.le_of_ble_eq_true rfl) ?_
  intro X hY hn C hnm hQ
  subst hY
  have hQ : gRet X (gQi (xY X) (fun r9 g9 => ∃ o9, g9 = hu g a (9, o9) ∧ post r9 o9)) 0 0 ∨ gRex X (gQi (xY X) (fun r9 g9 => ∃ o9, g9 = hu g a (9, o9) ∧ post r9 o9)) (fun _ _ => False) 0 0 := Or.inl hQ
  have C : gC X cX8_isLive RX8 (some .boolean) rm_X8_isLive := C
  refine gX_eq (hu_id hg).symm ?_
  show gX X 0 0 0 [(0, .ref a), (1, .int p0)] [] (hu g a (9, o))
  unfold wp_X8_isLive at w
  refine r_aload_n C 0 dX8_isLive_0 rfl (r_aload_n C 0 dX8_isLive_1 rfl (r_iload_n C 1 dX8_isLive_2 rfl (r_goi (r_runV C dX8_isLive_3 (m_X8_isAct hu_s w) mt_X8_isAct tw1317 tw1319 tw46 gcl_9.1 hu_s rfl (stk := [.ref a]) rfl (Nat.le_of_ble_eq_true rfl) ⟨rfl, rfl, ⟨Nat.le_of_ble_eq_true rfl, Nat.le_of_ble_eq_true rfl⟩, ⟨Nat.le_of_ble_eq_true rfl, Nat.le_of_ble_eq_true rfl⟩⟩) ?_)))
  intro r1 h2 hp
  obtain ⟨rfl, w⟩ := hp
  refine r_if_eq C 13 dX8_isLive_6 (by decide) (fun c3 => ?_) (fun c3 => ?_)
  · have w := w.1 c3
    exact r_iconst C (v := 1) dX8_isLive_13 (by decide) (r_sub [0, 1] rfl (t_X8_isLive_14 C hn hQ _ _ w))
  · have w := w.2 c3
    exact r_iconst C (v := 0) dX8_isLive_9 (by decide) (r_goto C 14 dX8_isLive_10 (by decide) (r_sub [0, 1] rfl (t_X8_isLive_14 C hn hQ _ _ w)))
def rm_X8_holder : Room := { frames := 2, cells := 0, slots := 0, locals := 43 }
theorem mt_X8_holder : gMt yX8_holder cX8_holder 2 (some .int) 1 := ⟨tw1324, tw64, by decide +kernel, by decide +kernel, by decide +kernel⟩
def wp_X8_holder_14 (p0 : Int32) (post : Int32 → FO → Prop) (y1 : Int32) (o : FO) : Prop :=
∀ o4, o4 = sI o 0 y1 →
(((fI o4 0) ≤ 0 → wp_X8_holderOf p0 o4 (fun r7 =>
post r7 o4)) ∧ (¬ (fI o4 0) ≤ 0 → post 0 o4))
def wp_X8_holder (p0 : Int32) (o : FO) (post : Int32 → FO → Prop) : Prop :=
wp_X8_isAct p0 o (fun r1 =>
((r1 = 0 → wp_X8_holder_14 p0 post 1 o) ∧ (¬ r1 = 0 → wp_X8_holder_14 p0 post 0 o)))
set_option maxHeartbeats 4000000 in
set_option maxRecDepth 100000 in
theorem t_X8_holder_14 {X : gCx} {a : Nat}  {p0 : Int32} {post : Int32 → FO → Prop} {g : GH}   (C : gC X cX8_holder RX8 (some .int) rm_X8_holder) (hn : xn X = 2) (hQ : gRet X (gQi (xY X) (fun r9 g9 => ∃ o9, g9 = hu g a (9, o9) ∧ post r9 o9)) 0 0 ∨ gRex X (gQi (xY X) (fun r9 g9 => ∃ o9, g9 = hu g a (9, o9) ∧ post r9 o9)) (fun _ _ => False) 0 0)    : ∀ (y1 : Int32) (o : FO), wp_X8_holder_14 p0 post y1 o → gX X 0 0 14 [(0, .ref a), (1, .int p0)] [.int y1, .ref a] (hu g a (9, o)) := by
  intro y1 o w
  unfold wp_X8_holder_14 at w
  obtain ⟨o4, e5⟩ : ∃ z, z = sI o 0 y1 := ⟨_, rfl⟩
  have w := w o4 e5
  refine rp_X8_X8_thrown C dX8_holder_14 hu_s e5 hu_hu.symm (r_aload_n C 0 dX8_holder_17 rfl (rg_X8_X8_thrown C dX8_holder_18 hu_s (r_if_le C 28 dX8_holder_21 (by decide) (fun c6 => ?_) (fun c6 => ?_))))
  · have w := w.1 c6
    refine r_aload_n C 0 dX8_holder_28 rfl (r_iload_n C 1 dX8_holder_29 rfl (r_goi (r_runV C dX8_holder_30 (m_X8_holderOf hu_s w) mt_X8_holderOf tw1301 tw1303 tw45 gcl_9.1 hu_s rfl (stk := []) rfl (Nat.le_of_ble_eq_true rfl) ⟨rfl, rfl, ⟨Nat.le_of_ble_eq_true rfl, Nat.le_of_ble_eq_true rfl⟩, ⟨Nat.le_of_ble_eq_true rfl, Nat.le_of_ble_eq_true rfl⟩⟩) ?_))
    intro r7 h8 hp
    obtain ⟨rfl, w⟩ := hp
    exact r_iret C hQ dX8_holder_33 rfl (vp_nar_int _) ⟨Nat.le_of_ble_eq_true rfl, Nat.le_of_ble_eq_true rfl⟩ ⟨_, rfl, w⟩
  · have w := w.2 c6
    exact r_iconst C (v := 0) dX8_holder_24 (by decide) (r_goto C 33 dX8_holder_25 (by decide) (r_iret C hQ dX8_holder_33 rfl (vp_nar_int _) ⟨Nat.le_of_ble_eq_true rfl, Nat.le_of_ble_eq_true rfl⟩ ⟨_, rfl, w⟩))
set_option maxHeartbeats 4000000 in
set_option maxRecDepth 100000 in
theorem m_X8_holder {Y : gWx} {a : Nat}  {p0 : Int32} {post : Int32 → FO → Prop} {g : GH}  {o : FO} (hg : g a = some (9, o))    (w : wp_X8_holder p0 o post) : gMet Y yX8_holder cX8_holder 2 (some .int) rm_X8_holder [.ref a, .int p0] g (gQi Y (fun r9 g9 => ∃ o9, g9 = hu g a (9, o9) ∧ post r9 o9)) 0 0 := by
  refine gm_of rfl (Nat.le_of_ble_eq_true rfl) ?_
  intro X hY hn C hnm hQ
  subst hY
  have hQ : gRet X (gQi (xY X) (fun r9 g9 => ∃ o9, g9 = hu g a (9, o9) ∧ post r9 o9)) 0 0 ∨ gRex X (gQi (xY X) (fun r9 g9 => ∃ o9, g9 = hu g a (9, o9) ∧ post r9 o9)) (fun _ _ => False) 0 0 := Or.inl hQ
  have C : gC X cX8_holder RX8 (some .int) rm_X8_holder := C
  refine gX_eq (hu_id hg).symm ?_
  show gX X 0 0 0 [(0, .ref a), (1, .int p0)] [] (hu g a (9, o))
  unfold wp_X8_holder at w
  refine r_aload_n C 0 dX8_holder_0 rfl (r_aload_n C 0 dX8_holder_1 rfl (r_iload_n C 1 dX8_holder_2 rfl (r_goi (r_runV C dX8_holder_3 (m_X8_isAct hu_s w) mt_X8_isAct tw1317 tw1319 tw46 gcl_9.1 hu_s rfl (stk := [.ref a]) rfl (Nat.le_of_ble_eq_true rfl) ⟨rfl, rfl, ⟨Nat.le_of_ble_eq_true rfl, Nat.le_of_ble_eq_true rfl⟩, ⟨Nat.le_of_ble_eq_true rfl, Nat.le_of_ble_eq_true rfl⟩⟩) ?_)))
  intro r1 h2 hp
  obtain ⟨rfl, w⟩ := hp
  refine r_if_eq C 13 dX8_holder_6 (by decide) (fun c3 => ?_) (fun c3 => ?_)
  · have w := w.1 c3
    exact r_iconst C (v := 1) dX8_holder_13 (by decide) (r_sub [0, 1] rfl (t_X8_holder_14 C hn hQ _ _ w))
  · have w := w.2 c3
    exact r_iconst C (v := 0) dX8_holder_9 (by decide) (r_goto C 14 dX8_holder_10 (by decide) (r_sub [0, 1] rfl (t_X8_holder_14 C hn hQ _ _ w)))
def rm_X8_shapes : Room := { frames := 0, cells := 0, slots := 0, locals := 0 }
theorem mt_X8_shapes : gMt yX8_shapes cX8_shapes 1 (some .int) 0 := ⟨tw1328, tw64, by decide +kernel, by decide +kernel, by decide +kernel⟩
def wp_X8_shapes (o : FO) (post : Int32 → FO → Prop) : Prop :=
∀ o1, o1 = sI o 0 0 →
post (fI o1 10) o1
set_option maxHeartbeats 4000000 in
set_option maxRecDepth 100000 in
theorem m_X8_shapes {Y : gWx} {a : Nat}   {post : Int32 → FO → Prop} {g : GH}  {o : FO} (hg : g a = some (9, o))    (w : wp_X8_shapes o post) : gMet Y yX8_shapes cX8_shapes 1 (some .int) rm_X8_shapes [.ref a] g (gQi Y (fun r9 g9 => ∃ o9, g9 = hu g a (9, o9) ∧ post r9 o9)) 0 0 := by
  refine gm_of rfl (Nat.le_of_ble_eq_true rfl) ?_
  intro X hY hn C hnm hQ
  subst hY
  have hQ : gRet X (gQi (xY X) (fun r9 g9 => ∃ o9, g9 = hu g a (9, o9) ∧ post r9 o9)) 0 0 ∨ gRex X (gQi (xY X) (fun r9 g9 => ∃ o9, g9 = hu g a (9, o9) ∧ post r9 o9)) (fun _ _ => False) 0 0 := Or.inl hQ
  have C : gC X cX8_shapes RX8 (some .int) rm_X8_shapes := C
  refine gX_eq (hu_id hg).symm ?_
  show gX X 0 0 0 [(0, .ref a)] [] (hu g a (9, o))
  unfold wp_X8_shapes at w
  obtain ⟨o1, e2⟩ : ∃ z, z = sI o 0 0 := ⟨_, rfl⟩
  have w := w o1 e2
  exact r_aload_n C 0 dX8_shapes_0 rfl (r_iconst C (v := 0) dX8_shapes_1 (by decide) (rp_X8_X8_thrown C dX8_shapes_2 hu_s e2 hu_hu.symm (r_aload_n C 0 dX8_shapes_5 rfl (rg_X8_X8_shapes C dX8_shapes_6 hu_s (r_iret C hQ dX8_shapes_9 rfl (vp_nar_int _) ⟨Nat.le_of_ble_eq_true rfl, Nat.le_of_ble_eq_true rfl⟩ ⟨_, rfl, w⟩)))))
def rm_X8_there : Room := { frames := 0, cells := 0, slots := 0, locals := 0 }
theorem mt_X8_there : gMt yX8_there cX8_there 4 (some .long) 0 := ⟨tw1332, tw64, by decide +kernel, by decide +kernel, by decide +kernel⟩
def wp_X8_there_34 (post : Int64 → FO → Prop) (k9 : Int64 → Int32 → FO → Prop) (x3 : Int32) (y0 : Int64) (y1 : Int64) (o : FO) : Prop :=
k9 (y0 ||| y1) (x3 + 1) o
def wp_X8_there_9 (post : Int64 → FO → Prop) : Nat → Int64 → Int32 → FO → Prop
  | 0, _, _, _ => False
  | n + 1, x1, x3, o =>
    (((fI o 10) ≤ x3 → post x1 o) ∧ (¬ (fI o 10) ≤ x3 → vp_in x3 40 ∧
    (((fA o 20 x3.toNatClampNeg) = 0 → wp_X8_there_34 post (fun x1 x3 o => wp_X8_there_9 post n x1 x3 o) x3 x1 0 o) ∧ (¬ (fA o 20 x3.toNatClampNeg) = 0 → wp_X8_there_34 post (fun x1 x3 o => wp_X8_there_9 post n x1 x3 o) x3 x1 (1 <<< (x3.toInt64 &&& 63)) o))))
def wp_X8_there (o : FO) (post : Int64 → FO → Prop) : Prop :=
∀ o1, o1 = sI o 0 0 →
wp_X8_there_9 post 1000 0 0 o1
set_option maxHeartbeats 4000000 in
set_option maxRecDepth 100000 in
theorem t_X8_there_34 {X : gCx} {a : Nat}   {post : Int64 → FO → Prop} {g : GH}  {k9 : Int64 → Int32 → FO → Prop} (C : gC X cX8_there RX8 (some .long) rm_X8_there) (hn : xn X = 4) (hQ : gRet X (gQl (xY X) (fun r9 g9 => ∃ o9, g9 = hu g a (9, o9) ∧ post r9 o9)) 0 0 ∨ gRex X (gQl (xY X) (fun r9 g9 => ∃ o9, g9 = hu g a (9, o9) ∧ post r9 o9)) (fun _ _ => False) 0 0)   (hk9 : ∀ (x1 : Int64) (x3 : Int32) (o : FO), k9 x1 x3 o → gX X 0 0 9 [(0, .ref a), (1, .long x1), (3, .int x3)] [] (hu g a (9, o))) : ∀ (x3 : Int32) (y0 : Int64) (y1 : Int64) (o : FO), wp_X8_there_34 post k9 x3 y0 y1 o → gX X 0 0 34 [(0, .ref a), (3, .int x3)] [.long y1, .long y0] (hu g a (9, o)) := by
  intro x3 y0 y1 o w
  unfold wp_X8_there_34 at w
  exact r_lor C dX8_there_34 (r_lstore_n C dX8_there_35 (nlt hn (by decide)) rfl (r_iinc C (v := x3 + 1) 2 dX8_there_36 rfl rfl (nlt hn (by decide)) rfl (r_goto C 9 dX8_there_39 (by decide) (r_sub [2, 1, 0] rfl (hk9 _ _ _ w)))))
set_option maxHeartbeats 4000000 in
set_option maxRecDepth 100000 in
theorem t_X8_there_9 {X : gCx} {a : Nat}   {post : Int64 → FO → Prop} {g : GH}   (C : gC X cX8_there RX8 (some .long) rm_X8_there) (hn : xn X = 4) (hQ : gRet X (gQl (xY X) (fun r9 g9 => ∃ o9, g9 = hu g a (9, o9) ∧ post r9 o9)) 0 0 ∨ gRex X (gQl (xY X) (fun r9 g9 => ∃ o9, g9 = hu g a (9, o9) ∧ post r9 o9)) (fun _ _ => False) 0 0)    : ∀ (n : Nat) (x1 : Int64) (x3 : Int32) (o : FO), wp_X8_there_9 post n x1 x3 o → gX X 0 0 9 [(0, .ref a), (1, .long x1), (3, .int x3)] [] (hu g a (9, o)) := by
  intro n
  induction n with
  | zero => intro x1 x3 o w; exact w.elim
  | succ n ih =>
    intro x1 x3 o w
    unfold wp_X8_there_9 at w
    refine r_iload_n C 2 dX8_there_9 rfl (r_aload_n C 0 dX8_there_10 rfl (rg_X8_X8_shapes C dX8_there_11 hu_s (r_icmp_ge C 42 dX8_there_14 (by decide) (fun c3 => ?_) (fun c3 => ?_))))
    · have w := w.1 c3
      exact r_lload_n C 1 dX8_there_42 rfl (r_lret C hQ dX8_there_43 rfl ⟨Nat.le_of_ble_eq_true rfl, Nat.le_of_ble_eq_true rfl⟩ ⟨_, rfl, w⟩)
    · have w := w.2 c3
      obtain ⟨i4, w⟩ := w
      refine r_lload_n C 1 dX8_there_17 rfl (r_aload_n C 0 dX8_there_18 rfl (rg_X8_X8_isThere C dX8_there_19 hu_s (r_iload_n C 2 dX8_there_22 rfl (r_zald (ci := 9) (k := 20) C dX8_there_23 rfl rfl hu_s i4 (r_if_eq C 33 dX8_there_24 (by decide) (fun c5 => ?_) (fun c5 => ?_))))))
      · have w := w.1 c5
        exact r_lconst C (v := 0) dX8_there_33 (by decide) (r_sub [0, 2] rfl (t_X8_there_34 C hn hQ ih _ _ _ _ w))
      · have w := w.2 c5
        exact r_lconst C (v := 1) dX8_there_27 (by decide) (r_iload_n C 2 dX8_there_28 rfl (r_lshl C dX8_there_29 (r_goto C 34 dX8_there_30 (by decide) (r_sub [0, 2] rfl (t_X8_there_34 C hn hQ ih _ _ _ _ w)))))
set_option maxHeartbeats 4000000 in
set_option maxRecDepth 100000 in
theorem m_X8_there {Y : gWx} {a : Nat}   {post : Int64 → FO → Prop} {g : GH}  {o : FO} (hg : g a = some (9, o))    (w : wp_X8_there o post) : gMet Y yX8_there cX8_there 4 (some .long) rm_X8_there [.ref a] g (gQl Y (fun r9 g9 => ∃ o9, g9 = hu g a (9, o9) ∧ post r9 o9)) 0 0 := by
  refine gm_of rfl (Nat.le_of_ble_eq_true rfl) ?_
  intro X hY hn C hnm hQ
  subst hY
  have hQ : gRet X (gQl (xY X) (fun r9 g9 => ∃ o9, g9 = hu g a (9, o9) ∧ post r9 o9)) 0 0 ∨ gRex X (gQl (xY X) (fun r9 g9 => ∃ o9, g9 = hu g a (9, o9) ∧ post r9 o9)) (fun _ _ => False) 0 0 := Or.inl hQ
  have C : gC X cX8_there RX8 (some .long) rm_X8_there := C
  refine gX_eq (hu_id hg).symm ?_
  show gX X 0 0 0 [(0, .ref a)] [] (hu g a (9, o))
  unfold wp_X8_there at w
  obtain ⟨o1, e2⟩ : ∃ z, z = sI o 0 0 := ⟨_, rfl⟩
  have w := w o1 e2
  exact r_aload_n C 0 dX8_there_0 rfl (r_iconst C (v := 0) dX8_there_1 (by decide) (rp_X8_X8_thrown C dX8_there_2 hu_s e2 hu_hu.symm (r_lconst C (v := 0) dX8_there_5 (by decide) (r_lstore_n C dX8_there_6 (nlt hn (by decide)) rfl (r_iconst C (v := 0) dX8_there_7 (by decide) (r_istore_n C dX8_there_8 (nlt hn (by decide)) rfl (r_sub [2, 1, 0] rfl (t_X8_there_9 C hn hQ 1000 _ _ _ w))))))))
def rm_X8_place : Room := { frames := 2, cells := 0, slots := 0, locals := 43 }
theorem mt_X8_place : gMt yX8_place cX8_place 2 (some .int) 1 := ⟨tw1336, tw64, by decide +kernel, by decide +kernel, by decide +kernel⟩
def wp_X8_place_41 (p0 : Int32) (post : Int32 → FO → Prop) (y1 : Int32) (o : FO) : Prop :=
∀ o9, o9 = sI o 0 y1 →
(((fI o9 0) ≤ 0 → vp_in p0 40 ∧
vp_in p0 40 ∧
post ((10000 * (fA o9 22 p0.toNatClampNeg)) + (fA o9 21 p0.toNatClampNeg)) o9) ∧ (¬ (fI o9 0) ≤ 0 → post 0 o9))
def wp_X8_place_14 (p0 : Int32) (post : Int32 → FO → Prop) (y1 : Int32) (o : FO) : Prop :=
∀ o4, o4 = sI o 0 y1 →
(((fI o4 0) ≤ 0 → vp_in p0 40 ∧
(((fA o4 20 p0.toNatClampNeg) = 0 → wp_X8_place_41 p0 post 2 o4) ∧ (¬ (fA o4 20 p0.toNatClampNeg) = 0 → wp_X8_place_41 p0 post 0 o4))) ∧ (¬ (fI o4 0) ≤ 0 → post 0 o4))
def wp_X8_place (p0 : Int32) (o : FO) (post : Int32 → FO → Prop) : Prop :=
wp_X8_isShape p0 o (fun r1 =>
((r1 = 0 → wp_X8_place_14 p0 post 1 o) ∧ (¬ r1 = 0 → wp_X8_place_14 p0 post 0 o)))
set_option maxHeartbeats 4000000 in
set_option maxRecDepth 100000 in
theorem t_X8_place_41 {X : gCx} {a : Nat}  {p0 : Int32} {post : Int32 → FO → Prop} {g : GH}   (C : gC X cX8_place RX8 (some .int) rm_X8_place) (hn : xn X = 2) (hQ : gRet X (gQi (xY X) (fun r9 g9 => ∃ o9, g9 = hu g a (9, o9) ∧ post r9 o9)) 0 0 ∨ gRex X (gQi (xY X) (fun r9 g9 => ∃ o9, g9 = hu g a (9, o9) ∧ post r9 o9)) (fun _ _ => False) 0 0)    : ∀ (y1 : Int32) (o : FO), wp_X8_place_41 p0 post y1 o → gX X 0 0 41 [(0, .ref a), (1, .int p0)] [.int y1, .ref a] (hu g a (9, o)) := by
  intro y1 o w
  unfold wp_X8_place_41 at w
  obtain ⟨o9, e10⟩ : ∃ z, z = sI o 0 y1 := ⟨_, rfl⟩
  have w := w o9 e10
  refine rp_X8_X8_thrown C dX8_place_41 hu_s e10 hu_hu.symm (r_aload_n C 0 dX8_place_44 rfl (rg_X8_X8_thrown C dX8_place_45 hu_s (r_if_le C 55 dX8_place_48 (by decide) (fun c11 => ?_) (fun c11 => ?_))))
  · have w := w.1 c11
    obtain ⟨i12, w⟩ := w
    obtain ⟨i13, w⟩ := w
    exact r_sipush C (v := 10000) dX8_place_55 (by decide) (r_aload_n C 0 dX8_place_58 rfl (rg_X8_X8_row C dX8_place_59 hu_s (r_iload_n C 1 dX8_place_62 rfl (r_iald (ci := 9) (k := 22) C dX8_place_63 rfl rfl hu_s i12 (r_imul C dX8_place_64 (r_aload_n C 0 dX8_place_65 rfl (rg_X8_X8_column C dX8_place_66 hu_s (r_iload_n C 1 dX8_place_69 rfl (r_iald (ci := 9) (k := 21) C dX8_place_70 rfl rfl hu_s i13 (r_iadd C dX8_place_71 (r_iret C hQ dX8_place_72 rfl (vp_nar_int _) ⟨Nat.le_of_ble_eq_true rfl, Nat.le_of_ble_eq_true rfl⟩ ⟨_, rfl, w⟩)))))))))))
  · have w := w.2 c11
    exact r_iconst C (v := 0) dX8_place_51 (by decide) (r_goto C 72 dX8_place_52 (by decide) (r_iret C hQ dX8_place_72 rfl (vp_nar_int _) ⟨Nat.le_of_ble_eq_true rfl, Nat.le_of_ble_eq_true rfl⟩ ⟨_, rfl, w⟩))
set_option maxHeartbeats 4000000 in
set_option maxRecDepth 100000 in
theorem t_X8_place_14 {X : gCx} {a : Nat}  {p0 : Int32} {post : Int32 → FO → Prop} {g : GH}   (C : gC X cX8_place RX8 (some .int) rm_X8_place) (hn : xn X = 2) (hQ : gRet X (gQi (xY X) (fun r9 g9 => ∃ o9, g9 = hu g a (9, o9) ∧ post r9 o9)) 0 0 ∨ gRex X (gQi (xY X) (fun r9 g9 => ∃ o9, g9 = hu g a (9, o9) ∧ post r9 o9)) (fun _ _ => False) 0 0)    : ∀ (y1 : Int32) (o : FO), wp_X8_place_14 p0 post y1 o → gX X 0 0 14 [(0, .ref a), (1, .int p0)] [.int y1, .ref a] (hu g a (9, o)) := by
  intro y1 o w
  unfold wp_X8_place_14 at w
  obtain ⟨o4, e5⟩ : ∃ z, z = sI o 0 y1 := ⟨_, rfl⟩
  have w := w o4 e5
  refine rp_X8_X8_thrown C dX8_place_14 hu_s e5 hu_hu.symm (r_aload_n C 0 dX8_place_17 rfl (rg_X8_X8_thrown C dX8_place_18 hu_s (r_if_le C 26 dX8_place_21 (by decide) (fun c6 => ?_) (fun c6 => ?_))))
  · have w := w.1 c6
    obtain ⟨i7, w⟩ := w
    refine r_aload_n C 0 dX8_place_26 rfl (r_aload_n C 0 dX8_place_27 rfl (rg_X8_X8_isThere C dX8_place_28 hu_s (r_iload_n C 1 dX8_place_31 rfl (r_zald (ci := 9) (k := 20) C dX8_place_32 rfl rfl hu_s i7 (r_if_eq C 40 dX8_place_33 (by decide) (fun c8 => ?_) (fun c8 => ?_))))))
    · have w := w.1 c8
      exact r_iconst C (v := 2) dX8_place_40 (by decide) (r_sub [0, 1] rfl (t_X8_place_41 C hn hQ _ _ w))
    · have w := w.2 c8
      exact r_iconst C (v := 0) dX8_place_36 (by decide) (r_goto C 41 dX8_place_37 (by decide) (r_sub [0, 1] rfl (t_X8_place_41 C hn hQ _ _ w)))
  · have w := w.2 c6
    exact r_iconst C (v := 0) dX8_place_24 (by decide) (r_iret C hQ dX8_place_25 rfl (vp_nar_int _) ⟨Nat.le_of_ble_eq_true rfl, Nat.le_of_ble_eq_true rfl⟩ ⟨_, rfl, w⟩)
set_option maxHeartbeats 4000000 in
set_option maxRecDepth 100000 in
theorem m_X8_place {Y : gWx} {a : Nat}  {p0 : Int32} {post : Int32 → FO → Prop} {g : GH}  {o : FO} (hg : g a = some (9, o))    (w : wp_X8_place p0 o post) : gMet Y yX8_place cX8_place 2 (some .int) rm_X8_place [.ref a, .int p0] g (gQi Y (fun r9 g9 => ∃ o9, g9 = hu g a (9, o9) ∧ post r9 o9)) 0 0 := by
  refine gm_of rfl (Nat.le_of_ble_eq_true rfl) ?_
  intro X hY hn C hnm hQ
  subst hY
  have hQ : gRet X (gQi (xY X) (fun r9 g9 => ∃ o9, g9 = hu g a (9, o9) ∧ post r9 o9)) 0 0 ∨ gRex X (gQi (xY X) (fun r9 g9 => ∃ o9, g9 = hu g a (9, o9) ∧ post r9 o9)) (fun _ _ => False) 0 0 := Or.inl hQ
  have C : gC X cX8_place RX8 (some .int) rm_X8_place := C
  refine gX_eq (hu_id hg).symm ?_
  show gX X 0 0 0 [(0, .ref a), (1, .int p0)] [] (hu g a (9, o))
  unfold wp_X8_place at w
  refine r_aload_n C 0 dX8_place_0 rfl (r_aload_n C 0 dX8_place_1 rfl (r_iload_n C 1 dX8_place_2 rfl (r_goi (r_runV C dX8_place_3 (m_X8_isShape hu_s w) mt_X8_isShape tw1261 tw1263 tw41 gcl_9.1 hu_s rfl (stk := [.ref a]) rfl (Nat.le_of_ble_eq_true rfl) ⟨rfl, rfl, ⟨Nat.le_of_ble_eq_true rfl, Nat.le_of_ble_eq_true rfl⟩, ⟨Nat.le_of_ble_eq_true rfl, Nat.le_of_ble_eq_true rfl⟩⟩) ?_)))
  intro r1 h2 hp
  obtain ⟨rfl, w⟩ := hp
  refine r_if_eq C 13 dX8_place_6 (by decide) (fun c3 => ?_) (fun c3 => ?_)
  · have w := w.1 c3
    exact r_iconst C (v := 1) dX8_place_13 (by decide) (r_sub [0, 1] rfl (t_X8_place_14 C hn hQ _ _ w))
  · have w := w.2 c3
    exact r_iconst C (v := 0) dX8_place_9 (by decide) (r_goto C 14 dX8_place_10 (by decide) (r_sub [0, 1] rfl (t_X8_place_14 C hn hQ _ _ w)))
def rm_X8_colour : Room := { frames := 2, cells := 0, slots := 0, locals := 43 }
theorem mt_X8_colour : gMt yX8_colour cX8_colour 2 (some .int) 1 := ⟨tw1340, tw64, by decide +kernel, by decide +kernel, by decide +kernel⟩
def wp_X8_colour_33 (p0 : Int32) (post : Int32 → FO → Prop)  (o : FO) : Prop :=
post 0 o
def wp_X8_colour_14 (p0 : Int32) (post : Int32 → FO → Prop) (y1 : Int32) (o : FO) : Prop :=
∀ o4, o4 = sI o 0 y1 →
((0 < (fI o4 0) → wp_X8_colour_33 p0 post o4) ∧ (¬ 0 < (fI o4 0) → vp_in p0 40 ∧
((¬ (fA o4 20 p0.toNatClampNeg) = 0 → vp_in p0 40 ∧
post (fA o4 23 p0.toNatClampNeg) o4) ∧ ((fA o4 20 p0.toNatClampNeg) = 0 → wp_X8_colour_33 p0 post o4))))
def wp_X8_colour (p0 : Int32) (o : FO) (post : Int32 → FO → Prop) : Prop :=
wp_X8_isShape p0 o (fun r1 =>
((r1 = 0 → wp_X8_colour_14 p0 post 1 o) ∧ (¬ r1 = 0 → wp_X8_colour_14 p0 post 0 o)))
set_option maxHeartbeats 4000000 in
set_option maxRecDepth 100000 in
theorem t_X8_colour_33 {X : gCx} {a : Nat}  {p0 : Int32} {post : Int32 → FO → Prop} {g : GH}   (C : gC X cX8_colour RX8 (some .int) rm_X8_colour) (hn : xn X = 2) (hQ : gRet X (gQi (xY X) (fun r9 g9 => ∃ o9, g9 = hu g a (9, o9) ∧ post r9 o9)) 0 0 ∨ gRex X (gQi (xY X) (fun r9 g9 => ∃ o9, g9 = hu g a (9, o9) ∧ post r9 o9)) (fun _ _ => False) 0 0)    : ∀ (o : FO), wp_X8_colour_33 p0 post o → gX X 0 0 33 [] [] (hu g a (9, o)) := by
  intro o w
  unfold wp_X8_colour_33 at w
  exact r_iconst C (v := 0) dX8_colour_33 (by decide) (r_goto C 43 dX8_colour_34 (by decide) (r_iret C hQ dX8_colour_43 rfl (vp_nar_int _) ⟨Nat.le_of_ble_eq_true rfl, Nat.le_of_ble_eq_true rfl⟩ ⟨_, rfl, w⟩))
set_option maxHeartbeats 4000000 in
set_option maxRecDepth 100000 in
theorem t_X8_colour_14 {X : gCx} {a : Nat}  {p0 : Int32} {post : Int32 → FO → Prop} {g : GH}   (C : gC X cX8_colour RX8 (some .int) rm_X8_colour) (hn : xn X = 2) (hQ : gRet X (gQi (xY X) (fun r9 g9 => ∃ o9, g9 = hu g a (9, o9) ∧ post r9 o9)) 0 0 ∨ gRex X (gQi (xY X) (fun r9 g9 => ∃ o9, g9 = hu g a (9, o9) ∧ post r9 o9)) (fun _ _ => False) 0 0)    : ∀ (y1 : Int32) (o : FO), wp_X8_colour_14 p0 post y1 o → gX X 0 0 14 [(0, .ref a), (1, .int p0)] [.int y1, .ref a] (hu g a (9, o)) := by
  intro y1 o w
  unfold wp_X8_colour_14 at w
  obtain ⟨o4, e5⟩ : ∃ z, z = sI o 0 y1 := ⟨_, rfl⟩
  have w := w o4 e5
  refine rp_X8_X8_thrown C dX8_colour_14 hu_s e5 hu_hu.symm (r_aload_n C 0 dX8_colour_17 rfl (rg_X8_X8_thrown C dX8_colour_18 hu_s (r_if_gt C 33 dX8_colour_21 (by decide) (fun c6 => ?_) (fun c6 => ?_))))
  · have w := w.1 c6
    exact r_sub [] rfl (t_X8_colour_33 C hn hQ _ w)
  · have w := w.2 c6
    obtain ⟨i7, w⟩ := w
    refine r_aload_n C 0 dX8_colour_24 rfl (rg_X8_X8_isThere C dX8_colour_25 hu_s (r_iload_n C 1 dX8_colour_28 rfl (r_zald (ci := 9) (k := 20) C dX8_colour_29 rfl rfl hu_s i7 (r_if_ne C 37 dX8_colour_30 (by decide) (fun c8 => ?_) (fun c8 => ?_)))))
    · have w := w.1 c8
      obtain ⟨i9, w⟩ := w
      exact r_aload_n C 0 dX8_colour_37 rfl (rg_X8_X8_colour C dX8_colour_38 hu_s (r_iload_n C 1 dX8_colour_41 rfl (r_iald (ci := 9) (k := 23) C dX8_colour_42 rfl rfl hu_s i9 (r_iret C hQ dX8_colour_43 rfl (vp_nar_int _) ⟨Nat.le_of_ble_eq_true rfl, Nat.le_of_ble_eq_true rfl⟩ ⟨_, rfl, w⟩))))
    · have w := w.2 c8
      exact r_sub [] rfl (t_X8_colour_33 C hn hQ _ w)
set_option maxHeartbeats 4000000 in
set_option maxRecDepth 100000 in
theorem m_X8_colour {Y : gWx} {a : Nat}  {p0 : Int32} {post : Int32 → FO → Prop} {g : GH}  {o : FO} (hg : g a = some (9, o))    (w : wp_X8_colour p0 o post) : gMet Y yX8_colour cX8_colour 2 (some .int) rm_X8_colour [.ref a, .int p0] g (gQi Y (fun r9 g9 => ∃ o9, g9 = hu g a (9, o9) ∧ post r9 o9)) 0 0 := by
  refine gm_of rfl (Nat.le_of_ble_eq_true rfl) ?_
  intro X hY hn C hnm hQ
  subst hY
  have hQ : gRet X (gQi (xY X) (fun r9 g9 => ∃ o9, g9 = hu g a (9, o9) ∧ post r9 o9)) 0 0 ∨ gRex X (gQi (xY X) (fun r9 g9 => ∃ o9, g9 = hu g a (9, o9) ∧ post r9 o9)) (fun _ _ => False) 0 0 := Or.inl hQ
  have C : gC X cX8_colour RX8 (some .int) rm_X8_colour := C
  refine gX_eq (hu_id hg).symm ?_
  show gX X 0 0 0 [(0, .ref a), (1, .int p0)] [] (hu g a (9, o))
  unfold wp_X8_colour at w
  refine r_aload_n C 0 dX8_colour_0 rfl (r_aload_n C 0 dX8_colour_1 rfl (r_iload_n C 1 dX8_colour_2 rfl (r_goi (r_runV C dX8_colour_3 (m_X8_isShape hu_s w) mt_X8_isShape tw1261 tw1263 tw41 gcl_9.1 hu_s rfl (stk := [.ref a]) rfl (Nat.le_of_ble_eq_true rfl) ⟨rfl, rfl, ⟨Nat.le_of_ble_eq_true rfl, Nat.le_of_ble_eq_true rfl⟩, ⟨Nat.le_of_ble_eq_true rfl, Nat.le_of_ble_eq_true rfl⟩⟩) ?_)))
  intro r1 h2 hp
  obtain ⟨rfl, w⟩ := hp
  refine r_if_eq C 13 dX8_colour_6 (by decide) (fun c3 => ?_) (fun c3 => ?_)
  · have w := w.1 c3
    exact r_iconst C (v := 1) dX8_colour_13 (by decide) (r_sub [0, 1] rfl (t_X8_colour_14 C hn hQ _ _ w))
  · have w := w.2 c3
    exact r_iconst C (v := 0) dX8_colour_9 (by decide) (r_goto C 14 dX8_colour_10 (by decide) (r_sub [0, 1] rfl (t_X8_colour_14 C hn hQ _ _ w)))
def rm_X8_above : Room := { frames := 2, cells := 0, slots := 0, locals := 43 }
theorem mt_X8_above : gMt yX8_above cX8_above 4 (some .int) 1 := ⟨tw1344, tw64, by decide +kernel, by decide +kernel, by decide +kernel⟩
def wp_X8_above_51 (p0 : Int32) (post : Int32 → FO → Prop) (k21 : Int32 → Int32 → FO → Prop) (x3 : Int32) (y0 : Int32) (o : FO) : Prop :=
k21 y0 (x3 + 1) o
def wp_X8_above_21 (p0 : Int32) (post : Int32 → FO → Prop) : Nat → Int32 → Int32 → FO → Prop
  | 0, _, _, _ => False
  | n + 1, x2, x3, o =>
    (((fI o 18) ≤ x3 → post x2 o) ∧ (¬ (fI o 18) ≤ x3 → ((¬ (fI o 0) = 0 → post x2 o) ∧ ((fI o 0) = 0 → vp_in x3 40 ∧
    ((¬ (fA o 19 x3.toNatClampNeg) = p0 → wp_X8_above_51 p0 post (fun x2 x3 o => wp_X8_above_21 p0 post n x2 x3 o) x3 x2 o) ∧ ((fA o 19 x3.toNatClampNeg) = p0 → wp_X8_above_51 p0 post (fun x2 x3 o => wp_X8_above_21 p0 post n x2 x3 o) x3 x3 o))))))
def wp_X8_above_14 (p0 : Int32) (post : Int32 → FO → Prop) (y1 : Int32) (o : FO) : Prop :=
∀ o4, o4 = sI o 0 y1 →
wp_X8_above_21 p0 post 1000 ((-1)) 0 o4
def wp_X8_above (p0 : Int32) (o : FO) (post : Int32 → FO → Prop) : Prop :=
wp_X8_isShape p0 o (fun r1 =>
((r1 = 0 → wp_X8_above_14 p0 post 1 o) ∧ (¬ r1 = 0 → wp_X8_above_14 p0 post 0 o)))
set_option maxHeartbeats 4000000 in
set_option maxRecDepth 100000 in
theorem t_X8_above_51 {X : gCx} {a : Nat}  {p0 : Int32} {post : Int32 → FO → Prop} {g : GH}  {k21 : Int32 → Int32 → FO → Prop} (C : gC X cX8_above RX8 (some .int) rm_X8_above) (hn : xn X = 4) (hQ : gRet X (gQi (xY X) (fun r9 g9 => ∃ o9, g9 = hu g a (9, o9) ∧ post r9 o9)) 0 0 ∨ gRex X (gQi (xY X) (fun r9 g9 => ∃ o9, g9 = hu g a (9, o9) ∧ post r9 o9)) (fun _ _ => False) 0 0)   (hk21 : ∀ (x2 : Int32) (x3 : Int32) (o : FO), k21 x2 x3 o → gX X 0 0 21 [(0, .ref a), (1, .int p0), (2, .int x2), (3, .int x3)] [] (hu g a (9, o))) : ∀ (x3 : Int32) (y0 : Int32) (o : FO), wp_X8_above_51 p0 post k21 x3 y0 o → gX X 0 0 51 [(0, .ref a), (1, .int p0), (3, .int x3)] [.int y0] (hu g a (9, o)) := by
  intro x3 y0 o w
  unfold wp_X8_above_51 at w
  exact r_istore_n C dX8_above_51 (nlt hn (by decide)) rfl (r_iinc C (v := x3 + 1) 3 dX8_above_52 rfl rfl (nlt hn (by decide)) rfl (r_goto C 21 dX8_above_55 (by decide) (r_sub [2, 3, 1, 0] rfl (hk21 _ _ _ w))))
set_option maxHeartbeats 4000000 in
set_option maxRecDepth 100000 in
theorem t_X8_above_21 {X : gCx} {a : Nat}  {p0 : Int32} {post : Int32 → FO → Prop} {g : GH}   (C : gC X cX8_above RX8 (some .int) rm_X8_above) (hn : xn X = 4) (hQ : gRet X (gQi (xY X) (fun r9 g9 => ∃ o9, g9 = hu g a (9, o9) ∧ post r9 o9)) 0 0 ∨ gRex X (gQi (xY X) (fun r9 g9 => ∃ o9, g9 = hu g a (9, o9) ∧ post r9 o9)) (fun _ _ => False) 0 0)    : ∀ (n : Nat) (x2 : Int32) (x3 : Int32) (o : FO), wp_X8_above_21 p0 post n x2 x3 o → gX X 0 0 21 [(0, .ref a), (1, .int p0), (2, .int x2), (3, .int x3)] [] (hu g a (9, o)) := by
  intro n
  induction n with
  | zero => intro x2 x3 o w; exact w.elim
  | succ n ih =>
    intro x2 x3 o w
    unfold wp_X8_above_21 at w
    refine r_iload_n C 3 dX8_above_21 rfl (r_aload_n C 0 dX8_above_22 rfl (rg_X8_X8_many C dX8_above_23 hu_s (r_icmp_ge C 58 dX8_above_26 (by decide) (fun c6 => ?_) (fun c6 => ?_))))
    · have w := w.1 c6
      exact r_iload_n C 2 dX8_above_58 rfl (r_iret C hQ dX8_above_59 rfl (vp_nar_int _) ⟨Nat.le_of_ble_eq_true rfl, Nat.le_of_ble_eq_true rfl⟩ ⟨_, rfl, w⟩)
    · have w := w.2 c6
      refine r_aload_n C 0 dX8_above_29 rfl (rg_X8_X8_thrown C dX8_above_30 hu_s (r_if_ne C 58 dX8_above_33 (by decide) (fun c7 => ?_) (fun c7 => ?_)))
      · have w := w.1 c7
        exact r_iload_n C 2 dX8_above_58 rfl (r_iret C hQ dX8_above_59 rfl (vp_nar_int _) ⟨Nat.le_of_ble_eq_true rfl, Nat.le_of_ble_eq_true rfl⟩ ⟨_, rfl, w⟩)
      · have w := w.2 c7
        obtain ⟨i8, w⟩ := w
        refine r_aload_n C 0 dX8_above_36 rfl (rg_X8_X8_order C dX8_above_37 hu_s (r_iload_n C 3 dX8_above_40 rfl (r_iald (ci := 9) (k := 19) C dX8_above_41 rfl rfl hu_s i8 (r_iload_n C 1 dX8_above_42 rfl (r_icmp_ne C 50 dX8_above_43 (by decide) (fun c9 => ?_) (fun c9 => ?_))))))
        · have w := w.1 c9
          exact r_iload_n C 2 dX8_above_50 rfl (r_sub [0, 1, 3] rfl (t_X8_above_51 C hn hQ ih _ _ _ w))
        · have w := w.2 c9
          exact r_iload_n C 3 dX8_above_46 rfl (r_goto C 51 dX8_above_47 (by decide) (r_sub [0, 1, 3] rfl (t_X8_above_51 C hn hQ ih _ _ _ w)))
set_option maxHeartbeats 4000000 in
set_option maxRecDepth 100000 in
theorem t_X8_above_14 {X : gCx} {a : Nat}  {p0 : Int32} {post : Int32 → FO → Prop} {g : GH}   (C : gC X cX8_above RX8 (some .int) rm_X8_above) (hn : xn X = 4) (hQ : gRet X (gQi (xY X) (fun r9 g9 => ∃ o9, g9 = hu g a (9, o9) ∧ post r9 o9)) 0 0 ∨ gRex X (gQi (xY X) (fun r9 g9 => ∃ o9, g9 = hu g a (9, o9) ∧ post r9 o9)) (fun _ _ => False) 0 0)    : ∀ (y1 : Int32) (o : FO), wp_X8_above_14 p0 post y1 o → gX X 0 0 14 [(0, .ref a), (1, .int p0)] [.int y1, .ref a] (hu g a (9, o)) := by
  intro y1 o w
  unfold wp_X8_above_14 at w
  obtain ⟨o4, e5⟩ : ∃ z, z = sI o 0 y1 := ⟨_, rfl⟩
  have w := w o4 e5
  exact rp_X8_X8_thrown C dX8_above_14 hu_s e5 hu_hu.symm (r_iconst C (v := (-1)) dX8_above_17 (by decide) (r_istore_n C dX8_above_18 (nlt hn (by decide)) rfl (r_iconst C (v := 0) dX8_above_19 (by decide) (r_istore_n C dX8_above_20 (nlt hn (by decide)) rfl (r_sub [2, 3, 1, 0] rfl (t_X8_above_21 C hn hQ 1000 _ _ _ w))))))
set_option maxHeartbeats 4000000 in
set_option maxRecDepth 100000 in
theorem m_X8_above {Y : gWx} {a : Nat}  {p0 : Int32} {post : Int32 → FO → Prop} {g : GH}  {o : FO} (hg : g a = some (9, o))    (w : wp_X8_above p0 o post) : gMet Y yX8_above cX8_above 4 (some .int) rm_X8_above [.ref a, .int p0] g (gQi Y (fun r9 g9 => ∃ o9, g9 = hu g a (9, o9) ∧ post r9 o9)) 0 0 := by
  refine gm_of rfl (Nat.le_of_ble_eq_true rfl) ?_
  intro X hY hn C hnm hQ
  subst hY
  have hQ : gRet X (gQi (xY X) (fun r9 g9 => ∃ o9, g9 = hu g a (9, o9) ∧ post r9 o9)) 0 0 ∨ gRex X (gQi (xY X) (fun r9 g9 => ∃ o9, g9 = hu g a (9, o9) ∧ post r9 o9)) (fun _ _ => False) 0 0 := Or.inl hQ
  have C : gC X cX8_above RX8 (some .int) rm_X8_above := C
  refine gX_eq (hu_id hg).symm ?_
  show gX X 0 0 0 [(0, .ref a), (1, .int p0)] [] (hu g a (9, o))
  unfold wp_X8_above at w
  refine r_aload_n C 0 dX8_above_0 rfl (r_aload_n C 0 dX8_above_1 rfl (r_iload_n C 1 dX8_above_2 rfl (r_goi (r_runV C dX8_above_3 (m_X8_isShape hu_s w) mt_X8_isShape tw1261 tw1263 tw41 gcl_9.1 hu_s rfl (stk := [.ref a]) rfl (Nat.le_of_ble_eq_true rfl) ⟨rfl, rfl, ⟨Nat.le_of_ble_eq_true rfl, Nat.le_of_ble_eq_true rfl⟩, ⟨Nat.le_of_ble_eq_true rfl, Nat.le_of_ble_eq_true rfl⟩⟩) ?_)))
  intro r1 h2 hp
  obtain ⟨rfl, w⟩ := hp
  refine r_if_eq C 13 dX8_above_6 (by decide) (fun c3 => ?_) (fun c3 => ?_)
  · have w := w.1 c3
    exact r_iconst C (v := 1) dX8_above_13 (by decide) (r_sub [0, 1] rfl (t_X8_above_14 C hn hQ _ _ w))
  · have w := w.2 c3
    exact r_iconst C (v := 0) dX8_above_9 (by decide) (r_goto C 14 dX8_above_10 (by decide) (r_sub [0, 1] rfl (t_X8_above_14 C hn hQ _ _ w)))
def rm_X8_group : Room := { frames := 2, cells := 0, slots := 0, locals := 43 }
theorem mt_X8_group : gMt yX8_group cX8_group 5 (some .long) 1 := ⟨tw1348, tw64, by decide +kernel, by decide +kernel, by decide +kernel⟩
def wp_X8_group_82 (p0 : Int32) (post : Int64 → FO → Prop) (k22 : Int64 → Int32 → FO → Prop) (x4 : Int32) (y0 : Int64) (y1 : Int64) (o : FO) : Prop :=
k22 (y0 ||| y1) (x4 + 1) o
def wp_X8_group_81 (p0 : Int32) (post : Int64 → FO → Prop) (k22 : Int64 → Int32 → FO → Prop) (x4 : Int32) (y0 : Int64) (o : FO) : Prop :=
wp_X8_group_82 p0 post k22 x4 y0 0 o
def wp_X8_group_22 (p0 : Int32) (post : Int64 → FO → Prop) : Nat → Int64 → Int32 → FO → Prop
  | 0, _, _, _ => False
  | n + 1, x2, x4, o =>
    (((fI o 10) ≤ x4 → post x2 o) ∧ (¬ (fI o 10) ≤ x4 → ((¬ (fI o 0) = 0 → post x2 o) ∧ ((fI o 0) = 0 → vp_in p0 40 ∧
    (((fA o 20 p0.toNatClampNeg) = 0 → post x2 o) ∧ (¬ (fA o 20 p0.toNatClampNeg) = 0 → vp_in x4 40 ∧
    (((fA o 20 x4.toNatClampNeg) = 0 → wp_X8_group_81 p0 post (fun x2 x4 o => wp_X8_group_22 p0 post n x2 x4 o) x4 x2 o) ∧ (¬ (fA o 20 x4.toNatClampNeg) = 0 → vp_in x4 40 ∧
    vp_in p0 40 ∧
    ((¬ (fA o 24 x4.toNatClampNeg) = (fA o 24 p0.toNatClampNeg) → wp_X8_group_81 p0 post (fun x2 x4 o => wp_X8_group_22 p0 post n x2 x4 o) x4 x2 o) ∧ ((fA o 24 x4.toNatClampNeg) = (fA o 24 p0.toNatClampNeg) → wp_X8_group_82 p0 post (fun x2 x4 o => wp_X8_group_22 p0 post n x2 x4 o) x4 x2 (1 <<< (x4.toInt64 &&& 63)) o))))))))))
def wp_X8_group_14 (p0 : Int32) (post : Int64 → FO → Prop) (y1 : Int32) (o : FO) : Prop :=
∀ o4, o4 = sI o 0 y1 →
wp_X8_group_22 p0 post 1000 0 0 o4
def wp_X8_group (p0 : Int32) (o : FO) (post : Int64 → FO → Prop) : Prop :=
wp_X8_isShape p0 o (fun r1 =>
((r1 = 0 → wp_X8_group_14 p0 post 1 o) ∧ (¬ r1 = 0 → wp_X8_group_14 p0 post 0 o)))
set_option maxHeartbeats 4000000 in
set_option maxRecDepth 100000 in
theorem t_X8_group_82 {X : gCx} {a : Nat}  {p0 : Int32} {post : Int64 → FO → Prop} {g : GH}  {k22 : Int64 → Int32 → FO → Prop} (C : gC X cX8_group RX8 (some .long) rm_X8_group) (hn : xn X = 5) (hQ : gRet X (gQl (xY X) (fun r9 g9 => ∃ o9, g9 = hu g a (9, o9) ∧ post r9 o9)) 0 0 ∨ gRex X (gQl (xY X) (fun r9 g9 => ∃ o9, g9 = hu g a (9, o9) ∧ post r9 o9)) (fun _ _ => False) 0 0)   (hk22 : ∀ (x2 : Int64) (x4 : Int32) (o : FO), k22 x2 x4 o → gX X 0 0 22 [(0, .ref a), (1, .int p0), (2, .long x2), (4, .int x4)] [] (hu g a (9, o))) : ∀ (x4 : Int32) (y0 : Int64) (y1 : Int64) (o : FO), wp_X8_group_82 p0 post k22 x4 y0 y1 o → gX X 0 0 82 [(0, .ref a), (1, .int p0), (4, .int x4)] [.long y1, .long y0] (hu g a (9, o)) := by
  intro x4 y0 y1 o w
  unfold wp_X8_group_82 at w
  exact r_lor C dX8_group_82 (r_lstore_n C dX8_group_83 (nlt hn (by decide)) rfl (r_iinc C (v := x4 + 1) 3 dX8_group_84 rfl rfl (nlt hn (by decide)) rfl (r_goto C 22 dX8_group_87 (by decide) (r_sub [2, 3, 1, 0] rfl (hk22 _ _ _ w)))))
set_option maxHeartbeats 4000000 in
set_option maxRecDepth 100000 in
theorem t_X8_group_81 {X : gCx} {a : Nat}  {p0 : Int32} {post : Int64 → FO → Prop} {g : GH}  {k22 : Int64 → Int32 → FO → Prop} (C : gC X cX8_group RX8 (some .long) rm_X8_group) (hn : xn X = 5) (hQ : gRet X (gQl (xY X) (fun r9 g9 => ∃ o9, g9 = hu g a (9, o9) ∧ post r9 o9)) 0 0 ∨ gRex X (gQl (xY X) (fun r9 g9 => ∃ o9, g9 = hu g a (9, o9) ∧ post r9 o9)) (fun _ _ => False) 0 0)   (hk22 : ∀ (x2 : Int64) (x4 : Int32) (o : FO), k22 x2 x4 o → gX X 0 0 22 [(0, .ref a), (1, .int p0), (2, .long x2), (4, .int x4)] [] (hu g a (9, o))) : ∀ (x4 : Int32) (y0 : Int64) (o : FO), wp_X8_group_81 p0 post k22 x4 y0 o → gX X 0 0 81 [(0, .ref a), (1, .int p0), (4, .int x4)] [.long y0] (hu g a (9, o)) := by
  intro x4 y0 o w
  unfold wp_X8_group_81 at w
  exact r_lconst C (v := 0) dX8_group_81 (by decide) (r_sub [0, 1, 2] rfl (t_X8_group_82 C hn hQ hk22 _ _ _ _ w))
set_option maxHeartbeats 4000000 in
set_option maxRecDepth 100000 in
theorem t_X8_group_22 {X : gCx} {a : Nat}  {p0 : Int32} {post : Int64 → FO → Prop} {g : GH}   (C : gC X cX8_group RX8 (some .long) rm_X8_group) (hn : xn X = 5) (hQ : gRet X (gQl (xY X) (fun r9 g9 => ∃ o9, g9 = hu g a (9, o9) ∧ post r9 o9)) 0 0 ∨ gRex X (gQl (xY X) (fun r9 g9 => ∃ o9, g9 = hu g a (9, o9) ∧ post r9 o9)) (fun _ _ => False) 0 0)    : ∀ (n : Nat) (x2 : Int64) (x4 : Int32) (o : FO), wp_X8_group_22 p0 post n x2 x4 o → gX X 0 0 22 [(0, .ref a), (1, .int p0), (2, .long x2), (4, .int x4)] [] (hu g a (9, o)) := by
  intro n
  induction n with
  | zero => intro x2 x4 o w; exact w.elim
  | succ n ih =>
    intro x2 x4 o w
    unfold wp_X8_group_22 at w
    refine r_iload C 3 dX8_group_22 rfl (r_aload_n C 0 dX8_group_24 rfl (rg_X8_X8_shapes C dX8_group_25 hu_s (r_icmp_ge C 90 dX8_group_28 (by decide) (fun c6 => ?_) (fun c6 => ?_))))
    · have w := w.1 c6
      exact r_lload_n C 2 dX8_group_90 rfl (r_lret C hQ dX8_group_91 rfl ⟨Nat.le_of_ble_eq_true rfl, Nat.le_of_ble_eq_true rfl⟩ ⟨_, rfl, w⟩)
    · have w := w.2 c6
      refine r_aload_n C 0 dX8_group_31 rfl (rg_X8_X8_thrown C dX8_group_32 hu_s (r_if_ne C 90 dX8_group_35 (by decide) (fun c7 => ?_) (fun c7 => ?_)))
      · have w := w.1 c7
        exact r_lload_n C 2 dX8_group_90 rfl (r_lret C hQ dX8_group_91 rfl ⟨Nat.le_of_ble_eq_true rfl, Nat.le_of_ble_eq_true rfl⟩ ⟨_, rfl, w⟩)
      · have w := w.2 c7
        obtain ⟨i8, w⟩ := w
        refine r_aload_n C 0 dX8_group_38 rfl (rg_X8_X8_isThere C dX8_group_39 hu_s (r_iload_n C 1 dX8_group_42 rfl (r_zald (ci := 9) (k := 20) C dX8_group_43 rfl rfl hu_s i8 (r_if_eq C 90 dX8_group_44 (by decide) (fun c9 => ?_) (fun c9 => ?_)))))
        · have w := w.1 c9
          exact r_lload_n C 2 dX8_group_90 rfl (r_lret C hQ dX8_group_91 rfl ⟨Nat.le_of_ble_eq_true rfl, Nat.le_of_ble_eq_true rfl⟩ ⟨_, rfl, w⟩)
        · have w := w.2 c9
          obtain ⟨i10, w⟩ := w
          refine r_lload_n C 2 dX8_group_47 rfl (r_aload_n C 0 dX8_group_48 rfl (rg_X8_X8_isThere C dX8_group_49 hu_s (r_iload C 3 dX8_group_52 rfl (r_zald (ci := 9) (k := 20) C dX8_group_54 rfl rfl hu_s i10 (r_if_eq C 81 dX8_group_55 (by decide) (fun c11 => ?_) (fun c11 => ?_))))))
          · have w := w.1 c11
            exact r_sub [0, 1, 3] rfl (t_X8_group_81 C hn hQ ih _ _ _ w)
          · have w := w.2 c11
            obtain ⟨i12, w⟩ := w
            obtain ⟨i13, w⟩ := w
            refine r_aload_n C 0 dX8_group_58 rfl (rg_X8_X8_group C dX8_group_59 hu_s (r_iload C 3 dX8_group_62 rfl (r_iald (ci := 9) (k := 24) C dX8_group_64 rfl rfl hu_s i12 (r_aload_n C 0 dX8_group_65 rfl (rg_X8_X8_group C dX8_group_66 hu_s (r_iload_n C 1 dX8_group_69 rfl (r_iald (ci := 9) (k := 24) C dX8_group_70 rfl rfl hu_s i13 (r_icmp_ne C 81 dX8_group_71 (by decide) (fun c14 => ?_) (fun c14 => ?_)))))))))
            · have w := w.1 c14
              exact r_sub [0, 1, 3] rfl (t_X8_group_81 C hn hQ ih _ _ _ w)
            · have w := w.2 c14
              exact r_lconst C (v := 1) dX8_group_74 (by decide) (r_iload C 3 dX8_group_75 rfl (r_lshl C dX8_group_77 (r_goto C 82 dX8_group_78 (by decide) (r_sub [0, 1, 3] rfl (t_X8_group_82 C hn hQ ih _ _ _ _ w)))))
set_option maxHeartbeats 4000000 in
set_option maxRecDepth 100000 in
theorem t_X8_group_14 {X : gCx} {a : Nat}  {p0 : Int32} {post : Int64 → FO → Prop} {g : GH}   (C : gC X cX8_group RX8 (some .long) rm_X8_group) (hn : xn X = 5) (hQ : gRet X (gQl (xY X) (fun r9 g9 => ∃ o9, g9 = hu g a (9, o9) ∧ post r9 o9)) 0 0 ∨ gRex X (gQl (xY X) (fun r9 g9 => ∃ o9, g9 = hu g a (9, o9) ∧ post r9 o9)) (fun _ _ => False) 0 0)    : ∀ (y1 : Int32) (o : FO), wp_X8_group_14 p0 post y1 o → gX X 0 0 14 [(0, .ref a), (1, .int p0)] [.int y1, .ref a] (hu g a (9, o)) := by
  intro y1 o w
  unfold wp_X8_group_14 at w
  obtain ⟨o4, e5⟩ : ∃ z, z = sI o 0 y1 := ⟨_, rfl⟩
  have w := w o4 e5
  exact rp_X8_X8_thrown C dX8_group_14 hu_s e5 hu_hu.symm (r_lconst C (v := 0) dX8_group_17 (by decide) (r_lstore_n C dX8_group_18 (nlt hn (by decide)) rfl (r_iconst C (v := 0) dX8_group_19 (by decide) (r_istore C dX8_group_20 (nlt hn (by decide)) rfl (r_sub [2, 3, 1, 0] rfl (t_X8_group_22 C hn hQ 1000 _ _ _ w))))))
set_option maxHeartbeats 4000000 in
set_option maxRecDepth 100000 in
theorem m_X8_group {Y : gWx} {a : Nat}  {p0 : Int32} {post : Int64 → FO → Prop} {g : GH}  {o : FO} (hg : g a = some (9, o))    (w : wp_X8_group p0 o post) : gMet Y yX8_group cX8_group 5 (some .long) rm_X8_group [.ref a, .int p0] g (gQl Y (fun r9 g9 => ∃ o9, g9 = hu g a (9, o9) ∧ post r9 o9)) 0 0 := by
  refine gm_of rfl (Nat.le_of_ble_eq_true rfl) ?_
  intro X hY hn C hnm hQ
  subst hY
  have hQ : gRet X (gQl (xY X) (fun r9 g9 => ∃ o9, g9 = hu g a (9, o9) ∧ post r9 o9)) 0 0 ∨ gRex X (gQl (xY X) (fun r9 g9 => ∃ o9, g9 = hu g a (9, o9) ∧ post r9 o9)) (fun _ _ => False) 0 0 := Or.inl hQ
  have C : gC X cX8_group RX8 (some .long) rm_X8_group := C
  refine gX_eq (hu_id hg).symm ?_
  show gX X 0 0 0 [(0, .ref a), (1, .int p0)] [] (hu g a (9, o))
  unfold wp_X8_group at w
  refine r_aload_n C 0 dX8_group_0 rfl (r_aload_n C 0 dX8_group_1 rfl (r_iload_n C 1 dX8_group_2 rfl (r_goi (r_runV C dX8_group_3 (m_X8_isShape hu_s w) mt_X8_isShape tw1261 tw1263 tw41 gcl_9.1 hu_s rfl (stk := [.ref a]) rfl (Nat.le_of_ble_eq_true rfl) ⟨rfl, rfl, ⟨Nat.le_of_ble_eq_true rfl, Nat.le_of_ble_eq_true rfl⟩, ⟨Nat.le_of_ble_eq_true rfl, Nat.le_of_ble_eq_true rfl⟩⟩) ?_)))
  intro r1 h2 hp
  obtain ⟨rfl, w⟩ := hp
  refine r_if_eq C 13 dX8_group_6 (by decide) (fun c3 => ?_) (fun c3 => ?_)
  · have w := w.1 c3
    exact r_iconst C (v := 1) dX8_group_13 (by decide) (r_sub [0, 1] rfl (t_X8_group_14 C hn hQ _ _ w))
  · have w := w.2 c3
    exact r_iconst C (v := 0) dX8_group_9 (by decide) (r_goto C 14 dX8_group_10 (by decide) (r_sub [0, 1] rfl (t_X8_group_14 C hn hQ _ _ w)))
def rm_X8_seen : Room := { frames := 3, cells := 0, slots := 0, locals := 69 }
theorem mt_X8_seen : gMt yX8_seen cX8_seen 3 (some .int) 2 := ⟨tw1352, tw64, by decide +kernel, by decide +kernel, by decide +kernel⟩
def wp_X8_seen_26 (p0 : Int32) (p1 : Int32) (post : Int32 → FO → Prop) (y1 : Int32) (o : FO) : Prop :=
∀ o7, o7 = sI o 0 y1 →
(((fI o7 0) ≤ 0 → wp_X8_seenAt p0 p1 o7 (fun r10 =>
post r10 o7)) ∧ (¬ (fI o7 0) ≤ 0 → post 0 o7))
def wp_X8_seen_25 (p0 : Int32) (p1 : Int32) (post : Int32 → FO → Prop)  (o : FO) : Prop :=
wp_X8_seen_26 p0 p1 post 1 o
def wp_X8_seen (p0 : Int32) (p1 : Int32) (o : FO) (post : Int32 → FO → Prop) : Prop :=
wp_X8_isIn p0 0 23 (fun r1 =>
((r1 = 0 → wp_X8_seen_25 p0 p1 post o) ∧ (¬ r1 = 0 → wp_X8_isIn p1 0 15 (fun r4 =>
((r4 = 0 → wp_X8_seen_25 p0 p1 post o) ∧ (¬ r4 = 0 → wp_X8_seen_26 p0 p1 post 0 o))))))
set_option maxHeartbeats 4000000 in
set_option maxRecDepth 100000 in
theorem t_X8_seen_26 {X : gCx} {a : Nat}  {p0 : Int32} {p1 : Int32} {post : Int32 → FO → Prop} {g : GH}   (C : gC X cX8_seen RX8 (some .int) rm_X8_seen) (hn : xn X = 3) (hQ : gRet X (gQi (xY X) (fun r9 g9 => ∃ o9, g9 = hu g a (9, o9) ∧ post r9 o9)) 0 0 ∨ gRex X (gQi (xY X) (fun r9 g9 => ∃ o9, g9 = hu g a (9, o9) ∧ post r9 o9)) (fun _ _ => False) 0 0)    : ∀ (y1 : Int32) (o : FO), wp_X8_seen_26 p0 p1 post y1 o → gX X 0 0 26 [(0, .ref a), (1, .int p0), (2, .int p1)] [.int y1, .ref a] (hu g a (9, o)) := by
  intro y1 o w
  unfold wp_X8_seen_26 at w
  obtain ⟨o7, e8⟩ : ∃ z, z = sI o 0 y1 := ⟨_, rfl⟩
  have w := w o7 e8
  refine rp_X8_X8_thrown C dX8_seen_26 hu_s e8 hu_hu.symm (r_aload_n C 0 dX8_seen_29 rfl (rg_X8_X8_thrown C dX8_seen_30 hu_s (r_if_le C 40 dX8_seen_33 (by decide) (fun c9 => ?_) (fun c9 => ?_))))
  · have w := w.1 c9
    refine r_aload_n C 0 dX8_seen_40 rfl (r_iload_n C 1 dX8_seen_41 rfl (r_iload_n C 2 dX8_seen_42 rfl (r_goi (r_runV C dX8_seen_43 (m_X8_seenAt hu_s w) mt_X8_seenAt tw1353 tw1355 tw47 gcl_9.1 hu_s rfl (stk := []) rfl (Nat.le_of_ble_eq_true rfl) ⟨rfl, rfl, ⟨Nat.le_of_ble_eq_true rfl, Nat.le_of_ble_eq_true rfl⟩, ⟨Nat.le_of_ble_eq_true rfl, Nat.le_of_ble_eq_true rfl⟩⟩) ?_)))
    intro r10 h11 hp
    obtain ⟨rfl, w⟩ := hp
    exact r_iret C hQ dX8_seen_46 rfl (vp_nar_int _) ⟨Nat.le_of_ble_eq_true rfl, Nat.le_of_ble_eq_true rfl⟩ ⟨_, rfl, w⟩
  · have w := w.2 c9
    exact r_iconst C (v := 0) dX8_seen_36 (by decide) (r_goto C 46 dX8_seen_37 (by decide) (r_iret C hQ dX8_seen_46 rfl (vp_nar_int _) ⟨Nat.le_of_ble_eq_true rfl, Nat.le_of_ble_eq_true rfl⟩ ⟨_, rfl, w⟩))
set_option maxHeartbeats 4000000 in
set_option maxRecDepth 100000 in
theorem t_X8_seen_25 {X : gCx} {a : Nat}  {p0 : Int32} {p1 : Int32} {post : Int32 → FO → Prop} {g : GH}   (C : gC X cX8_seen RX8 (some .int) rm_X8_seen) (hn : xn X = 3) (hQ : gRet X (gQi (xY X) (fun r9 g9 => ∃ o9, g9 = hu g a (9, o9) ∧ post r9 o9)) 0 0 ∨ gRex X (gQi (xY X) (fun r9 g9 => ∃ o9, g9 = hu g a (9, o9) ∧ post r9 o9)) (fun _ _ => False) 0 0)    : ∀ (o : FO), wp_X8_seen_25 p0 p1 post o → gX X 0 0 25 [(0, .ref a), (1, .int p0), (2, .int p1)] [.ref a] (hu g a (9, o)) := by
  intro o w
  unfold wp_X8_seen_25 at w
  exact r_iconst C (v := 1) dX8_seen_25 (by decide) (r_sub [0, 1, 2] rfl (t_X8_seen_26 C hn hQ _ _ w))
set_option maxHeartbeats 4000000 in
set_option maxRecDepth 100000 in
theorem m_X8_seen {Y : gWx} {a : Nat}  {p0 : Int32} {p1 : Int32} {post : Int32 → FO → Prop} {g : GH}  {o : FO} (hg : g a = some (9, o))    (w : wp_X8_seen p0 p1 o post) : gMet Y yX8_seen cX8_seen 3 (some .int) rm_X8_seen [.ref a, .int p0, .int p1] g (gQi Y (fun r9 g9 => ∃ o9, g9 = hu g a (9, o9) ∧ post r9 o9)) 0 0 := by
  refine gm_of rfl (Nat.le_of_ble_eq_true rfl) ?_
  intro X hY hn C hnm hQ
  subst hY
  have hQ : gRet X (gQi (xY X) (fun r9 g9 => ∃ o9, g9 = hu g a (9, o9) ∧ post r9 o9)) 0 0 ∨ gRex X (gQi (xY X) (fun r9 g9 => ∃ o9, g9 = hu g a (9, o9) ∧ post r9 o9)) (fun _ _ => False) 0 0 := Or.inl hQ
  have C : gC X cX8_seen RX8 (some .int) rm_X8_seen := C
  refine gX_eq (hu_id hg).symm ?_
  show gX X 0 0 0 [(0, .ref a), (1, .int p0), (2, .int p1)] [] (hu g a (9, o))
  unfold wp_X8_seen at w
  refine r_aload_n C 0 dX8_seen_0 rfl (r_iload_n C 1 dX8_seen_1 rfl (r_iconst C (v := 0) dX8_seen_2 (by decide) (r_bipush C (v := 23) dX8_seen_3 (by decide) (r_goi (r_runS C dX8_seen_5 (m_X8_isIn w) mt_X8_isIn tw1215 tw1216 rfl (stk := [.ref a]) rfl (Nat.le_of_ble_eq_true rfl) ⟨rfl, rfl, ⟨Nat.le_of_ble_eq_true rfl, Nat.le_of_ble_eq_true rfl⟩, ⟨Nat.le_of_ble_eq_true rfl, Nat.le_of_ble_eq_true rfl⟩⟩) ?_))))
  intro r1 h2 hp
  obtain ⟨rfl, w⟩ := hp
  refine r_if_eq C 25 dX8_seen_8 (by decide) (fun c3 => ?_) (fun c3 => ?_)
  · have w := w.1 c3
    exact r_sub [0, 1, 2] rfl (t_X8_seen_25 C hn hQ _ w)
  · have w := w.2 c3
    refine r_iload_n C 2 dX8_seen_11 rfl (r_iconst C (v := 0) dX8_seen_12 (by decide) (r_bipush C (v := 15) dX8_seen_13 (by decide) (r_goi (r_runS C dX8_seen_15 (m_X8_isIn w) mt_X8_isIn tw1215 tw1216 rfl (stk := [.ref a]) rfl (Nat.le_of_ble_eq_true rfl) ⟨rfl, rfl, ⟨Nat.le_of_ble_eq_true rfl, Nat.le_of_ble_eq_true rfl⟩, ⟨Nat.le_of_ble_eq_true rfl, Nat.le_of_ble_eq_true rfl⟩⟩) ?_)))
    intro r4 h5 hp
    obtain ⟨rfl, w⟩ := hp
    refine r_if_eq C 25 dX8_seen_18 (by decide) (fun c6 => ?_) (fun c6 => ?_)
    · have w := w.1 c6
      exact r_sub [0, 1, 2] rfl (t_X8_seen_25 C hn hQ _ w)
    · have w := w.2 c6
      exact r_iconst C (v := 0) dX8_seen_21 (by decide) (r_goto C 26 dX8_seen_22 (by decide) (r_sub [0, 1, 2] rfl (t_X8_seen_26 C hn hQ _ _ w)))
