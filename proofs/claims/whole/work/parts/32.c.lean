def rm_X7_paint : Room := { frames := 8, cells := 6, slots := 341, locals := 324 }
theorem mt_X7_paint : gMt yX7_paint cX7_paint 5 (some .int) 3 := ⟨tw560, tw59, by decide +kernel, by decide +kernel, by decide +kernel⟩
def wp_X7_paint (a : Nat) (p0 : Int32) (p1 : Int32) (p2 : Int32) (g : GH) (post : Int32 → GH → Prop) (px : String → GH → Prop) : Prop :=
wp_X7_checkHand p0 (
∃ o2, g a = some (8, o2) ∧
wp_X7_checkShape a p1 g (
wp_X7_checkRange p2 1 9 (
∃ o6, g a = some (8, o6) ∧
wp_X7_checkCanAct a p1 g (
∃ o9, g a = some (8, o9) ∧
∃ o11, g (fR o9 4) = some (2, o11) ∧
∃ o13, g (fR o9 4) = some (2, o13) ∧
vp_in p1 40 ∧
∀ a16, g a16 = none → ∀ g17, g17 = hu g a16 (1, fo0) →
∃ o20, g17 a16 = some (1, o20) ∧
wp_X0_init p0 2 p1 p2 ((-1)) o20 (fun o22 => ∀ g23, g23 = hu g17 a16 (1, o22) →
∃ o25, g23 a = some (8, o25) ∧
wp_X7_tell a a16 g23 (fun g27 =>
post (fA o13 4 p1.toNatClampNeg) g27))) (fun E => px E g)) (fun E => px E g)) (fun E => px E g)) (fun E => px E g)
set_option maxHeartbeats 4000000 in
set_option maxRecDepth 100000 in
theorem m_X7_paint {Y : gWx} {a : Nat}  {p0 : Int32} {p1 : Int32} {p2 : Int32} {post : Int32 → GH → Prop} {px : String → GH → Prop} {g : GH}    (hl : (yl Y).stackTraces = false) (w : wp_X7_paint a p0 p1 p2 g post px) : gMex Y yX7_paint cX7_paint 5 (some .int) rm_X7_paint [.ref a, .int p0, .int p1, .int p2] g (gQi Y post) px 6 341 := by
  refine gm_ofx rfl (Nat.le_of_ble_eq_true rfl) ?_
  intro X hY hn C hno hQx
  subst hY
  have hQ := Or.inr (a := gRet X (gQi (xY X) post) 6 341) hQx
  have C : gC X cX7_paint RX7 (some .int) rm_X7_paint := C
  show gX X 0 0 0 [(0, .ref a), (1, .int p0), (2, .int p1), (3, .int p2)] [] g
  unfold wp_X7_paint at w
  refine r_iload_n C 1 dX7_paint_0 rfl (r_gxv (r_ruxS C dX7_paint_1 (m_X7_checkHand hl w) mt_X7_checkHand tw227 tw228 rfl (stk := []) rfl (Nat.le_of_ble_eq_true rfl) ⟨rfl, rfl, ⟨Nat.le_of_ble_eq_true rfl, Nat.le_of_ble_eq_true rfl⟩, ⟨Nat.le_of_ble_eq_true rfl, Nat.le_of_ble_eq_true rfl⟩⟩) (fun E h1 hp => by obtain ⟨rfl, hp⟩ := hp; exact r_out C hQx (fun x hx => (hno x hx).elim) ⟨Nat.le_of_ble_eq_true rfl, Nat.le_of_ble_eq_true rfl⟩ hp) ?_)
  intro  h1 hp
  obtain ⟨e9, w⟩ := hp
  rw [e9]
  obtain ⟨o2, e3, w⟩ := w
  refine r_aload_n C 0 dX7_paint_4 rfl (r_iload_n C 2 dX7_paint_5 rfl (r_gxv (r_ruxV C dX7_paint_6 (m_X7_checkShape hl w) mt_X7_checkShape tw528 tw530 tw11 gcl_8.1 e3 rfl (stk := []) rfl (Nat.le_of_ble_eq_true rfl) ⟨rfl, rfl, ⟨Nat.le_of_ble_eq_true rfl, Nat.le_of_ble_eq_true rfl⟩, ⟨Nat.le_of_ble_eq_true rfl, Nat.le_of_ble_eq_true rfl⟩⟩) (fun E h4 hp => by obtain ⟨rfl, hp⟩ := hp; exact r_out C hQx (fun x hx => (hno x hx).elim) ⟨Nat.le_of_ble_eq_true rfl, Nat.le_of_ble_eq_true rfl⟩ hp) ?_))
  intro  h4 hp
  obtain ⟨e9, w⟩ := hp
  rw [e9]
  refine r_iload_n C 3 dX7_paint_9 rfl (r_iconst C (v := 1) dX7_paint_10 (by decide) (r_bipush C (v := 9) dX7_paint_11 (by decide) (r_gxv (r_ruxS C dX7_paint_13 (m_X7_checkRange hl w) mt_X7_checkRange tw301 tw302 rfl (stk := []) rfl (Nat.le_of_ble_eq_true rfl) ⟨rfl, rfl, ⟨Nat.le_of_ble_eq_true rfl, Nat.le_of_ble_eq_true rfl⟩, ⟨Nat.le_of_ble_eq_true rfl, Nat.le_of_ble_eq_true rfl⟩⟩) (fun E h5 hp => by obtain ⟨rfl, hp⟩ := hp; exact r_out C hQx (fun x hx => (hno x hx).elim) ⟨Nat.le_of_ble_eq_true rfl, Nat.le_of_ble_eq_true rfl⟩ hp) ?_)))
  intro  h5 hp
  obtain ⟨e9, w⟩ := hp
  rw [e9]
  obtain ⟨o6, e7, w⟩ := w
  refine r_aload_n C 0 dX7_paint_16 rfl (r_iload_n C 2 dX7_paint_17 rfl (r_gxv (r_ruxV C dX7_paint_18 (m_X7_checkCanAct hl w) mt_X7_checkCanAct tw533 tw535 tw12 gcl_8.1 e7 rfl (stk := []) rfl (Nat.le_of_ble_eq_true rfl) ⟨rfl, rfl, ⟨Nat.le_of_ble_eq_true rfl, Nat.le_of_ble_eq_true rfl⟩, ⟨Nat.le_of_ble_eq_true rfl, Nat.le_of_ble_eq_true rfl⟩⟩) (fun E h8 hp => by obtain ⟨rfl, hp⟩ := hp; exact r_out C hQx (fun x hx => (hno x hx).elim) ⟨Nat.le_of_ble_eq_true rfl, Nat.le_of_ble_eq_true rfl⟩ hp) ?_))
  intro  h8 hp
  obtain ⟨e9, w⟩ := hp
  rw [e9]
  obtain ⟨o9, e10, w⟩ := w
  obtain ⟨o11, e12, w⟩ := w
  obtain ⟨o13, e14, w⟩ := w
  obtain ⟨i15, w⟩ := w
  refine r_aload_n C 0 dX7_paint_21 rfl (rg_X7_X7_board C dX7_paint_22 e10 (rg_X7_X1_colours C dX7_paint_25 e12 (r_iload_n C 2 dX7_paint_28 rfl (r_iald (ci := 2) (k := 4) C dX7_paint_29 rfl rfl e14 i15 (r_istore C dX7_paint_30 (nlt hn (by decide)) rfl (r_aload_n C 1 dX7_paint_32 rfl (r_new C gcl_1 dX7_paint_33 ⟨tw427, tw428, tw76⟩ hsm_1 ⟨Nat.le_of_ble_eq_true rfl, Nat.le_of_ble_eq_true rfl⟩ (fun a16 n19 _ => ?_))))))))
  obtain ⟨g17, e18⟩ : ∃ z, z = hu g a16 (1, fo0) := ⟨_, rfl⟩
  have w := w a16 n19 g17 e18
  refine gX_eq e18.symm ?_
  obtain ⟨o20, e21, w⟩ := w
  refine r_dup C dX7_paint_36 rfl (r_iload_n C 2 dX7_paint_37 rfl (r_iconst C (v := 2) dX7_paint_38 (by decide) (r_iload_n C 3 dX7_paint_39 rfl (r_iload_n C 4 dX7_paint_40 rfl (r_iconst C (v := (-1)) dX7_paint_41 (by decide) (r_gov (r_runI C dX7_paint_42 (m_X0_init e21 w) mt_X0_init tw429 tw430 rfl rfl (stk := [.ref a16, .ref a]) rfl (Nat.le_of_ble_eq_true rfl) ⟨rfl, rfl, ⟨Nat.le_of_ble_eq_true rfl, Nat.le_of_ble_eq_true rfl⟩, ⟨Nat.le_of_ble_eq_true rfl, Nat.le_of_ble_eq_true rfl⟩⟩) ?_))))))
  intro  h24 hp
  obtain ⟨o22, e9, w⟩ := hp
  obtain ⟨g23, rfl⟩ : ∃ z, z = h24 := ⟨_, rfl⟩
  have w := w _ e9
  obtain ⟨o25, e26, w⟩ := w
  refine r_gov (r_runV C dX7_paint_45 (m_X7_tell w) mt_X7_tell tw463 tw465 tw4 gcl_8.1 e26 rfl (stk := []) rfl (Nat.le_of_ble_eq_true rfl) ⟨rfl, rfl, ⟨Nat.le_of_ble_eq_true rfl, Nat.le_of_ble_eq_true rfl⟩, ⟨Nat.le_of_ble_eq_true rfl, Nat.le_of_ble_eq_true rfl⟩⟩) ?_
  intro  h28 hp
  obtain ⟨g27, rfl⟩ : ∃ z, z = h28 := ⟨_, rfl⟩
  have w := hp
  exact r_iload C 0 dX7_paint_48 rfl (r_iret C hQ dX7_paint_50 rfl (vp_nar_int _) ⟨Nat.le_of_ble_eq_true rfl, Nat.le_of_ble_eq_true rfl⟩ w)
def rm_X7_layer : Room := { frames := 8, cells := 5, slots := 335, locals := 324 }
theorem mt_X7_layer : gMt yX7_layer cX7_layer 4 (some .int) 3 := ⟨tw567, tw59, by decide +kernel, by decide +kernel, by decide +kernel⟩
def wp_X7_layer_29 (a : Nat) (p0 : Int32) (p1 : Int32) (p2 : Int32) (post : Int32 → GH → Prop) (px : String → GH → Prop) (y1 : Nat) (y2 : Nat) (y3 : Int32) (y4 : Int32) (g : GH) : Prop :=
∃ o13, g y2 = some (1, o13) ∧
wp_X0_init y3 y4 p1 ((-1)) ((-1)) o13 (fun o15 => ∀ g16, g16 = hu g y2 (1, o15) →
∃ o18, g16 a = some (8, o18) ∧
wp_X7_tell a y1 g16 (fun g20 =>
∃ o22, g20 a = some (8, o22) ∧
∃ o24, g20 (fR o22 4) = some (2, o24) ∧
wp_J13_bitCount_95d88 (fL o24 7) (fun r26 =>
post r26 g20)))
def wp_X7_layer (a : Nat) (p0 : Int32) (p1 : Int32) (p2 : Int32) (g : GH) (post : Int32 → GH → Prop) (px : String → GH → Prop) : Prop :=
wp_X7_checkHand p0 (
∃ o2, g a = some (8, o2) ∧
wp_X7_checkShape a p1 g (
∃ o5, g a = some (8, o5) ∧
wp_X7_checkCanAct a p1 g (
∀ a8, g a8 = none → ∀ g9, g9 = hu g a8 (1, fo0) →
((p2 = 0 → wp_X7_layer_29 a p0 p1 p2 post px a8 a8 p0 4 g9) ∧ (¬ p2 = 0 → wp_X7_layer_29 a p0 p1 p2 post px a8 a8 p0 3 g9))) (fun E => px E g)) (fun E => px E g)) (fun E => px E g)
set_option maxHeartbeats 4000000 in
set_option maxRecDepth 100000 in
theorem t_X7_layer_29 {X : gCx} {a : Nat}  {p0 : Int32} {p1 : Int32} {p2 : Int32} {post : Int32 → GH → Prop} {px : String → GH → Prop}    (C : gC X cX7_layer RX7 (some .int) rm_X7_layer) (hn : xn X = 4) (hQ : gRet X (gQi (xY X) post) 5 335 ∨ gRex X (gQi (xY X) post) px 5 335) (hQx : gRex X (gQi (xY X) post) px 5 335) (hl : (yl (xY X)).stackTraces = false) (hno : ∀ x ∈ (xc X).exceptionTable.toList, False)    : ∀ (y1 : Nat) (y2 : Nat) (y3 : Int32) (y4 : Int32) (g : GH), wp_X7_layer_29 a p0 p1 p2 post px y1 y2 y3 y4 g → gX X 4 25 29 [(0, .ref a), (2, .int p1)] [.int y4, .int y3, .ref y2, .ref y1, .ref a] g := by
  intro y1 y2 y3 y4 g w
  unfold wp_X7_layer_29 at w
  obtain ⟨o13, e14, w⟩ := w
  refine r_iload_n C 1 dX7_layer_29 rfl (r_iconst C (v := (-1)) dX7_layer_30 (by decide) (r_iconst C (v := (-1)) dX7_layer_31 (by decide) (r_gov (r_runI C dX7_layer_32 (m_X0_init e14 w) mt_X0_init tw429 tw430 rfl rfl (stk := [.ref y1, .ref a]) rfl (Nat.le_of_ble_eq_true rfl) ⟨rfl, rfl, ⟨Nat.le_of_ble_eq_true rfl, Nat.le_of_ble_eq_true rfl⟩, ⟨Nat.le_of_ble_eq_true rfl, Nat.le_of_ble_eq_true rfl⟩⟩) ?_)))
  intro  h17 hp
  obtain ⟨o15, e9, w⟩ := hp
  obtain ⟨g16, rfl⟩ : ∃ z, z = h17 := ⟨_, rfl⟩
  have w := w _ e9
  obtain ⟨o18, e19, w⟩ := w
  refine r_gov (r_runV C dX7_layer_35 (m_X7_tell w) mt_X7_tell tw463 tw465 tw4 gcl_8.1 e19 rfl (stk := []) rfl (Nat.le_of_ble_eq_true rfl) ⟨rfl, rfl, ⟨Nat.le_of_ble_eq_true rfl, Nat.le_of_ble_eq_true rfl⟩, ⟨Nat.le_of_ble_eq_true rfl, Nat.le_of_ble_eq_true rfl⟩⟩) ?_
  intro  h21 hp
  obtain ⟨g20, rfl⟩ : ∃ z, z = h21 := ⟨_, rfl⟩
  have w := hp
  obtain ⟨o22, e23, w⟩ := w
  obtain ⟨o24, e25, w⟩ := w
  refine r_aload_n C 0 dX7_layer_38 rfl (rg_X7_X7_board C dX7_layer_39 e23 (rg_X7_X1_present C dX7_layer_42 e25 (r_goi (r_runS C dX7_layer_45 (m_J13_bitCount_95d88 w) mt_J13_bitCount_95d88 tw568 tw549 rfl (stk := []) rfl (Nat.le_of_ble_eq_true rfl) ⟨rfl, rfl, ⟨Nat.le_of_ble_eq_true rfl, Nat.le_of_ble_eq_true rfl⟩, ⟨Nat.le_of_ble_eq_true rfl, Nat.le_of_ble_eq_true rfl⟩⟩) ?_)))
  intro r26 h27 hp
  obtain ⟨e9, w⟩ := hp
  rw [e9]
  exact r_iret C hQ dX7_layer_48 rfl (vp_nar_int _) ⟨Nat.le_of_ble_eq_true rfl, Nat.le_of_ble_eq_true rfl⟩ w
set_option maxHeartbeats 4000000 in
set_option maxRecDepth 100000 in
theorem m_X7_layer {Y : gWx} {a : Nat}  {p0 : Int32} {p1 : Int32} {p2 : Int32} {post : Int32 → GH → Prop} {px : String → GH → Prop} {g : GH}    (hl : (yl Y).stackTraces = false) (w : wp_X7_layer a p0 p1 p2 g post px) : gMex Y yX7_layer cX7_layer 4 (some .int) rm_X7_layer [.ref a, .int p0, .int p1, .int p2] g (gQi Y post) px 5 335 := by
  refine gm_ofx rfl (Nat.le_of_ble_eq_true rfl) ?_
  intro X hY hn C hno hQx
  subst hY
  have hQ := Or.inr (a := gRet X (gQi (xY X) post) 5 335) hQx
  have C : gC X cX7_layer RX7 (some .int) rm_X7_layer := C
  show gX X 0 0 0 [(0, .ref a), (1, .int p0), (2, .int p1), (3, .int p2)] [] g
  unfold wp_X7_layer at w
  refine r_iload_n C 1 dX7_layer_0 rfl (r_gxv (r_ruxS C dX7_layer_1 (m_X7_checkHand hl w) mt_X7_checkHand tw227 tw228 rfl (stk := []) rfl (Nat.le_of_ble_eq_true rfl) ⟨rfl, rfl, ⟨Nat.le_of_ble_eq_true rfl, Nat.le_of_ble_eq_true rfl⟩, ⟨Nat.le_of_ble_eq_true rfl, Nat.le_of_ble_eq_true rfl⟩⟩) (fun E h1 hp => by obtain ⟨rfl, hp⟩ := hp; exact r_out C hQx (fun x hx => (hno x hx).elim) ⟨Nat.le_of_ble_eq_true rfl, Nat.le_of_ble_eq_true rfl⟩ hp) ?_)
  intro  h1 hp
  obtain ⟨e9, w⟩ := hp
  rw [e9]
  obtain ⟨o2, e3, w⟩ := w
  refine r_aload_n C 0 dX7_layer_4 rfl (r_iload_n C 2 dX7_layer_5 rfl (r_gxv (r_ruxV C dX7_layer_6 (m_X7_checkShape hl w) mt_X7_checkShape tw528 tw530 tw11 gcl_8.1 e3 rfl (stk := []) rfl (Nat.le_of_ble_eq_true rfl) ⟨rfl, rfl, ⟨Nat.le_of_ble_eq_true rfl, Nat.le_of_ble_eq_true rfl⟩, ⟨Nat.le_of_ble_eq_true rfl, Nat.le_of_ble_eq_true rfl⟩⟩) (fun E h4 hp => by obtain ⟨rfl, hp⟩ := hp; exact r_out C hQx (fun x hx => (hno x hx).elim) ⟨Nat.le_of_ble_eq_true rfl, Nat.le_of_ble_eq_true rfl⟩ hp) ?_))
  intro  h4 hp
  obtain ⟨e9, w⟩ := hp
  rw [e9]
  obtain ⟨o5, e6, w⟩ := w
  refine r_aload_n C 0 dX7_layer_9 rfl (r_iload_n C 2 dX7_layer_10 rfl (r_gxv (r_ruxV C dX7_layer_11 (m_X7_checkCanAct hl w) mt_X7_checkCanAct tw533 tw535 tw12 gcl_8.1 e6 rfl (stk := []) rfl (Nat.le_of_ble_eq_true rfl) ⟨rfl, rfl, ⟨Nat.le_of_ble_eq_true rfl, Nat.le_of_ble_eq_true rfl⟩, ⟨Nat.le_of_ble_eq_true rfl, Nat.le_of_ble_eq_true rfl⟩⟩) (fun E h7 hp => by obtain ⟨rfl, hp⟩ := hp; exact r_out C hQx (fun x hx => (hno x hx).elim) ⟨Nat.le_of_ble_eq_true rfl, Nat.le_of_ble_eq_true rfl⟩ hp) ?_))
  intro  h7 hp
  obtain ⟨e9, w⟩ := hp
  rw [e9]
  refine r_aload_n C 0 dX7_layer_14 rfl (r_new C gcl_1 dX7_layer_15 ⟨tw427, tw428, tw76⟩ hsm_1 ⟨Nat.le_of_ble_eq_true rfl, Nat.le_of_ble_eq_true rfl⟩ (fun a8 n11 _ => ?_))
  obtain ⟨g9, e10⟩ : ∃ z, z = hu g a8 (1, fo0) := ⟨_, rfl⟩
  have w := w a8 n11 g9 e10
  refine gX_eq e10.symm ?_
  refine r_dup C dX7_layer_18 rfl (r_iload_n C 1 dX7_layer_19 rfl (r_iload_n C 3 dX7_layer_20 rfl (r_if_eq C 28 dX7_layer_21 (by decide) (fun c12 => ?_) (fun c12 => ?_))))
  · have w := w.1 c12
    exact r_iconst C (v := 4) dX7_layer_28 (by decide) (r_widen (Nat.le_of_ble_eq_true rfl) (Nat.le_of_ble_eq_true rfl) <| r_sub [0, 2] rfl (t_X7_layer_29 C hn hQ hQx hl hno _ _ _ _ _ w))
  · have w := w.2 c12
    exact r_iconst C (v := 3) dX7_layer_24 (by decide) (r_goto C 29 dX7_layer_25 (by decide) (r_widen (Nat.le_of_ble_eq_true rfl) (Nat.le_of_ble_eq_true rfl) <| r_sub [0, 2] rfl (t_X7_layer_29 C hn hQ hQx hl hno _ _ _ _ _ w)))
def rm_X7_join : Room := { frames := 8, cells := 7, slots := 347, locals := 324 }
theorem mt_X7_join : gMt yX7_join cX7_join 4 (some .int) 3 := ⟨tw575, tw59, by decide +kernel, by decide +kernel, by decide +kernel⟩
def wp_X7_join (a : Nat) (p0 : Int32) (p1 : Int32) (p2 : Int32) (g : GH) (post : Int32 → GH → Prop) (px : String → GH → Prop) : Prop :=
wp_X7_checkHand p0 (
∃ o2, g a = some (8, o2) ∧
wp_X7_checkShape a p1 g (
∃ o5, g a = some (8, o5) ∧
wp_X7_checkShape a p2 g (
((¬ p1 = p2 → ∃ o9, g a = some (8, o9) ∧
wp_X7_checkCanAct a p1 g (
∃ o12, g a = some (8, o12) ∧
wp_X7_checkCanAct a p2 g (
∀ a15, g a15 = none → ∀ g16, g16 = hu g a15 (1, fo0) →
∃ o19, g16 a15 = some (1, o19) ∧
wp_X0_init p0 5 p1 p2 ((-1)) o19 (fun o21 => ∀ g22, g22 = hu g16 a15 (1, o21) →
∃ o24, g22 a = some (8, o24) ∧
wp_X7_tell a a15 g22 (fun g26 =>
∃ o28, g26 a = some (8, o28) ∧
∃ o31, g26 (fR o28 4) = some (2, o31) ∧
wp_X1_groupSize p1 o31 (fun r30 =>
post r30 g26)))) (fun E => px E g)) (fun E => px E g)) ∧ (p1 = p2 → px "java/lang/IllegalArgumentException" g))) (fun E => px E g)) (fun E => px E g)) (fun E => px E g)
set_option maxHeartbeats 4000000 in
set_option maxRecDepth 100000 in
theorem m_X7_join {Y : gWx} {a : Nat}  {p0 : Int32} {p1 : Int32} {p2 : Int32} {post : Int32 → GH → Prop} {px : String → GH → Prop} {g : GH}    (hl : (yl Y).stackTraces = false) (w : wp_X7_join a p0 p1 p2 g post px) : gMex Y yX7_join cX7_join 4 (some .int) rm_X7_join [.ref a, .int p0, .int p1, .int p2] g (gQi Y post) px 7 347 := by
  refine gm_ofx rfl (Nat.le_of_ble_eq_true rfl) ?_
  intro X hY hn C hno hQx
  subst hY
  have hQ := Or.inr (a := gRet X (gQi (xY X) post) 7 347) hQx
  have C : gC X cX7_join RX7 (some .int) rm_X7_join := C
  show gX X 0 0 0 [(0, .ref a), (1, .int p0), (2, .int p1), (3, .int p2)] [] g
  unfold wp_X7_join at w
  refine r_iload_n C 1 dX7_join_0 rfl (r_gxv (r_ruxS C dX7_join_1 (m_X7_checkHand hl w) mt_X7_checkHand tw227 tw228 rfl (stk := []) rfl (Nat.le_of_ble_eq_true rfl) ⟨rfl, rfl, ⟨Nat.le_of_ble_eq_true rfl, Nat.le_of_ble_eq_true rfl⟩, ⟨Nat.le_of_ble_eq_true rfl, Nat.le_of_ble_eq_true rfl⟩⟩) (fun E h1 hp => by obtain ⟨rfl, hp⟩ := hp; exact r_out C hQx (fun x hx => (hno x hx).elim) ⟨Nat.le_of_ble_eq_true rfl, Nat.le_of_ble_eq_true rfl⟩ hp) ?_)
  intro  h1 hp
  obtain ⟨e9, w⟩ := hp
  rw [e9]
  obtain ⟨o2, e3, w⟩ := w
  refine r_aload_n C 0 dX7_join_4 rfl (r_iload_n C 2 dX7_join_5 rfl (r_gxv (r_ruxV C dX7_join_6 (m_X7_checkShape hl w) mt_X7_checkShape tw528 tw530 tw11 gcl_8.1 e3 rfl (stk := []) rfl (Nat.le_of_ble_eq_true rfl) ⟨rfl, rfl, ⟨Nat.le_of_ble_eq_true rfl, Nat.le_of_ble_eq_true rfl⟩, ⟨Nat.le_of_ble_eq_true rfl, Nat.le_of_ble_eq_true rfl⟩⟩) (fun E h4 hp => by obtain ⟨rfl, hp⟩ := hp; exact r_out C hQx (fun x hx => (hno x hx).elim) ⟨Nat.le_of_ble_eq_true rfl, Nat.le_of_ble_eq_true rfl⟩ hp) ?_))
  intro  h4 hp
  obtain ⟨e9, w⟩ := hp
  rw [e9]
  obtain ⟨o5, e6, w⟩ := w
  refine r_aload_n C 0 dX7_join_9 rfl (r_iload_n C 3 dX7_join_10 rfl (r_gxv (r_ruxV C dX7_join_11 (m_X7_checkShape hl w) mt_X7_checkShape tw528 tw530 tw11 gcl_8.1 e6 rfl (stk := []) rfl (Nat.le_of_ble_eq_true rfl) ⟨rfl, rfl, ⟨Nat.le_of_ble_eq_true rfl, Nat.le_of_ble_eq_true rfl⟩, ⟨Nat.le_of_ble_eq_true rfl, Nat.le_of_ble_eq_true rfl⟩⟩) (fun E h7 hp => by obtain ⟨rfl, hp⟩ := hp; exact r_out C hQx (fun x hx => (hno x hx).elim) ⟨Nat.le_of_ble_eq_true rfl, Nat.le_of_ble_eq_true rfl⟩ hp) ?_))
  intro  h7 hp
  obtain ⟨e9, w⟩ := hp
  rw [e9]
  refine r_iload_n C 2 dX7_join_14 rfl (r_iload_n C 3 dX7_join_15 rfl (r_icmp_ne C 29 dX7_join_16 (by decide) (fun c8 => ?_) (fun c8 => ?_)))
  · have w := w.1 c8
    obtain ⟨o9, e10, w⟩ := w
    refine r_aload_n C 0 dX7_join_29 rfl (r_iload_n C 2 dX7_join_30 rfl (r_gxv (r_ruxV C dX7_join_31 (m_X7_checkCanAct hl w) mt_X7_checkCanAct tw533 tw535 tw12 gcl_8.1 e10 rfl (stk := []) rfl (Nat.le_of_ble_eq_true rfl) ⟨rfl, rfl, ⟨Nat.le_of_ble_eq_true rfl, Nat.le_of_ble_eq_true rfl⟩, ⟨Nat.le_of_ble_eq_true rfl, Nat.le_of_ble_eq_true rfl⟩⟩) (fun E h11 hp => by obtain ⟨rfl, hp⟩ := hp; exact r_out C hQx (fun x hx => (hno x hx).elim) ⟨Nat.le_of_ble_eq_true rfl, Nat.le_of_ble_eq_true rfl⟩ hp) ?_))
    intro  h11 hp
    obtain ⟨e9, w⟩ := hp
    rw [e9]
    obtain ⟨o12, e13, w⟩ := w
    refine r_aload_n C 0 dX7_join_34 rfl (r_iload_n C 3 dX7_join_35 rfl (r_gxv (r_ruxV C dX7_join_36 (m_X7_checkCanAct hl w) mt_X7_checkCanAct tw533 tw535 tw12 gcl_8.1 e13 rfl (stk := []) rfl (Nat.le_of_ble_eq_true rfl) ⟨rfl, rfl, ⟨Nat.le_of_ble_eq_true rfl, Nat.le_of_ble_eq_true rfl⟩, ⟨Nat.le_of_ble_eq_true rfl, Nat.le_of_ble_eq_true rfl⟩⟩) (fun E h14 hp => by obtain ⟨rfl, hp⟩ := hp; exact r_out C hQx (fun x hx => (hno x hx).elim) ⟨Nat.le_of_ble_eq_true rfl, Nat.le_of_ble_eq_true rfl⟩ hp) ?_))
    intro  h14 hp
    obtain ⟨e9, w⟩ := hp
    rw [e9]
    refine r_aload_n C 0 dX7_join_39 rfl (r_new C gcl_1 dX7_join_40 ⟨tw427, tw428, tw76⟩ hsm_1 ⟨Nat.le_of_ble_eq_true rfl, Nat.le_of_ble_eq_true rfl⟩ (fun a15 n18 _ => ?_))
    obtain ⟨g16, e17⟩ : ∃ z, z = hu g a15 (1, fo0) := ⟨_, rfl⟩
    have w := w a15 n18 g16 e17
    refine gX_eq e17.symm ?_
    obtain ⟨o19, e20, w⟩ := w
    refine r_dup C dX7_join_43 rfl (r_iload_n C 1 dX7_join_44 rfl (r_iconst C (v := 5) dX7_join_45 (by decide) (r_iload_n C 2 dX7_join_46 rfl (r_iload_n C 3 dX7_join_47 rfl (r_iconst C (v := (-1)) dX7_join_48 (by decide) (r_gov (r_runI C dX7_join_49 (m_X0_init e20 w) mt_X0_init tw429 tw430 rfl rfl (stk := [.ref a15, .ref a]) rfl (Nat.le_of_ble_eq_true rfl) ⟨rfl, rfl, ⟨Nat.le_of_ble_eq_true rfl, Nat.le_of_ble_eq_true rfl⟩, ⟨Nat.le_of_ble_eq_true rfl, Nat.le_of_ble_eq_true rfl⟩⟩) ?_))))))
    intro  h23 hp
    obtain ⟨o21, e9, w⟩ := hp
    obtain ⟨g22, rfl⟩ : ∃ z, z = h23 := ⟨_, rfl⟩
    have w := w _ e9
    obtain ⟨o24, e25, w⟩ := w
    refine r_gov (r_runV C dX7_join_52 (m_X7_tell w) mt_X7_tell tw463 tw465 tw4 gcl_8.1 e25 rfl (stk := []) rfl (Nat.le_of_ble_eq_true rfl) ⟨rfl, rfl, ⟨Nat.le_of_ble_eq_true rfl, Nat.le_of_ble_eq_true rfl⟩, ⟨Nat.le_of_ble_eq_true rfl, Nat.le_of_ble_eq_true rfl⟩⟩) ?_
    intro  h27 hp
    obtain ⟨g26, rfl⟩ : ∃ z, z = h27 := ⟨_, rfl⟩
    have w := hp
    obtain ⟨o28, e29, w⟩ := w
    obtain ⟨o31, e32, w⟩ := w
    refine r_aload_n C 0 dX7_join_55 rfl (rg_X7_X7_board C dX7_join_56 e29 (r_iload_n C 2 dX7_join_59 rfl (r_goi (r_runV C dX7_join_60 (m_X1_groupSize e32 w) mt_X1_groupSize tw544 tw545 tw546 gcl_2.1 e32 rfl (stk := []) rfl (Nat.le_of_ble_eq_true rfl) ⟨rfl, rfl, ⟨Nat.le_of_ble_eq_true rfl, Nat.le_of_ble_eq_true rfl⟩, ⟨Nat.le_of_ble_eq_true rfl, Nat.le_of_ble_eq_true rfl⟩⟩) ?_)))
    intro r30 h33 hp
    obtain ⟨e9, w⟩ := hp
    rw [e9]
    exact r_iret C hQ dX7_join_63 rfl (vp_nar_int _) ⟨Nat.le_of_ble_eq_true rfl, Nat.le_of_ble_eq_true rfl⟩ w
  · have w := w.2 c8
    exact r_throw (text := "a shape cannot be joined to itself") C hQx hl (fun x hx => (hno x hx).elim) thx_113.1 thx_113.2.1 thx_113.2.2.1 thx_113.2.2.2.1 (by decide +kernel) thx_113.2.2.2.2.1 thx_113.2.2.2.2.2 dX7_join_19 dX7_join_22 dX7_join_23 dX7_join_25 dX7_join_28 ⟨Nat.le_of_ble_eq_true rfl, Nat.le_of_ble_eq_true rfl, Nat.le_of_ble_eq_true rfl, Nat.le_of_ble_eq_true rfl⟩ ⟨Nat.le_of_ble_eq_true rfl, Nat.le_of_ble_eq_true rfl⟩ w
def rm_X7_part : Room := { frames := 8, cells := 5, slots := 335, locals := 324 }
theorem mt_X7_part : gMt yX7_part cX7_part 4 (some .int) 2 := ⟨tw583, tw59, by decide +kernel, by decide +kernel, by decide +kernel⟩
def wp_X7_part (a : Nat) (p0 : Int32) (p1 : Int32) (g : GH) (post : Int32 → GH → Prop) (px : String → GH → Prop) : Prop :=
wp_X7_checkHand p0 (
∃ o2, g a = some (8, o2) ∧
wp_X7_checkShape a p1 g (
∃ o5, g a = some (8, o5) ∧
wp_X7_checkCanAct a p1 g (
∃ o8, g a = some (8, o8) ∧
∃ o11, g (fR o8 4) = some (2, o11) ∧
wp_X1_groupSize p1 o11 (fun r10 =>
∀ a14, g a14 = none → ∀ g15, g15 = hu g a14 (1, fo0) →
∃ o18, g15 a14 = some (1, o18) ∧
wp_X0_init p0 6 p1 ((-1)) ((-1)) o18 (fun o20 => ∀ g21, g21 = hu g15 a14 (1, o20) →
∃ o23, g21 a = some (8, o23) ∧
wp_X7_tell a a14 g21 (fun g25 =>
post (r10 - 1) g25)))) (fun E => px E g)) (fun E => px E g)) (fun E => px E g)
set_option maxHeartbeats 4000000 in
set_option maxRecDepth 100000 in
theorem m_X7_part {Y : gWx} {a : Nat}  {p0 : Int32} {p1 : Int32} {post : Int32 → GH → Prop} {px : String → GH → Prop} {g : GH}    (hl : (yl Y).stackTraces = false) (w : wp_X7_part a p0 p1 g post px) : gMex Y yX7_part cX7_part 4 (some .int) rm_X7_part [.ref a, .int p0, .int p1] g (gQi Y post) px 5 335 := by
  refine gm_ofx rfl (Nat.le_of_ble_eq_true rfl) ?_
  intro X hY hn C hno hQx
  subst hY
  have hQ := Or.inr (a := gRet X (gQi (xY X) post) 5 335) hQx
  have C : gC X cX7_part RX7 (some .int) rm_X7_part := C
  show gX X 0 0 0 [(0, .ref a), (1, .int p0), (2, .int p1)] [] g
  unfold wp_X7_part at w
  refine r_iload_n C 1 dX7_part_0 rfl (r_gxv (r_ruxS C dX7_part_1 (m_X7_checkHand hl w) mt_X7_checkHand tw227 tw228 rfl (stk := []) rfl (Nat.le_of_ble_eq_true rfl) ⟨rfl, rfl, ⟨Nat.le_of_ble_eq_true rfl, Nat.le_of_ble_eq_true rfl⟩, ⟨Nat.le_of_ble_eq_true rfl, Nat.le_of_ble_eq_true rfl⟩⟩) (fun E h1 hp => by obtain ⟨rfl, hp⟩ := hp; exact r_out C hQx (fun x hx => (hno x hx).elim) ⟨Nat.le_of_ble_eq_true rfl, Nat.le_of_ble_eq_true rfl⟩ hp) ?_)
  intro  h1 hp
  obtain ⟨e9, w⟩ := hp
  rw [e9]
  obtain ⟨o2, e3, w⟩ := w
  refine r_aload_n C 0 dX7_part_4 rfl (r_iload_n C 2 dX7_part_5 rfl (r_gxv (r_ruxV C dX7_part_6 (m_X7_checkShape hl w) mt_X7_checkShape tw528 tw530 tw11 gcl_8.1 e3 rfl (stk := []) rfl (Nat.le_of_ble_eq_true rfl) ⟨rfl, rfl, ⟨Nat.le_of_ble_eq_true rfl, Nat.le_of_ble_eq_true rfl⟩, ⟨Nat.le_of_ble_eq_true rfl, Nat.le_of_ble_eq_true rfl⟩⟩) (fun E h4 hp => by obtain ⟨rfl, hp⟩ := hp; exact r_out C hQx (fun x hx => (hno x hx).elim) ⟨Nat.le_of_ble_eq_true rfl, Nat.le_of_ble_eq_true rfl⟩ hp) ?_))
  intro  h4 hp
  obtain ⟨e9, w⟩ := hp
  rw [e9]
  obtain ⟨o5, e6, w⟩ := w
  refine r_aload_n C 0 dX7_part_9 rfl (r_iload_n C 2 dX7_part_10 rfl (r_gxv (r_ruxV C dX7_part_11 (m_X7_checkCanAct hl w) mt_X7_checkCanAct tw533 tw535 tw12 gcl_8.1 e6 rfl (stk := []) rfl (Nat.le_of_ble_eq_true rfl) ⟨rfl, rfl, ⟨Nat.le_of_ble_eq_true rfl, Nat.le_of_ble_eq_true rfl⟩, ⟨Nat.le_of_ble_eq_true rfl, Nat.le_of_ble_eq_true rfl⟩⟩) (fun E h7 hp => by obtain ⟨rfl, hp⟩ := hp; exact r_out C hQx (fun x hx => (hno x hx).elim) ⟨Nat.le_of_ble_eq_true rfl, Nat.le_of_ble_eq_true rfl⟩ hp) ?_))
  intro  h7 hp
  obtain ⟨e9, w⟩ := hp
  rw [e9]
  obtain ⟨o8, e9, w⟩ := w
  obtain ⟨o11, e12, w⟩ := w
  refine r_aload_n C 0 dX7_part_14 rfl (rg_X7_X7_board C dX7_part_15 e9 (r_iload_n C 2 dX7_part_18 rfl (r_goi (r_runV C dX7_part_19 (m_X1_groupSize e12 w) mt_X1_groupSize tw544 tw545 tw546 gcl_2.1 e12 rfl (stk := []) rfl (Nat.le_of_ble_eq_true rfl) ⟨rfl, rfl, ⟨Nat.le_of_ble_eq_true rfl, Nat.le_of_ble_eq_true rfl⟩, ⟨Nat.le_of_ble_eq_true rfl, Nat.le_of_ble_eq_true rfl⟩⟩) ?_)))
  intro r10 h13 hp
  obtain ⟨e9, w⟩ := hp
  rw [e9]
  refine r_iconst C (v := 1) dX7_part_22 (by decide) (r_isub C dX7_part_23 (r_istore_n C dX7_part_24 (nlt hn (by decide)) rfl (r_aload_n C 1 dX7_part_25 rfl (r_new C gcl_1 dX7_part_26 ⟨tw427, tw428, tw76⟩ hsm_1 ⟨Nat.le_of_ble_eq_true rfl, Nat.le_of_ble_eq_true rfl⟩ (fun a14 n17 _ => ?_)))))
  obtain ⟨g15, e16⟩ : ∃ z, z = hu g a14 (1, fo0) := ⟨_, rfl⟩
  have w := w a14 n17 g15 e16
  refine gX_eq e16.symm ?_
  obtain ⟨o18, e19, w⟩ := w
  refine r_dup C dX7_part_29 rfl (r_iload_n C 2 dX7_part_30 rfl (r_bipush C (v := 6) dX7_part_31 (by decide) (r_iload_n C 3 dX7_part_33 rfl (r_iconst C (v := (-1)) dX7_part_34 (by decide) (r_iconst C (v := (-1)) dX7_part_35 (by decide) (r_gov (r_runI C dX7_part_36 (m_X0_init e19 w) mt_X0_init tw429 tw430 rfl rfl (stk := [.ref a14, .ref a]) rfl (Nat.le_of_ble_eq_true rfl) ⟨rfl, rfl, ⟨Nat.le_of_ble_eq_true rfl, Nat.le_of_ble_eq_true rfl⟩, ⟨Nat.le_of_ble_eq_true rfl, Nat.le_of_ble_eq_true rfl⟩⟩) ?_))))))
  intro  h22 hp
  obtain ⟨o20, e9, w⟩ := hp
  obtain ⟨g21, rfl⟩ : ∃ z, z = h22 := ⟨_, rfl⟩
  have w := w _ e9
  obtain ⟨o23, e24, w⟩ := w
  refine r_gov (r_runV C dX7_part_39 (m_X7_tell w) mt_X7_tell tw463 tw465 tw4 gcl_8.1 e24 rfl (stk := []) rfl (Nat.le_of_ble_eq_true rfl) ⟨rfl, rfl, ⟨Nat.le_of_ble_eq_true rfl, Nat.le_of_ble_eq_true rfl⟩, ⟨Nat.le_of_ble_eq_true rfl, Nat.le_of_ble_eq_true rfl⟩⟩) ?_
  intro  h26 hp
  obtain ⟨g25, rfl⟩ : ∃ z, z = h26 := ⟨_, rfl⟩
  have w := hp
  exact r_iload_n C 0 dX7_part_42 rfl (r_iret C hQ dX7_part_43 rfl (vp_nar_int _) ⟨Nat.le_of_ble_eq_true rfl, Nat.le_of_ble_eq_true rfl⟩ w)
def rm_X7_drop : Room := { frames := 8, cells := 5, slots := 335, locals := 324 }
theorem mt_X7_drop : gMt yX7_drop cX7_drop 3 (some .int) 2 := ⟨tw590, tw59, by decide +kernel, by decide +kernel, by decide +kernel⟩
def wp_X7_drop (a : Nat) (p0 : Int32) (p1 : Int32) (g : GH) (post : Int32 → GH → Prop) (px : String → GH → Prop) : Prop :=
wp_X7_checkHand p0 (
∃ o2, g a = some (8, o2) ∧
wp_X7_checkShape a p1 g (
∃ o5, g a = some (8, o5) ∧
wp_X7_checkCanAct a p1 g (
∀ a8, g a8 = none → ∀ g9, g9 = hu g a8 (1, fo0) →
∃ o12, g9 a8 = some (1, o12) ∧
wp_X0_init p0 7 p1 ((-1)) ((-1)) o12 (fun o14 => ∀ g15, g15 = hu g9 a8 (1, o14) →
∃ o17, g15 a = some (8, o17) ∧
wp_X7_tell a a8 g15 (fun g19 =>
∃ o21, g19 a = some (8, o21) ∧
∃ o23, g19 (fR o21 4) = some (2, o23) ∧
wp_J13_bitCount_95d88 (fL o23 7) (fun r25 =>
post r25 g19)))) (fun E => px E g)) (fun E => px E g)) (fun E => px E g)
set_option maxHeartbeats 4000000 in
set_option maxRecDepth 100000 in
theorem m_X7_drop {Y : gWx} {a : Nat}  {p0 : Int32} {p1 : Int32} {post : Int32 → GH → Prop} {px : String → GH → Prop} {g : GH}    (hl : (yl Y).stackTraces = false) (w : wp_X7_drop a p0 p1 g post px) : gMex Y yX7_drop cX7_drop 3 (some .int) rm_X7_drop [.ref a, .int p0, .int p1] g (gQi Y post) px 5 335 := by
  refine gm_ofx rfl (Nat.le_of_ble_eq_true rfl) ?_
  intro X hY hn C hno hQx
  subst hY
  have hQ := Or.inr (a := gRet X (gQi (xY X) post) 5 335) hQx
  have C : gC X cX7_drop RX7 (some .int) rm_X7_drop := C
  show gX X 0 0 0 [(0, .ref a), (1, .int p0), (2, .int p1)] [] g
  unfold wp_X7_drop at w
  refine r_iload_n C 1 dX7_drop_0 rfl (r_gxv (r_ruxS C dX7_drop_1 (m_X7_checkHand hl w) mt_X7_checkHand tw227 tw228 rfl (stk := []) rfl (Nat.le_of_ble_eq_true rfl) ⟨rfl, rfl, ⟨Nat.le_of_ble_eq_true rfl, Nat.le_of_ble_eq_true rfl⟩, ⟨Nat.le_of_ble_eq_true rfl, Nat.le_of_ble_eq_true rfl⟩⟩) (fun E h1 hp => by obtain ⟨rfl, hp⟩ := hp; exact r_out C hQx (fun x hx => (hno x hx).elim) ⟨Nat.le_of_ble_eq_true rfl, Nat.le_of_ble_eq_true rfl⟩ hp) ?_)
  intro  h1 hp
  obtain ⟨e9, w⟩ := hp
  rw [e9]
  obtain ⟨o2, e3, w⟩ := w
  refine r_aload_n C 0 dX7_drop_4 rfl (r_iload_n C 2 dX7_drop_5 rfl (r_gxv (r_ruxV C dX7_drop_6 (m_X7_checkShape hl w) mt_X7_checkShape tw528 tw530 tw11 gcl_8.1 e3 rfl (stk := []) rfl (Nat.le_of_ble_eq_true rfl) ⟨rfl, rfl, ⟨Nat.le_of_ble_eq_true rfl, Nat.le_of_ble_eq_true rfl⟩, ⟨Nat.le_of_ble_eq_true rfl, Nat.le_of_ble_eq_true rfl⟩⟩) (fun E h4 hp => by obtain ⟨rfl, hp⟩ := hp; exact r_out C hQx (fun x hx => (hno x hx).elim) ⟨Nat.le_of_ble_eq_true rfl, Nat.le_of_ble_eq_true rfl⟩ hp) ?_))
  intro  h4 hp
  obtain ⟨e9, w⟩ := hp
  rw [e9]
  obtain ⟨o5, e6, w⟩ := w
  refine r_aload_n C 0 dX7_drop_9 rfl (r_iload_n C 2 dX7_drop_10 rfl (r_gxv (r_ruxV C dX7_drop_11 (m_X7_checkCanAct hl w) mt_X7_checkCanAct tw533 tw535 tw12 gcl_8.1 e6 rfl (stk := []) rfl (Nat.le_of_ble_eq_true rfl) ⟨rfl, rfl, ⟨Nat.le_of_ble_eq_true rfl, Nat.le_of_ble_eq_true rfl⟩, ⟨Nat.le_of_ble_eq_true rfl, Nat.le_of_ble_eq_true rfl⟩⟩) (fun E h7 hp => by obtain ⟨rfl, hp⟩ := hp; exact r_out C hQx (fun x hx => (hno x hx).elim) ⟨Nat.le_of_ble_eq_true rfl, Nat.le_of_ble_eq_true rfl⟩ hp) ?_))
  intro  h7 hp
  obtain ⟨e9, w⟩ := hp
  rw [e9]
  refine r_aload_n C 0 dX7_drop_14 rfl (r_new C gcl_1 dX7_drop_15 ⟨tw427, tw428, tw76⟩ hsm_1 ⟨Nat.le_of_ble_eq_true rfl, Nat.le_of_ble_eq_true rfl⟩ (fun a8 n11 _ => ?_))
  obtain ⟨g9, e10⟩ : ∃ z, z = hu g a8 (1, fo0) := ⟨_, rfl⟩
  have w := w a8 n11 g9 e10
  refine gX_eq e10.symm ?_
  obtain ⟨o12, e13, w⟩ := w
  refine r_dup C dX7_drop_18 rfl (r_iload_n C 1 dX7_drop_19 rfl (r_bipush C (v := 7) dX7_drop_20 (by decide) (r_iload_n C 2 dX7_drop_22 rfl (r_iconst C (v := (-1)) dX7_drop_23 (by decide) (r_iconst C (v := (-1)) dX7_drop_24 (by decide) (r_gov (r_runI C dX7_drop_25 (m_X0_init e13 w) mt_X0_init tw429 tw430 rfl rfl (stk := [.ref a8, .ref a]) rfl (Nat.le_of_ble_eq_true rfl) ⟨rfl, rfl, ⟨Nat.le_of_ble_eq_true rfl, Nat.le_of_ble_eq_true rfl⟩, ⟨Nat.le_of_ble_eq_true rfl, Nat.le_of_ble_eq_true rfl⟩⟩) ?_))))))
  intro  h16 hp
  obtain ⟨o14, e9, w⟩ := hp
  obtain ⟨g15, rfl⟩ : ∃ z, z = h16 := ⟨_, rfl⟩
  have w := w _ e9
  obtain ⟨o17, e18, w⟩ := w
  refine r_gov (r_runV C dX7_drop_28 (m_X7_tell w) mt_X7_tell tw463 tw465 tw4 gcl_8.1 e18 rfl (stk := []) rfl (Nat.le_of_ble_eq_true rfl) ⟨rfl, rfl, ⟨Nat.le_of_ble_eq_true rfl, Nat.le_of_ble_eq_true rfl⟩, ⟨Nat.le_of_ble_eq_true rfl, Nat.le_of_ble_eq_true rfl⟩⟩) ?_
  intro  h20 hp
  obtain ⟨g19, rfl⟩ : ∃ z, z = h20 := ⟨_, rfl⟩
  have w := hp
  obtain ⟨o21, e22, w⟩ := w
  obtain ⟨o23, e24, w⟩ := w
  refine r_aload_n C 0 dX7_drop_31 rfl (rg_X7_X7_board C dX7_drop_32 e22 (rg_X7_X1_present C dX7_drop_35 e24 (r_goi (r_runS C dX7_drop_38 (m_J13_bitCount_95d88 w) mt_J13_bitCount_95d88 tw568 tw549 rfl (stk := []) rfl (Nat.le_of_ble_eq_true rfl) ⟨rfl, rfl, ⟨Nat.le_of_ble_eq_true rfl, Nat.le_of_ble_eq_true rfl⟩, ⟨Nat.le_of_ble_eq_true rfl, Nat.le_of_ble_eq_true rfl⟩⟩) ?_)))
  intro r25 h26 hp
  obtain ⟨e9, w⟩ := hp
  rw [e9]
  exact r_iret C hQ dX7_drop_41 rfl (vp_nar_int _) ⟨Nat.le_of_ble_eq_true rfl, Nat.le_of_ble_eq_true rfl⟩ w
def rm_X7_latestLiveAct : Room := { frames := 3, cells := 0, slots := 0, locals := 101 }
theorem mt_X7_latestLiveAct : gMt yX7_latestLiveAct cX7_latestLiveAct 4 (some .int) 1 := ⟨tw601, tw59, by decide +kernel, by decide +kernel, by decide +kernel⟩
def wp_X7_latestLiveAct_43 (a : Nat) (p0 : Int32) (g : GH) (post : Int32 → Prop) (k10 : Int32 → Prop) (x2 : Int32)  : Prop :=
k10 (x2 + (-1))
def wp_X7_latestLiveAct_10 (a : Nat) (p0 : Int32) (g : GH) (post : Int32 → Prop) : Nat → Int32 → Prop
  | 0, _ => False
  | n + 1, x2 =>
    ((x2 < 0 → post ((-1))) ∧ (¬ x2 < 0 → ∃ o8, g a = some (8, o8) ∧
    ∃ o10, g (fR o8 1) = some (0, o10) ∧
    vp_in x2 (fI o10 2).toNatClampNeg ∧
    ∃ o15, g (fR o10 x2.toNatClampNeg) = some (1, o15) ∧
    ∃ o17, g (fR o10 x2.toNatClampNeg) = some (1, o17) ∧
    ((¬ (fI o17 0) = p0 → wp_X7_latestLiveAct_43 a p0 g post (fun x2 => wp_X7_latestLiveAct_10 a p0 g post n x2) x2) ∧ ((fI o17 0) = p0 → ∃ o20, g (fR o10 x2.toNatClampNeg) = some (1, o20) ∧
    (((fI o20 5) = 0 → wp_X7_latestLiveAct_43 a p0 g post (fun x2 => wp_X7_latestLiveAct_10 a p0 g post n x2) x2) ∧ (¬ (fI o20 5) = 0 → post x2))))))
def wp_X7_latestLiveAct (a : Nat) (p0 : Int32) (g : GH)  (post : Int32 → Prop) : Prop :=
∃ o1, g a = some (8, o1) ∧
∃ o3, g (fR o1 1) = some (0, o3) ∧
wp_X7_latestLiveAct_10 a p0 g post 1000 ((fI o3 2) - 1)
set_option maxHeartbeats 4000000 in
set_option maxRecDepth 100000 in
theorem t_X7_latestLiveAct_43 {X : gCx} {a : Nat}  {p0 : Int32} {post : Int32 → Prop} {g : GH}  {k10 : Int32 → Prop} (C : gC X cX7_latestLiveAct RX7 (some .int) rm_X7_latestLiveAct) (hn : xn X = 4) (hQ : gRet X (gQi (xY X) (fun r9 g9 => g9 = g ∧ post r9)) 0 0 ∨ gRex X (gQi (xY X) (fun r9 g9 => g9 = g ∧ post r9)) (fun _ _ => False) 0 0)   (hk10 : ∀ (x2 : Int32), k10 x2 → gX X 0 0 10 [(0, .ref a), (1, .int p0), (2, .int x2)] [] g) : ∀ (x2 : Int32), wp_X7_latestLiveAct_43 a p0 g post k10 x2 → gX X 0 0 43 [(0, .ref a), (1, .int p0), (2, .int x2)] [] g := by
  intro x2 w
  unfold wp_X7_latestLiveAct_43 at w
  exact r_iinc C (v := x2 + (-1)) 2 dX7_latestLiveAct_43 rfl rfl (nlt hn (by decide)) rfl (r_goto C 10 dX7_latestLiveAct_46 (by decide) (r_sub [1, 2, 0] rfl (hk10 _ w)))
set_option maxHeartbeats 4000000 in
set_option maxRecDepth 100000 in
theorem t_X7_latestLiveAct_10 {X : gCx} {a : Nat}  {p0 : Int32} {post : Int32 → Prop} {g : GH}   (C : gC X cX7_latestLiveAct RX7 (some .int) rm_X7_latestLiveAct) (hn : xn X = 4) (hQ : gRet X (gQi (xY X) (fun r9 g9 => g9 = g ∧ post r9)) 0 0 ∨ gRex X (gQi (xY X) (fun r9 g9 => g9 = g ∧ post r9)) (fun _ _ => False) 0 0)    : ∀ (n : Nat) (x2 : Int32), wp_X7_latestLiveAct_10 a p0 g post n x2 → gX X 0 0 10 [(0, .ref a), (1, .int p0), (2, .int x2)] [] g := by
  intro n
  induction n with
  | zero => intro x2 w; exact w.elim
  | succ n ih =>
    intro x2 w
    unfold wp_X7_latestLiveAct_10 at w
    refine r_iload_n C 2 dX7_latestLiveAct_10 rfl (r_if_lt C 49 dX7_latestLiveAct_11 (by decide) (fun c7 => ?_) (fun c7 => ?_))
    · have w := w.1 c7
      exact r_iconst C (v := (-1)) dX7_latestLiveAct_49 (by decide) (r_iret C hQ dX7_latestLiveAct_50 rfl (vp_nar_int _) ⟨Nat.le_of_ble_eq_true rfl, Nat.le_of_ble_eq_true rfl⟩ ⟨rfl, w⟩)
    · have w := w.2 c7
      obtain ⟨o8, e9, w⟩ := w
      obtain ⟨o10, e11, w⟩ := w
      obtain ⟨i13, w⟩ := w
      refine r_aload_n C 0 dX7_latestLiveAct_14 rfl (rg_X7_X7_toldActs C dX7_latestLiveAct_15 e9 (r_iload_n C 2 dX7_latestLiveAct_18 rfl (r_gor (r_runV C dX7_latestLiveAct_19 (m_lget e11 i13) mt_Jx4a65c_get_915e3 tw467 tw468 tw469 (ci := 0) rfl e11 rfl (stk := []) rfl (Nat.le_of_ble_eq_true rfl) ⟨rfl, rfl, ⟨Nat.le_of_ble_eq_true rfl, Nat.le_of_ble_eq_true rfl⟩, ⟨Nat.le_of_ble_eq_true rfl, Nat.le_of_ble_eq_true rfl⟩⟩) ?_)))
      intro r14 h12 hp
      obtain ⟨e9, e8⟩ := hp
      rw [e9, e8]
      obtain ⟨o15, e16, w⟩ := w
      obtain ⟨o17, e18, w⟩ := w
      refine r_cast C gcl_1 dX7_latestLiveAct_22 tw427 e16 (r_astore_n C dX7_latestLiveAct_25 (nlt hn (by decide)) rfl (r_aload_n C 0 dX7_latestLiveAct_26 rfl (rg_X7_X0_hand C dX7_latestLiveAct_27 e18 (r_iload_n C 2 dX7_latestLiveAct_30 rfl (r_icmp_ne C 43 dX7_latestLiveAct_31 (by decide) (fun c19 => ?_) (fun c19 => ?_))))))
      · have w := w.1 c19
        exact r_sub [1, 2, 3] rfl (t_X7_latestLiveAct_43 C hn hQ ih _ w)
      · have w := w.2 c19
        obtain ⟨o20, e21, w⟩ := w
        refine r_aload_n C 0 dX7_latestLiveAct_34 rfl (rg_X7_X0_isLive C dX7_latestLiveAct_35 e21 (r_if_eq C 43 dX7_latestLiveAct_38 (by decide) (fun c22 => ?_) (fun c22 => ?_)))
        · have w := w.1 c22
          exact r_sub [1, 2, 3] rfl (t_X7_latestLiveAct_43 C hn hQ ih _ w)
        · have w := w.2 c22
          exact r_iload_n C 3 dX7_latestLiveAct_41 rfl (r_iret C hQ dX7_latestLiveAct_42 rfl (vp_nar_int _) ⟨Nat.le_of_ble_eq_true rfl, Nat.le_of_ble_eq_true rfl⟩ ⟨rfl, w⟩)
set_option maxHeartbeats 4000000 in
set_option maxRecDepth 100000 in
theorem m_X7_latestLiveAct {Y : gWx} {a : Nat}  {p0 : Int32} {post : Int32 → Prop} {g : GH}     (w : wp_X7_latestLiveAct a p0 g post) : gMet Y yX7_latestLiveAct cX7_latestLiveAct 4 (some .int) rm_X7_latestLiveAct [.ref a, .int p0] g (gQi Y (fun r9 g9 => g9 = g ∧ post r9)) 0 0 := by
  refine gm_of rfl (Nat.le_of_ble_eq_true rfl) ?_
  intro X hY hn C hnm hQ
  subst hY
  have hQ : gRet X (gQi (xY X) (fun r9 g9 => g9 = g ∧ post r9)) 0 0 ∨ gRex X (gQi (xY X) (fun r9 g9 => g9 = g ∧ post r9)) (fun _ _ => False) 0 0 := Or.inl hQ
  have C : gC X cX7_latestLiveAct RX7 (some .int) rm_X7_latestLiveAct := C
  show gX X 0 0 0 [(0, .ref a), (1, .int p0)] [] g
  unfold wp_X7_latestLiveAct at w
  obtain ⟨o1, e2, w⟩ := w
  obtain ⟨o3, e4, w⟩ := w
  refine r_aload_n C 0 dX7_latestLiveAct_0 rfl (rg_X7_X7_toldActs C dX7_latestLiveAct_1 e2 (r_goi (r_runV C dX7_latestLiveAct_4 (m_lsize e4) mt_Jx4a65c_size_8abf5 tw201 tw202 tw203 (ci := 0) rfl e4 rfl (stk := []) rfl (Nat.le_of_ble_eq_true rfl) ⟨rfl, rfl, ⟨Nat.le_of_ble_eq_true rfl, Nat.le_of_ble_eq_true rfl⟩, ⟨Nat.le_of_ble_eq_true rfl, Nat.le_of_ble_eq_true rfl⟩⟩) ?_))
  intro r6 h5 hp
  obtain ⟨e9, e8⟩ := hp
  rw [e9, e8]
  exact r_iconst C (v := 1) dX7_latestLiveAct_7 (by decide) (r_isub C dX7_latestLiveAct_8 (r_istore_n C dX7_latestLiveAct_9 (nlt hn (by decide)) rfl (r_sub [1, 2, 0] rfl (t_X7_latestLiveAct_10 C hn hQ 1000 _ w))))
def rm_X3_isHolding : Room := { frames := 0, cells := 0, slots := 0, locals := 0 }
theorem mt_X3_isHolding : gMt yX3_isHolding cX3_isHolding 2 (some .boolean) 1 := ⟨tw610, tw82, by decide +kernel, by decide +kernel, by decide +kernel⟩
def wp_X3_isHolding (p0 : Int32) (o : FO)  (post : Int32 → Prop) : Prop :=
((¬ (fI o 7) = 0 → post 0) ∧ ((fI o 7) = 0 → ((p0 < 0 → post 0) ∧ (¬ p0 < 0 → ((200 ≤ p0 → post 0) ∧ (¬ 200 ≤ p0 → vp_in p0 200 ∧
(((fA o 6 p0.toNatClampNeg) = 0 → post 0) ∧ (¬ (fA o 6 p0.toNatClampNeg) = 0 → post 1))))))))
set_option maxHeartbeats 4000000 in
set_option maxRecDepth 100000 in
theorem m_X3_isHolding {Y : gWx} {a : Nat}  {p0 : Int32} {post : Int32 → Prop} {g : GH} {o : FO} (hg : g a = some (4, o))    (w : wp_X3_isHolding p0 o post) : gMet Y yX3_isHolding cX3_isHolding 2 (some .boolean) rm_X3_isHolding [.ref a, .int p0] g (gQi Y (fun r9 g9 => g9 = g ∧ post r9)) 0 0 := by
  refine gm_of rfl (Nat.le_of_ble_eq_true rfl) ?_
  intro X hY hn C hnm hQ
  subst hY
  have hQ : gRet X (gQi (xY X) (fun r9 g9 => g9 = g ∧ post r9)) 0 0 ∨ gRex X (gQi (xY X) (fun r9 g9 => g9 = g ∧ post r9)) (fun _ _ => False) 0 0 := Or.inl hQ
  have C : gC X cX3_isHolding RX3 (some .boolean) rm_X3_isHolding := C
  show gX X 0 0 0 [(0, .ref a), (1, .int p0)] [] g
  unfold wp_X3_isHolding at w
  refine r_aload_n C 0 dX3_isHolding_0 rfl (rg_X3_X3_isWithdrawn C dX3_isHolding_1 hg (r_if_ne C 31 dX3_isHolding_4 (by decide) (fun c1 => ?_) (fun c1 => ?_)))
  · have w := w.1 c1
    exact r_iconst C (v := 0) dX3_isHolding_31 (by decide) (r_iret C hQ dX3_isHolding_32 rfl rfl ⟨Nat.le_of_ble_eq_true rfl, Nat.le_of_ble_eq_true rfl⟩ ⟨rfl, w⟩)
  · have w := w.2 c1
    refine r_iload_n C 1 dX3_isHolding_7 rfl (r_if_lt C 31 dX3_isHolding_8 (by decide) (fun c2 => ?_) (fun c2 => ?_))
    · have w := w.1 c2
      exact r_iconst C (v := 0) dX3_isHolding_31 (by decide) (r_iret C hQ dX3_isHolding_32 rfl rfl ⟨Nat.le_of_ble_eq_true rfl, Nat.le_of_ble_eq_true rfl⟩ ⟨rfl, w⟩)
    · have w := w.2 c2
      refine r_iload_n C 1 dX3_isHolding_11 rfl (r_sipush C (v := 200) dX3_isHolding_12 (by decide) (r_icmp_ge C 31 dX3_isHolding_15 (by decide) (fun c3 => ?_) (fun c3 => ?_)))
      · have w := w.1 c3
        exact r_iconst C (v := 0) dX3_isHolding_31 (by decide) (r_iret C hQ dX3_isHolding_32 rfl rfl ⟨Nat.le_of_ble_eq_true rfl, Nat.le_of_ble_eq_true rfl⟩ ⟨rfl, w⟩)
      · have w := w.2 c3
        obtain ⟨i4, w⟩ := w
        refine r_aload_n C 0 dX3_isHolding_18 rfl (rg_X3_X3_held C dX3_isHolding_19 hg (r_iload_n C 1 dX3_isHolding_22 rfl (r_zald (ci := 4) (k := 6) C dX3_isHolding_23 rfl rfl hg i4 (r_if_eq C 31 dX3_isHolding_24 (by decide) (fun c5 => ?_) (fun c5 => ?_)))))
        · have w := w.1 c5
          exact r_iconst C (v := 0) dX3_isHolding_31 (by decide) (r_iret C hQ dX3_isHolding_32 rfl rfl ⟨Nat.le_of_ble_eq_true rfl, Nat.le_of_ble_eq_true rfl⟩ ⟨rfl, w⟩)
        · have w := w.2 c5
          exact r_iconst C (v := 1) dX3_isHolding_27 (by decide) (r_goto C 32 dX3_isHolding_28 (by decide) (r_iret C hQ dX3_isHolding_32 rfl rfl ⟨Nat.le_of_ble_eq_true rfl, Nat.le_of_ble_eq_true rfl⟩ ⟨rfl, w⟩))
def rm_X7_lowestHolder : Room := { frames := 3, cells := 0, slots := 0, locals := 101 }
theorem mt_X7_lowestHolder : gMt yX7_lowestHolder cX7_lowestHolder 3 (some .int) 1 := ⟨tw605, tw59, by decide +kernel, by decide +kernel, by decide +kernel⟩
def wp_X7_lowestHolder_2 (a : Nat) (p0 : Int32) (g : GH) (post : Int32 → Prop) : Nat → Int32 → Prop
  | 0, _ => False
  | n + 1, x2 =>
    ∃ o1, g a = some (8, o1) ∧
    ∃ o3, g (fR o1 2) = some (0, o3) ∧
    (((fI o3 2) ≤ x2 → post ((-1))) ∧ (¬ (fI o3 2) ≤ x2 → ∃ o8, g a = some (8, o8) ∧
    ∃ o10, g (fR o8 2) = some (0, o10) ∧
    vp_in x2 (fI o10 2).toNatClampNeg ∧
    ∃ o15, g (fR o10 x2.toNatClampNeg) = some (4, o15) ∧
    ∃ o18, g (fR o10 x2.toNatClampNeg) = some (4, o18) ∧
    wp_X3_isHolding p0 o18 (fun r17 =>
    ((r17 = 0 → wp_X7_lowestHolder_2 a p0 g post n (x2 + 1)) ∧ (¬ r17 = 0 → post x2)))))
def wp_X7_lowestHolder (a : Nat) (p0 : Int32) (g : GH)  (post : Int32 → Prop) : Prop :=
wp_X7_lowestHolder_2 a p0 g post 1000 0
set_option maxHeartbeats 4000000 in
set_option maxRecDepth 100000 in
theorem t_X7_lowestHolder_2 {X : gCx} {a : Nat}  {p0 : Int32} {post : Int32 → Prop} {g : GH}   (C : gC X cX7_lowestHolder RX7 (some .int) rm_X7_lowestHolder) (hn : xn X = 3) (hQ : gRet X (gQi (xY X) (fun r9 g9 => g9 = g ∧ post r9)) 0 0 ∨ gRex X (gQi (xY X) (fun r9 g9 => g9 = g ∧ post r9)) (fun _ _ => False) 0 0)    : ∀ (n : Nat) (x2 : Int32), wp_X7_lowestHolder_2 a p0 g post n x2 → gX X 0 0 2 [(0, .ref a), (1, .int p0), (2, .int x2)] [] g := by
  intro n
  induction n with
  | zero => intro x2 w; exact w.elim
  | succ n ih =>
    intro x2 w
    unfold wp_X7_lowestHolder_2 at w
    obtain ⟨o1, e2, w⟩ := w
    obtain ⟨o3, e4, w⟩ := w
    refine r_iload_n C 2 dX7_lowestHolder_2 rfl (r_aload_n C 0 dX7_lowestHolder_3 rfl (rg_X7_X7_frozenEditions C dX7_lowestHolder_4 e2 (r_goi (r_runV C dX7_lowestHolder_7 (m_lsize e4) mt_Jx4a65c_size_8abf5 tw201 tw202 tw203 (ci := 0) rfl e4 rfl (stk := [.int x2]) rfl (Nat.le_of_ble_eq_true rfl) ⟨rfl, rfl, ⟨Nat.le_of_ble_eq_true rfl, Nat.le_of_ble_eq_true rfl⟩, ⟨Nat.le_of_ble_eq_true rfl, Nat.le_of_ble_eq_true rfl⟩⟩) ?_)))
    intro r6 h5 hp
    obtain ⟨e9, e8⟩ := hp
    rw [e9, e8]
    refine r_icmp_ge C 39 dX7_lowestHolder_10 (by decide) (fun c7 => ?_) (fun c7 => ?_)
    · have w := w.1 c7
      exact r_iconst C (v := (-1)) dX7_lowestHolder_39 (by decide) (r_iret C hQ dX7_lowestHolder_40 rfl (vp_nar_int _) ⟨Nat.le_of_ble_eq_true rfl, Nat.le_of_ble_eq_true rfl⟩ ⟨rfl, w⟩)
    · have w := w.2 c7
      obtain ⟨o8, e9, w⟩ := w
      obtain ⟨o10, e11, w⟩ := w
      obtain ⟨i13, w⟩ := w
      refine r_aload_n C 0 dX7_lowestHolder_13 rfl (rg_X7_X7_frozenEditions C dX7_lowestHolder_14 e9 (r_iload_n C 2 dX7_lowestHolder_17 rfl (r_gor (r_runV C dX7_lowestHolder_18 (m_lget e11 i13) mt_Jx4a65c_get_915e3 tw467 tw468 tw469 (ci := 0) rfl e11 rfl (stk := []) rfl (Nat.le_of_ble_eq_true rfl) ⟨rfl, rfl, ⟨Nat.le_of_ble_eq_true rfl, Nat.le_of_ble_eq_true rfl⟩, ⟨Nat.le_of_ble_eq_true rfl, Nat.le_of_ble_eq_true rfl⟩⟩) ?_)))
      intro r14 h12 hp
      obtain ⟨e9, e8⟩ := hp
      rw [e9, e8]
      obtain ⟨o15, e16, w⟩ := w
      obtain ⟨o18, e19, w⟩ := w
      refine r_cast C gcl_4 dX7_lowestHolder_21 tw606 e16 (r_iload_n C 1 dX7_lowestHolder_24 rfl (r_goi (r_runV C dX7_lowestHolder_25 (m_X3_isHolding e19 w) mt_X3_isHolding tw607 tw608 tw609 gcl_4.1 e19 rfl (stk := []) rfl (Nat.le_of_ble_eq_true rfl) ⟨rfl, rfl, ⟨Nat.le_of_ble_eq_true rfl, Nat.le_of_ble_eq_true rfl⟩, ⟨Nat.le_of_ble_eq_true rfl, Nat.le_of_ble_eq_true rfl⟩⟩) ?_))
      intro r17 h20 hp
      obtain ⟨e9, w⟩ := hp
      rw [e9]
      refine r_if_eq C 33 dX7_lowestHolder_28 (by decide) (fun c21 => ?_) (fun c21 => ?_)
      · have w := w.1 c21
        exact r_iinc C (v := x2 + 1) 2 dX7_lowestHolder_33 rfl rfl (nlt hn (by decide)) rfl (r_goto C 2 dX7_lowestHolder_36 (by decide) (r_sub [1, 2, 0] rfl (ih _ w)))
      · have w := w.2 c21
        exact r_iload_n C 2 dX7_lowestHolder_31 rfl (r_iret C hQ dX7_lowestHolder_32 rfl (vp_nar_int _) ⟨Nat.le_of_ble_eq_true rfl, Nat.le_of_ble_eq_true rfl⟩ ⟨rfl, w⟩)
set_option maxHeartbeats 4000000 in
set_option maxRecDepth 100000 in
theorem m_X7_lowestHolder {Y : gWx} {a : Nat}  {p0 : Int32} {post : Int32 → Prop} {g : GH}     (w : wp_X7_lowestHolder a p0 g post) : gMet Y yX7_lowestHolder cX7_lowestHolder 3 (some .int) rm_X7_lowestHolder [.ref a, .int p0] g (gQi Y (fun r9 g9 => g9 = g ∧ post r9)) 0 0 := by
  refine gm_of rfl (Nat.le_of_ble_eq_true rfl) ?_
  intro X hY hn C hnm hQ
  subst hY
  have hQ : gRet X (gQi (xY X) (fun r9 g9 => g9 = g ∧ post r9)) 0 0 ∨ gRex X (gQi (xY X) (fun r9 g9 => g9 = g ∧ post r9)) (fun _ _ => False) 0 0 := Or.inl hQ
  have C : gC X cX7_lowestHolder RX7 (some .int) rm_X7_lowestHolder := C
  show gX X 0 0 0 [(0, .ref a), (1, .int p0)] [] g
  unfold wp_X7_lowestHolder at w
  exact r_iconst C (v := 0) dX7_lowestHolder_0 (by decide) (r_istore_n C dX7_lowestHolder_1 (nlt hn (by decide)) rfl (r_sub [1, 2, 0] rfl (t_X7_lowestHolder_2 C hn hQ 1000 _ w)))
def rm_X7_setLive : Room := { frames := 3, cells := 0, slots := 0, locals := 101 }
theorem mt_X7_setLive : gMt yX7_setLive cX7_setLive 4 none 2 := ⟨tw615, tw59, by decide +kernel, by decide +kernel, by decide +kernel⟩
def wp_X7_setLive (a : Nat) (p0 : Int32) (p1 : Int32) (g : GH) (post : GH → Prop) : Prop :=
((p0 < 0 → post g) ∧ (¬ p0 < 0 → ∃ o2, g a = some (8, o2) ∧
∃ o4, g (fR o2 1) = some (0, o4) ∧
(((fI o4 2) ≤ p0 → post g) ∧ (¬ (fI o4 2) ≤ p0 → ∃ o9, g a = some (8, o9) ∧
∃ o11, g (fR o9 1) = some (0, o11) ∧
vp_in p0 (fI o11 2).toNatClampNeg ∧
∃ o16, g (fR o11 p0.toNatClampNeg) = some (1, o16) ∧
∃ o18, g (fR o11 p0.toNatClampNeg) = some (1, o18) ∧
narrow .boolean (.int p1) = .int p1 ∧
∀ g21, g21 = hu g (fR o11 p0.toNatClampNeg) (1, sI o18 5 p1) →
((¬ p1 = 0 → ∃ o24, g21 (fR o11 p0.toNatClampNeg) = some (1, o24) ∧
∀ g26, g26 = hu g21 (fR o11 p0.toNatClampNeg) (1, sI o24 6 0) →
post g26) ∧ (p1 = 0 → ∃ o28, g21 (fR o11 p0.toNatClampNeg) = some (1, o28) ∧
∀ g30, g30 = hu g21 (fR o11 p0.toNatClampNeg) (1, sI o28 6 1) →
post g30))))))
set_option maxHeartbeats 4000000 in
set_option maxRecDepth 100000 in
theorem m_X7_setLive {Y : gWx} {a : Nat}  {p0 : Int32} {p1 : Int32} {post : GH → Prop} {g : GH}     (w : wp_X7_setLive a p0 p1 g post) : gMet Y yX7_setLive cX7_setLive 4 none rm_X7_setLive [.ref a, .int p0, .int p1] g (gQv Y post) 0 0 := by
  refine gm_of rfl (Nat.le_of_ble_eq_true rfl) ?_
  intro X hY hn C hnm hQ
  subst hY
  have hQ : gRet X (gQv (xY X) post) 0 0 ∨ gRex X (gQv (xY X) post) (fun _ _ => False) 0 0 := Or.inl hQ
  have C : gC X cX7_setLive RX7 none rm_X7_setLive := C
  show gX X 0 0 0 [(0, .ref a), (1, .int p0), (2, .int p1)] [] g
  unfold wp_X7_setLive at w
  refine r_iload_n C 1 dX7_setLive_0 rfl (r_if_lt C 45 dX7_setLive_1 (by decide) (fun c1 => ?_) (fun c1 => ?_))
  · have w := w.1 c1
    exact r_vret C hQ dX7_setLive_45 rfl ⟨Nat.le_of_ble_eq_true rfl, Nat.le_of_ble_eq_true rfl⟩ w
  · have w := w.2 c1
    obtain ⟨o2, e3, w⟩ := w
    obtain ⟨o4, e5, w⟩ := w
    refine r_iload_n C 1 dX7_setLive_4 rfl (r_aload_n C 0 dX7_setLive_5 rfl (rg_X7_X7_toldActs C dX7_setLive_6 e3 (r_goi (r_runV C dX7_setLive_9 (m_lsize e5) mt_Jx4a65c_size_8abf5 tw201 tw202 tw203 (ci := 0) rfl e5 rfl (stk := [.int p0]) rfl (Nat.le_of_ble_eq_true rfl) ⟨rfl, rfl, ⟨Nat.le_of_ble_eq_true rfl, Nat.le_of_ble_eq_true rfl⟩, ⟨Nat.le_of_ble_eq_true rfl, Nat.le_of_ble_eq_true rfl⟩⟩) ?_)))
    intro r7 h6 hp
    obtain ⟨e9, e8⟩ := hp
    rw [e9, e8]
    refine r_icmp_ge C 45 dX7_setLive_12 (by decide) (fun c8 => ?_) (fun c8 => ?_)
    · have w := w.1 c8
      exact r_vret C hQ dX7_setLive_45 rfl ⟨Nat.le_of_ble_eq_true rfl, Nat.le_of_ble_eq_true rfl⟩ w
    · have w := w.2 c8
      obtain ⟨o9, e10, w⟩ := w
      obtain ⟨o11, e12, w⟩ := w
      obtain ⟨i14, w⟩ := w
      refine r_aload_n C 0 dX7_setLive_15 rfl (rg_X7_X7_toldActs C dX7_setLive_16 e10 (r_iload_n C 1 dX7_setLive_19 rfl (r_gor (r_runV C dX7_setLive_20 (m_lget e12 i14) mt_Jx4a65c_get_915e3 tw467 tw468 tw469 (ci := 0) rfl e12 rfl (stk := []) rfl (Nat.le_of_ble_eq_true rfl) ⟨rfl, rfl, ⟨Nat.le_of_ble_eq_true rfl, Nat.le_of_ble_eq_true rfl⟩, ⟨Nat.le_of_ble_eq_true rfl, Nat.le_of_ble_eq_true rfl⟩⟩) ?_)))
      intro r15 h13 hp
      obtain ⟨e9, e8⟩ := hp
      rw [e9, e8]
      obtain ⟨o16, e17, w⟩ := w
      obtain ⟨o18, e19, w⟩ := w
      obtain ⟨i20, w⟩ := w
      obtain ⟨g21, e22⟩ : ∃ z, z = hu g (fR o11 p0.toNatClampNeg) (1, sI o18 5 p1) := ⟨_, rfl⟩
      have w := w g21 e22
      refine r_cast C gcl_1 dX7_setLive_23 tw427 e17 (r_astore_n C dX7_setLive_26 (nlt hn (by decide)) rfl (r_aload_n C 0 dX7_setLive_27 rfl (r_iload_n C 3 dX7_setLive_28 rfl (rp_X7_X0_isLive C dX7_setLive_29 i20 e19 rfl e22 (r_aload_n C 0 dX7_setLive_32 rfl (r_iload_n C 3 dX7_setLive_33 rfl (r_if_ne C 41 dX7_setLive_34 (by decide) (fun c23 => ?_) (fun c23 => ?_))))))))
      · have w := w.1 c23
        obtain ⟨o24, e25, w⟩ := w
        obtain ⟨g26, e27⟩ : ∃ z, z = hu g21 (fR o11 p0.toNatClampNeg) (1, sI o24 6 0) := ⟨_, rfl⟩
        have w := w g26 e27
        exact r_iconst C (v := 0) dX7_setLive_41 (by decide) (rp_X7_X0_isRedoable C dX7_setLive_42 rfl e25 rfl e27 (r_vret C hQ dX7_setLive_45 rfl ⟨Nat.le_of_ble_eq_true rfl, Nat.le_of_ble_eq_true rfl⟩ w))
      · have w := w.2 c23
        obtain ⟨o28, e29, w⟩ := w
        obtain ⟨g30, e31⟩ : ∃ z, z = hu g21 (fR o11 p0.toNatClampNeg) (1, sI o28 6 1) := ⟨_, rfl⟩
        have w := w g30 e31
        exact r_iconst C (v := 1) dX7_setLive_37 (by decide) (r_goto C 42 dX7_setLive_38 (by decide) (rp_X7_X0_isRedoable C dX7_setLive_42 rfl e29 rfl e31 (r_vret C hQ dX7_setLive_45 rfl ⟨Nat.le_of_ble_eq_true rfl, Nat.le_of_ble_eq_true rfl⟩ w)))
def rm_X1_clear : Room := { frames := 0, cells := 0, slots := 0, locals := 0 }
theorem mt_X1_clear : gMt yX1_clear cX1_clear 1 none 0 := ⟨tw623, tw63, by decide +kernel, by decide +kernel, by decide +kernel⟩
def wp_X1_clear (o : FO) (post : FO → Prop) : Prop :=
∀ o1, o1 = sL o 7 0 →
∀ o3, o3 = sI o1 8 0 →
∀ o5, o5 = sI o3 9 0 →
post o5
set_option maxHeartbeats 4000000 in
set_option maxRecDepth 100000 in
theorem m_X1_clear {Y : gWx} {a : Nat}   {post : FO → Prop} {g : GH}  {o : FO} (hg : g a = some (2, o))    (w : wp_X1_clear o post) : gMet Y yX1_clear cX1_clear 1 none rm_X1_clear [.ref a] g (gQv Y (fun  g9 => ∃ o9, g9 = hu g a (2, o9) ∧ post  o9)) 0 0 := by
  refine gm_of rfl (Nat.le_of_ble_eq_true rfl) ?_
  intro X hY hn C hnm hQ
  subst hY
  have hQ : gRet X (gQv (xY X) (fun  g9 => ∃ o9, g9 = hu g a (2, o9) ∧ post  o9)) 0 0 ∨ gRex X (gQv (xY X) (fun  g9 => ∃ o9, g9 = hu g a (2, o9) ∧ post  o9)) (fun _ _ => False) 0 0 := Or.inl hQ
  have C : gC X cX1_clear RX1 none rm_X1_clear := C
  refine gX_eq (hu_id hg).symm ?_
  show gX X 0 0 0 [(0, .ref a)] [] (hu g a (2, o))
  unfold wp_X1_clear at w
  obtain ⟨o1, e2⟩ : ∃ z, z = sL o 7 0 := ⟨_, rfl⟩
  have w := w o1 e2
  obtain ⟨o3, e4⟩ : ∃ z, z = sI o1 8 0 := ⟨_, rfl⟩
  have w := w o3 e4
  obtain ⟨o5, e6⟩ : ∃ z, z = sI o3 9 0 := ⟨_, rfl⟩
  have w := w o5 e6
  exact r_aload_n C 0 dX1_clear_0 rfl (r_lconst C (v := 0) dX1_clear_1 (by decide) (rp_X1_X1_present C dX1_clear_2 hu_s e2 hu_hu.symm (r_aload_n C 0 dX1_clear_5 rfl (r_iconst C (v := 0) dX1_clear_6 (by decide) (rp_X1_X1_highestLayer C dX1_clear_7 hu_s e4 hu_hu.symm (r_aload_n C 0 dX1_clear_10 rfl (r_iconst C (v := 0) dX1_clear_11 (by decide) (rp_X1_X1_lowestLayer C dX1_clear_12 hu_s e6 hu_hu.symm (r_vret C hQ dX1_clear_15 rfl ⟨Nat.le_of_ble_eq_true rfl, Nat.le_of_ble_eq_true rfl⟩ ⟨_, rfl, w⟩)))))))))
def rm_X7_doAllActs : Room := { frames := 5, cells := 0, slots := 0, locals := 123 }
theorem mt_X7_doAllActs : gMt yX7_doAllActs cX7_doAllActs 4 none 1 := ⟨tw619, tw59, by decide +kernel, by decide +kernel, by decide +kernel⟩
def wp_X7_doAllActs_42 (a : Nat) (p0 : Nat) (post : GH → Prop) (k6 : Int32 → GH → Prop) (x2 : Int32) (g : GH) : Prop :=
k6 (x2 + 1) g
def wp_X7_doAllActs_6 (a : Nat) (p0 : Nat) (post : GH → Prop) : Nat → Int32 → GH → Prop
  | 0, _, _ => False
  | n + 1, x2, g =>
    ∃ o6, g a = some (8, o6) ∧
    ∃ o8, g (fR o6 1) = some (0, o8) ∧
    (((fI o8 2) ≤ x2 → post g) ∧ (¬ (fI o8 2) ≤ x2 → ∃ o13, g a = some (8, o13) ∧
    ∃ o15, g (fR o13 1) = some (0, o15) ∧
    vp_in x2 (fI o15 2).toNatClampNeg ∧
    ∃ o20, g (fR o15 x2.toNatClampNeg) = some (1, o20) ∧
    ∃ o22, g (fR o15 x2.toNatClampNeg) = some (1, o22) ∧
    (((fI o22 5) = 0 → wp_X7_doAllActs_42 a p0 post (fun x2 g => wp_X7_doAllActs_6 a p0 post n x2 g) x2 g) ∧ (¬ (fI o22 5) = 0 → ∃ o25, g a = some (8, o25) ∧
    wp_X7_perform a (fR o15 x2.toNatClampNeg) p0 g (fun g27 =>
    wp_X7_doAllActs_42 a p0 post (fun x2 g => wp_X7_doAllActs_6 a p0 post n x2 g) x2 g27)))))
def wp_X7_doAllActs (a : Nat) (p0 : Nat) (g : GH) (post : GH → Prop) : Prop :=
∃ o1, g p0 = some (2, o1) ∧
wp_X1_clear o1 (fun o3 => ∀ g4, g4 = hu g p0 (2, o3) →
wp_X7_doAllActs_6 a p0 post 1000 0 g4)
set_option maxHeartbeats 4000000 in
set_option maxRecDepth 100000 in
theorem t_X7_doAllActs_42 {X : gCx} {a : Nat}  {p0 : Nat} {post : GH → Prop}   {k6 : Int32 → GH → Prop} (C : gC X cX7_doAllActs RX7 none rm_X7_doAllActs) (hn : xn X = 4) (hQ : gRet X (gQv (xY X) post) 0 0 ∨ gRex X (gQv (xY X) post) (fun _ _ => False) 0 0)   (hk6 : ∀ (x2 : Int32) (g : GH), k6 x2 g → gX X 0 0 6 [(0, .ref a), (1, .ref p0), (2, .int x2)] [] g) : ∀ (x2 : Int32) (g : GH), wp_X7_doAllActs_42 a p0 post k6 x2 g → gX X 0 0 42 [(0, .ref a), (1, .ref p0), (2, .int x2)] [] g := by
  intro x2 g w
  unfold wp_X7_doAllActs_42 at w
  exact r_iinc C (v := x2 + 1) 2 dX7_doAllActs_42 rfl rfl (nlt hn (by decide)) rfl (r_goto C 6 dX7_doAllActs_45 (by decide) (r_sub [1, 2, 0] rfl (hk6 _ _ w)))
set_option maxHeartbeats 4000000 in
set_option maxRecDepth 100000 in
theorem t_X7_doAllActs_6 {X : gCx} {a : Nat}  {p0 : Nat} {post : GH → Prop}    (C : gC X cX7_doAllActs RX7 none rm_X7_doAllActs) (hn : xn X = 4) (hQ : gRet X (gQv (xY X) post) 0 0 ∨ gRex X (gQv (xY X) post) (fun _ _ => False) 0 0)    : ∀ (n : Nat) (x2 : Int32) (g : GH), wp_X7_doAllActs_6 a p0 post n x2 g → gX X 0 0 6 [(0, .ref a), (1, .ref p0), (2, .int x2)] [] g := by
  intro n
  induction n with
  | zero => intro x2 g w; exact w.elim
  | succ n ih =>
    intro x2 g w
    unfold wp_X7_doAllActs_6 at w
    obtain ⟨o6, e7, w⟩ := w
    obtain ⟨o8, e9, w⟩ := w
    refine r_iload_n C 2 dX7_doAllActs_6 rfl (r_aload_n C 0 dX7_doAllActs_7 rfl (rg_X7_X7_toldActs C dX7_doAllActs_8 e7 (r_goi (r_runV C dX7_doAllActs_11 (m_lsize e9) mt_Jx4a65c_size_8abf5 tw201 tw202 tw203 (ci := 0) rfl e9 rfl (stk := [.int x2]) rfl (Nat.le_of_ble_eq_true rfl) ⟨rfl, rfl, ⟨Nat.le_of_ble_eq_true rfl, Nat.le_of_ble_eq_true rfl⟩, ⟨Nat.le_of_ble_eq_true rfl, Nat.le_of_ble_eq_true rfl⟩⟩) ?_)))
    intro r11 h10 hp
    obtain ⟨e9, e8⟩ := hp
    rw [e9, e8]
    refine r_icmp_ge C 48 dX7_doAllActs_14 (by decide) (fun c12 => ?_) (fun c12 => ?_)
    · have w := w.1 c12
      exact r_vret C hQ dX7_doAllActs_48 rfl ⟨Nat.le_of_ble_eq_true rfl, Nat.le_of_ble_eq_true rfl⟩ w
    · have w := w.2 c12
      obtain ⟨o13, e14, w⟩ := w
      obtain ⟨o15, e16, w⟩ := w
      obtain ⟨i18, w⟩ := w
      refine r_aload_n C 0 dX7_doAllActs_17 rfl (rg_X7_X7_toldActs C dX7_doAllActs_18 e14 (r_iload_n C 2 dX7_doAllActs_21 rfl (r_gor (r_runV C dX7_doAllActs_22 (m_lget e16 i18) mt_Jx4a65c_get_915e3 tw467 tw468 tw469 (ci := 0) rfl e16 rfl (stk := []) rfl (Nat.le_of_ble_eq_true rfl) ⟨rfl, rfl, ⟨Nat.le_of_ble_eq_true rfl, Nat.le_of_ble_eq_true rfl⟩, ⟨Nat.le_of_ble_eq_true rfl, Nat.le_of_ble_eq_true rfl⟩⟩) ?_)))
      intro r19 h17 hp
      obtain ⟨e9, e8⟩ := hp
      rw [e9, e8]
      obtain ⟨o20, e21, w⟩ := w
      obtain ⟨o22, e23, w⟩ := w
      refine r_cast C gcl_1 dX7_doAllActs_25 tw427 e21 (r_astore_n C dX7_doAllActs_28 (nlt hn (by decide)) rfl (r_aload_n C 0 dX7_doAllActs_29 rfl (rg_X7_X0_isLive C dX7_doAllActs_30 e23 (r_if_eq C 42 dX7_doAllActs_33 (by decide) (fun c24 => ?_) (fun c24 => ?_)))))
      · have w := w.1 c24
        exact r_sub [1, 2, 3] rfl (t_X7_doAllActs_42 C hn hQ ih _ _ w)
      · have w := w.2 c24
        obtain ⟨o25, e26, w⟩ := w
        refine r_aload_n C 1 dX7_doAllActs_36 rfl (r_aload_n C 0 dX7_doAllActs_37 rfl (r_aload_n C 2 dX7_doAllActs_38 rfl (r_gov (r_runV C dX7_doAllActs_39 (m_X7_perform w) mt_X7_perform tw481 tw483 tw5 gcl_8.1 e26 rfl (stk := []) rfl (Nat.le_of_ble_eq_true rfl) ⟨rfl, rfl, ⟨Nat.le_of_ble_eq_true rfl, Nat.le_of_ble_eq_true rfl⟩, ⟨Nat.le_of_ble_eq_true rfl, Nat.le_of_ble_eq_true rfl⟩⟩) ?_)))
        intro  h28 hp
        obtain ⟨g27, rfl⟩ : ∃ z, z = h28 := ⟨_, rfl⟩
        have w := hp
        exact r_sub [1, 2, 3] rfl (t_X7_doAllActs_42 C hn hQ ih _ _ w)
set_option maxHeartbeats 4000000 in
set_option maxRecDepth 100000 in
theorem m_X7_doAllActs {Y : gWx} {a : Nat}  {p0 : Nat} {post : GH → Prop} {g : GH}     (w : wp_X7_doAllActs a p0 g post) : gMet Y yX7_doAllActs cX7_doAllActs 4 none rm_X7_doAllActs [.ref a, .ref p0] g (gQv Y post) 0 0 := by
  refine gm_of rfl (Nat.le_of_ble_eq_true rfl) ?_
  intro X hY hn C hnm hQ
  subst hY
  have hQ : gRet X (gQv (xY X) post) 0 0 ∨ gRex X (gQv (xY X) post) (fun _ _ => False) 0 0 := Or.inl hQ
  have C : gC X cX7_doAllActs RX7 none rm_X7_doAllActs := C
  show gX X 0 0 0 [(0, .ref a), (1, .ref p0)] [] g
  unfold wp_X7_doAllActs at w
  obtain ⟨o1, e2, w⟩ := w
  refine r_aload_n C 1 dX7_doAllActs_0 rfl (r_gov (r_runV C dX7_doAllActs_1 (m_X1_clear e2 w) mt_X1_clear tw620 tw621 tw622 gcl_2.1 e2 rfl (stk := []) rfl (Nat.le_of_ble_eq_true rfl) ⟨rfl, rfl, ⟨Nat.le_of_ble_eq_true rfl, Nat.le_of_ble_eq_true rfl⟩, ⟨Nat.le_of_ble_eq_true rfl, Nat.le_of_ble_eq_true rfl⟩⟩) ?_)
  intro  h5 hp
  obtain ⟨o3, e9, w⟩ := hp
  obtain ⟨g4, rfl⟩ : ∃ z, z = h5 := ⟨_, rfl⟩
  have w := w _ e9
  exact r_iconst C (v := 0) dX7_doAllActs_4 (by decide) (r_istore_n C dX7_doAllActs_5 (nlt hn (by decide)) rfl (r_sub [1, 2, 0] rfl (t_X7_doAllActs_6 C hn hQ 1000 _ _ w)))
def rm_X7_undo : Room := { frames := 7, cells := 2, slots := 12, locals := 146 }
theorem mt_X7_undo : gMt yX7_undo cX7_undo 3 (some .int) 1 := ⟨tw597, tw59, by decide +kernel, by decide +kernel, by decide +kernel⟩
def wp_X7_undo_24 (a : Nat) (p0 : Int32) (post : Int32 → GH → Prop) (px : String → GH → Prop)  (g : GH) : Prop :=
px "java/lang/IllegalStateException" g
def wp_X7_undo (a : Nat) (p0 : Int32) (g : GH) (post : Int32 → GH → Prop) (px : String → GH → Prop) : Prop :=
wp_X7_checkHand p0 (
∃ o3, g a = some (8, o3) ∧
wp_X7_latestLiveAct a p0 g (fun r2 =>
((r2 = ((-1)) → wp_X7_undo_24 a p0 post px g) ∧ (¬ r2 = ((-1)) → ∃ o8, g a = some (8, o8) ∧
wp_X7_lowestHolder a r2 g (fun r7 =>
((r7 = ((-1)) → ∃ o12, g a = some (8, o12) ∧
wp_X7_setLive a r2 0 g (fun g14 =>
∃ o16, g14 a = some (8, o16) ∧
∃ o18, g14 a = some (8, o18) ∧
wp_X7_doAllActs a (fR o16 4) g14 (fun g20 =>
post r2 g20))) ∧ (¬ r7 = ((-1)) → wp_X7_undo_24 a p0 post px g))))))) (fun E => px E g)
set_option maxHeartbeats 4000000 in
set_option maxRecDepth 100000 in
theorem t_X7_undo_24 {X : gCx} {a : Nat}  {p0 : Int32} {post : Int32 → GH → Prop} {px : String → GH → Prop}    (C : gC X cX7_undo RX7 (some .int) rm_X7_undo) (hn : xn X = 3) (hQ : gRet X (gQi (xY X) post) 2 12 ∨ gRex X (gQi (xY X) post) px 2 12) (hQx : gRex X (gQi (xY X) post) px 2 12) (hl : (yl (xY X)).stackTraces = false) (hno : ∀ x ∈ (xc X).exceptionTable.toList, False)    : ∀ (g : GH), wp_X7_undo_24 a p0 post px g → gX X 1 6 24 [] [] g := by
  intro g w
  unfold wp_X7_undo_24 at w
  exact r_throw (text := "no live act, or an edition holds it") C hQx hl (fun x hx => (hno x hx).elim) thx_65.1 thx_65.2.1 thx_65.2.2.1 thx_65.2.2.2.1 (by decide +kernel) thx_65.2.2.2.2.1 thx_65.2.2.2.2.2 dX7_undo_24 dX7_undo_27 dX7_undo_28 dX7_undo_30 dX7_undo_33 ⟨Nat.le_of_ble_eq_true rfl, Nat.le_of_ble_eq_true rfl, Nat.le_of_ble_eq_true rfl, Nat.le_of_ble_eq_true rfl⟩ ⟨Nat.le_of_ble_eq_true rfl, Nat.le_of_ble_eq_true rfl⟩ w
set_option maxHeartbeats 4000000 in
set_option maxRecDepth 100000 in
theorem m_X7_undo {Y : gWx} {a : Nat}  {p0 : Int32} {post : Int32 → GH → Prop} {px : String → GH → Prop} {g : GH}    (hl : (yl Y).stackTraces = false) (w : wp_X7_undo a p0 g post px) : gMex Y yX7_undo cX7_undo 3 (some .int) rm_X7_undo [.ref a, .int p0] g (gQi Y post) px 2 12 := by
  refine gm_ofx rfl (Nat.le_of_ble_eq_true rfl) ?_
  intro X hY hn C hno hQx
  subst hY
  have hQ := Or.inr (a := gRet X (gQi (xY X) post) 2 12) hQx
  have C : gC X cX7_undo RX7 (some .int) rm_X7_undo := C
  show gX X 0 0 0 [(0, .ref a), (1, .int p0)] [] g
  unfold wp_X7_undo at w
  refine r_iload_n C 1 dX7_undo_0 rfl (r_gxv (r_ruxS C dX7_undo_1 (m_X7_checkHand hl w) mt_X7_checkHand tw227 tw228 rfl (stk := []) rfl (Nat.le_of_ble_eq_true rfl) ⟨rfl, rfl, ⟨Nat.le_of_ble_eq_true rfl, Nat.le_of_ble_eq_true rfl⟩, ⟨Nat.le_of_ble_eq_true rfl, Nat.le_of_ble_eq_true rfl⟩⟩) (fun E h1 hp => by obtain ⟨rfl, hp⟩ := hp; exact r_out C hQx (fun x hx => (hno x hx).elim) ⟨Nat.le_of_ble_eq_true rfl, Nat.le_of_ble_eq_true rfl⟩ hp) ?_)
  intro  h1 hp
  obtain ⟨e9, w⟩ := hp
  rw [e9]
  obtain ⟨o3, e4, w⟩ := w
  refine r_aload_n C 0 dX7_undo_4 rfl (r_iload_n C 1 dX7_undo_5 rfl (r_goi (r_runV C dX7_undo_6 (m_X7_latestLiveAct w) mt_X7_latestLiveAct tw598 tw600 tw14 gcl_8.1 e4 rfl (stk := []) rfl (Nat.le_of_ble_eq_true rfl) ⟨rfl, rfl, ⟨Nat.le_of_ble_eq_true rfl, Nat.le_of_ble_eq_true rfl⟩, ⟨Nat.le_of_ble_eq_true rfl, Nat.le_of_ble_eq_true rfl⟩⟩) ?_))
  intro r2 h5 hp
  obtain ⟨e9, w⟩ := hp
  rw [e9]
  refine r_istore_n C dX7_undo_9 (nlt hn (by decide)) rfl (r_iload_n C 0 dX7_undo_10 rfl (r_iconst C (v := (-1)) dX7_undo_11 (by decide) (r_icmp_eq C 24 dX7_undo_12 (by decide) (fun c6 => ?_) (fun c6 => ?_))))
  · have w := w.1 c6
    exact r_widen (Nat.le_of_ble_eq_true rfl) (Nat.le_of_ble_eq_true rfl) <| r_sub [] rfl (t_X7_undo_24 C hn hQ hQx hl hno _ w)
  · have w := w.2 c6
    obtain ⟨o8, e9, w⟩ := w
    refine r_aload_n C 1 dX7_undo_15 rfl (r_iload_n C 0 dX7_undo_16 rfl (r_goi (r_runV C dX7_undo_17 (m_X7_lowestHolder w) mt_X7_lowestHolder tw602 tw604 tw15 gcl_8.1 e9 rfl (stk := []) rfl (Nat.le_of_ble_eq_true rfl) ⟨rfl, rfl, ⟨Nat.le_of_ble_eq_true rfl, Nat.le_of_ble_eq_true rfl⟩, ⟨Nat.le_of_ble_eq_true rfl, Nat.le_of_ble_eq_true rfl⟩⟩) ?_))
    intro r7 h10 hp
    obtain ⟨e9, w⟩ := hp
    rw [e9]
    refine r_iconst C (v := (-1)) dX7_undo_20 (by decide) (r_icmp_eq C 34 dX7_undo_21 (by decide) (fun c11 => ?_) (fun c11 => ?_))
    · have w := w.1 c11
      obtain ⟨o12, e13, w⟩ := w
      refine r_aload_n C 1 dX7_undo_34 rfl (r_iload_n C 0 dX7_undo_35 rfl (r_iconst C (v := 0) dX7_undo_36 (by decide) (r_gov (r_runV C dX7_undo_37 (m_X7_setLive w) mt_X7_setLive tw612 tw614 tw16 gcl_8.1 e13 rfl (stk := []) rfl (Nat.le_of_ble_eq_true rfl) ⟨rfl, rfl, ⟨Nat.le_of_ble_eq_true rfl, Nat.le_of_ble_eq_true rfl⟩, ⟨Nat.le_of_ble_eq_true rfl, Nat.le_of_ble_eq_true rfl⟩⟩) ?_)))
      intro  h15 hp
      obtain ⟨g14, rfl⟩ : ∃ z, z = h15 := ⟨_, rfl⟩
      have w := hp
      obtain ⟨o16, e17, w⟩ := w
      obtain ⟨o18, e19, w⟩ := w
      refine r_aload_n C 1 dX7_undo_40 rfl (r_aload_n C 1 dX7_undo_41 rfl (rg_X7_X7_board C dX7_undo_42 e17 (r_gov (r_runV C dX7_undo_45 (m_X7_doAllActs w) mt_X7_doAllActs tw616 tw618 tw17 gcl_8.1 e19 rfl (stk := []) rfl (Nat.le_of_ble_eq_true rfl) ⟨rfl, rfl, ⟨Nat.le_of_ble_eq_true rfl, Nat.le_of_ble_eq_true rfl⟩, ⟨Nat.le_of_ble_eq_true rfl, Nat.le_of_ble_eq_true rfl⟩⟩) ?_)))
      intro  h21 hp
      obtain ⟨g20, rfl⟩ : ∃ z, z = h21 := ⟨_, rfl⟩
      have w := hp
      exact r_iload_n C 0 dX7_undo_48 rfl (r_iret C hQ dX7_undo_49 rfl (vp_nar_int _) ⟨Nat.le_of_ble_eq_true rfl, Nat.le_of_ble_eq_true rfl⟩ w)
    · have w := w.2 c11
      exact r_widen (Nat.le_of_ble_eq_true rfl) (Nat.le_of_ble_eq_true rfl) <| r_sub [] rfl (t_X7_undo_24 C hn hQ hQx hl hno _ w)
def rm_X7_actUndoneLast : Room := { frames := 3, cells := 0, slots := 0, locals := 101 }
theorem mt_X7_actUndoneLast : gMt yX7_actUndoneLast cX7_actUndoneLast 4 (some .int) 1 := ⟨tw634, tw59, by decide +kernel, by decide +kernel, by decide +kernel⟩
def wp_X7_actUndoneLast_42 (a : Nat) (p0 : Int32) (g : GH) (post : Int32 → Prop) (k2 : Int32 → Prop) (x2 : Int32)  : Prop :=
k2 (x2 + 1)
def wp_X7_actUndoneLast_2 (a : Nat) (p0 : Int32) (g : GH) (post : Int32 → Prop) : Nat → Int32 → Prop
  | 0, _ => False
  | n + 1, x2 =>
    ∃ o1, g a = some (8, o1) ∧
    ∃ o3, g (fR o1 1) = some (0, o3) ∧
    (((fI o3 2) ≤ x2 → post ((-1))) ∧ (¬ (fI o3 2) ≤ x2 → ∃ o8, g a = some (8, o8) ∧
    ∃ o10, g (fR o8 1) = some (0, o10) ∧
    vp_in x2 (fI o10 2).toNatClampNeg ∧
    ∃ o15, g (fR o10 x2.toNatClampNeg) = some (1, o15) ∧
    ∃ o17, g (fR o10 x2.toNatClampNeg) = some (1, o17) ∧
    ((¬ (fI o17 0) = p0 → wp_X7_actUndoneLast_42 a p0 g post (fun x2 => wp_X7_actUndoneLast_2 a p0 g post n x2) x2) ∧ ((fI o17 0) = p0 → ∃ o20, g (fR o10 x2.toNatClampNeg) = some (1, o20) ∧
    (((fI o20 6) = 0 → wp_X7_actUndoneLast_42 a p0 g post (fun x2 => wp_X7_actUndoneLast_2 a p0 g post n x2) x2) ∧ (¬ (fI o20 6) = 0 → post x2))))))
def wp_X7_actUndoneLast (a : Nat) (p0 : Int32) (g : GH)  (post : Int32 → Prop) : Prop :=
wp_X7_actUndoneLast_2 a p0 g post 1000 0
set_option maxHeartbeats 4000000 in
set_option maxRecDepth 100000 in
theorem t_X7_actUndoneLast_42 {X : gCx} {a : Nat}  {p0 : Int32} {post : Int32 → Prop} {g : GH}  {k2 : Int32 → Prop} (C : gC X cX7_actUndoneLast RX7 (some .int) rm_X7_actUndoneLast) (hn : xn X = 4) (hQ : gRet X (gQi (xY X) (fun r9 g9 => g9 = g ∧ post r9)) 0 0 ∨ gRex X (gQi (xY X) (fun r9 g9 => g9 = g ∧ post r9)) (fun _ _ => False) 0 0)   (hk2 : ∀ (x2 : Int32), k2 x2 → gX X 0 0 2 [(0, .ref a), (1, .int p0), (2, .int x2)] [] g) : ∀ (x2 : Int32), wp_X7_actUndoneLast_42 a p0 g post k2 x2 → gX X 0 0 42 [(0, .ref a), (1, .int p0), (2, .int x2)] [] g := by
  intro x2 w
  unfold wp_X7_actUndoneLast_42 at w
  exact r_iinc C (v := x2 + 1) 2 dX7_actUndoneLast_42 rfl rfl (nlt hn (by decide)) rfl (r_goto C 2 dX7_actUndoneLast_45 (by decide) (r_sub [1, 2, 0] rfl (hk2 _ w)))
set_option maxHeartbeats 4000000 in
set_option maxRecDepth 100000 in
theorem t_X7_actUndoneLast_2 {X : gCx} {a : Nat}  {p0 : Int32} {post : Int32 → Prop} {g : GH}   (C : gC X cX7_actUndoneLast RX7 (some .int) rm_X7_actUndoneLast) (hn : xn X = 4) (hQ : gRet X (gQi (xY X) (fun r9 g9 => g9 = g ∧ post r9)) 0 0 ∨ gRex X (gQi (xY X) (fun r9 g9 => g9 = g ∧ post r9)) (fun _ _ => False) 0 0)    : ∀ (n : Nat) (x2 : Int32), wp_X7_actUndoneLast_2 a p0 g post n x2 → gX X 0 0 2 [(0, .ref a), (1, .int p0), (2, .int x2)] [] g := by
  intro n
  induction n with
  | zero => intro x2 w; exact w.elim
  | succ n ih =>
    intro x2 w
    unfold wp_X7_actUndoneLast_2 at w
    obtain ⟨o1, e2, w⟩ := w
    obtain ⟨o3, e4, w⟩ := w
    refine r_iload_n C 2 dX7_actUndoneLast_2 rfl (r_aload_n C 0 dX7_actUndoneLast_3 rfl (rg_X7_X7_toldActs C dX7_actUndoneLast_4 e2 (r_goi (r_runV C dX7_actUndoneLast_7 (m_lsize e4) mt_Jx4a65c_size_8abf5 tw201 tw202 tw203 (ci := 0) rfl e4 rfl (stk := [.int x2]) rfl (Nat.le_of_ble_eq_true rfl) ⟨rfl, rfl, ⟨Nat.le_of_ble_eq_true rfl, Nat.le_of_ble_eq_true rfl⟩, ⟨Nat.le_of_ble_eq_true rfl, Nat.le_of_ble_eq_true rfl⟩⟩) ?_)))
    intro r6 h5 hp
    obtain ⟨e9, e8⟩ := hp
    rw [e9, e8]
    refine r_icmp_ge C 48 dX7_actUndoneLast_10 (by decide) (fun c7 => ?_) (fun c7 => ?_)
    · have w := w.1 c7
      exact r_iconst C (v := (-1)) dX7_actUndoneLast_48 (by decide) (r_iret C hQ dX7_actUndoneLast_49 rfl (vp_nar_int _) ⟨Nat.le_of_ble_eq_true rfl, Nat.le_of_ble_eq_true rfl⟩ ⟨rfl, w⟩)
    · have w := w.2 c7
      obtain ⟨o8, e9, w⟩ := w
      obtain ⟨o10, e11, w⟩ := w
      obtain ⟨i13, w⟩ := w
      refine r_aload_n C 0 dX7_actUndoneLast_13 rfl (rg_X7_X7_toldActs C dX7_actUndoneLast_14 e9 (r_iload_n C 2 dX7_actUndoneLast_17 rfl (r_gor (r_runV C dX7_actUndoneLast_18 (m_lget e11 i13) mt_Jx4a65c_get_915e3 tw467 tw468 tw469 (ci := 0) rfl e11 rfl (stk := []) rfl (Nat.le_of_ble_eq_true rfl) ⟨rfl, rfl, ⟨Nat.le_of_ble_eq_true rfl, Nat.le_of_ble_eq_true rfl⟩, ⟨Nat.le_of_ble_eq_true rfl, Nat.le_of_ble_eq_true rfl⟩⟩) ?_)))
      intro r14 h12 hp
      obtain ⟨e9, e8⟩ := hp
      rw [e9, e8]
      obtain ⟨o15, e16, w⟩ := w
      obtain ⟨o17, e18, w⟩ := w
      refine r_cast C gcl_1 dX7_actUndoneLast_21 tw427 e16 (r_astore_n C dX7_actUndoneLast_24 (nlt hn (by decide)) rfl (r_aload_n C 0 dX7_actUndoneLast_25 rfl (rg_X7_X0_hand C dX7_actUndoneLast_26 e18 (r_iload_n C 2 dX7_actUndoneLast_29 rfl (r_icmp_ne C 42 dX7_actUndoneLast_30 (by decide) (fun c19 => ?_) (fun c19 => ?_))))))
      · have w := w.1 c19
        exact r_sub [1, 2, 3] rfl (t_X7_actUndoneLast_42 C hn hQ ih _ w)
      · have w := w.2 c19
        obtain ⟨o20, e21, w⟩ := w
        refine r_aload_n C 0 dX7_actUndoneLast_33 rfl (rg_X7_X0_isRedoable C dX7_actUndoneLast_34 e21 (r_if_eq C 42 dX7_actUndoneLast_37 (by decide) (fun c22 => ?_) (fun c22 => ?_)))
        · have w := w.1 c22
          exact r_sub [1, 2, 3] rfl (t_X7_actUndoneLast_42 C hn hQ ih _ w)
        · have w := w.2 c22
          exact r_iload_n C 3 dX7_actUndoneLast_40 rfl (r_iret C hQ dX7_actUndoneLast_41 rfl (vp_nar_int _) ⟨Nat.le_of_ble_eq_true rfl, Nat.le_of_ble_eq_true rfl⟩ ⟨rfl, w⟩)
set_option maxHeartbeats 4000000 in
set_option maxRecDepth 100000 in
theorem m_X7_actUndoneLast {Y : gWx} {a : Nat}  {p0 : Int32} {post : Int32 → Prop} {g : GH}     (w : wp_X7_actUndoneLast a p0 g post) : gMet Y yX7_actUndoneLast cX7_actUndoneLast 4 (some .int) rm_X7_actUndoneLast [.ref a, .int p0] g (gQi Y (fun r9 g9 => g9 = g ∧ post r9)) 0 0 := by
  refine gm_of rfl (Nat.le_of_ble_eq_true rfl) ?_
  intro X hY hn C hnm hQ
  subst hY
  have hQ : gRet X (gQi (xY X) (fun r9 g9 => g9 = g ∧ post r9)) 0 0 ∨ gRex X (gQi (xY X) (fun r9 g9 => g9 = g ∧ post r9)) (fun _ _ => False) 0 0 := Or.inl hQ
  have C : gC X cX7_actUndoneLast RX7 (some .int) rm_X7_actUndoneLast := C
  show gX X 0 0 0 [(0, .ref a), (1, .int p0)] [] g
  unfold wp_X7_actUndoneLast at w
  exact r_iconst C (v := 0) dX7_actUndoneLast_0 (by decide) (r_istore_n C dX7_actUndoneLast_1 (nlt hn (by decide)) rfl (r_sub [1, 2, 0] rfl (t_X7_actUndoneLast_2 C hn hQ 1000 _ w)))
def rm_X7_redo : Room := { frames := 7, cells := 2, slots := 12, locals := 146 }
theorem mt_X7_redo : gMt yX7_redo cX7_redo 3 (some .int) 1 := ⟨tw630, tw59, by decide +kernel, by decide +kernel, by decide +kernel⟩
def wp_X7_redo (a : Nat) (p0 : Int32) (g : GH) (post : Int32 → GH → Prop) (px : String → GH → Prop) : Prop :=
wp_X7_checkHand p0 (
∃ o3, g a = some (8, o3) ∧
wp_X7_actUndoneLast a p0 g (fun r2 =>
((¬ r2 = ((-1)) → ∃ o7, g a = some (8, o7) ∧
wp_X7_setLive a r2 1 g (fun g9 =>
∃ o11, g9 a = some (8, o11) ∧
∃ o13, g9 a = some (8, o13) ∧
wp_X7_doAllActs a (fR o11 4) g9 (fun g15 =>
post r2 g15))) ∧ (r2 = ((-1)) → px "java/lang/IllegalStateException" g)))) (fun E => px E g)
set_option maxHeartbeats 4000000 in
set_option maxRecDepth 100000 in
theorem m_X7_redo {Y : gWx} {a : Nat}  {p0 : Int32} {post : Int32 → GH → Prop} {px : String → GH → Prop} {g : GH}    (hl : (yl Y).stackTraces = false) (w : wp_X7_redo a p0 g post px) : gMex Y yX7_redo cX7_redo 3 (some .int) rm_X7_redo [.ref a, .int p0] g (gQi Y post) px 2 12 := by
  refine gm_ofx rfl (Nat.le_of_ble_eq_true rfl) ?_
  intro X hY hn C hno hQx
  subst hY
  have hQ := Or.inr (a := gRet X (gQi (xY X) post) 2 12) hQx
  have C : gC X cX7_redo RX7 (some .int) rm_X7_redo := C
  show gX X 0 0 0 [(0, .ref a), (1, .int p0)] [] g
  unfold wp_X7_redo at w
  refine r_iload_n C 1 dX7_redo_0 rfl (r_gxv (r_ruxS C dX7_redo_1 (m_X7_checkHand hl w) mt_X7_checkHand tw227 tw228 rfl (stk := []) rfl (Nat.le_of_ble_eq_true rfl) ⟨rfl, rfl, ⟨Nat.le_of_ble_eq_true rfl, Nat.le_of_ble_eq_true rfl⟩, ⟨Nat.le_of_ble_eq_true rfl, Nat.le_of_ble_eq_true rfl⟩⟩) (fun E h1 hp => by obtain ⟨rfl, hp⟩ := hp; exact r_out C hQx (fun x hx => (hno x hx).elim) ⟨Nat.le_of_ble_eq_true rfl, Nat.le_of_ble_eq_true rfl⟩ hp) ?_)
  intro  h1 hp
  obtain ⟨e9, w⟩ := hp
  rw [e9]
  obtain ⟨o3, e4, w⟩ := w
  refine r_aload_n C 0 dX7_redo_4 rfl (r_iload_n C 1 dX7_redo_5 rfl (r_goi (r_runV C dX7_redo_6 (m_X7_actUndoneLast w) mt_X7_actUndoneLast tw631 tw633 tw18 gcl_8.1 e4 rfl (stk := []) rfl (Nat.le_of_ble_eq_true rfl) ⟨rfl, rfl, ⟨Nat.le_of_ble_eq_true rfl, Nat.le_of_ble_eq_true rfl⟩, ⟨Nat.le_of_ble_eq_true rfl, Nat.le_of_ble_eq_true rfl⟩⟩) ?_))
  intro r2 h5 hp
  obtain ⟨e9, w⟩ := hp
  rw [e9]
  refine r_istore_n C dX7_redo_9 (nlt hn (by decide)) rfl (r_iload_n C 0 dX7_redo_10 rfl (r_iconst C (v := (-1)) dX7_redo_11 (by decide) (r_icmp_ne C 25 dX7_redo_12 (by decide) (fun c6 => ?_) (fun c6 => ?_))))
  · have w := w.1 c6
    obtain ⟨o7, e8, w⟩ := w
    refine r_aload_n C 1 dX7_redo_25 rfl (r_iload_n C 0 dX7_redo_26 rfl (r_iconst C (v := 1) dX7_redo_27 (by decide) (r_gov (r_runV C dX7_redo_28 (m_X7_setLive w) mt_X7_setLive tw612 tw614 tw16 gcl_8.1 e8 rfl (stk := []) rfl (Nat.le_of_ble_eq_true rfl) ⟨rfl, rfl, ⟨Nat.le_of_ble_eq_true rfl, Nat.le_of_ble_eq_true rfl⟩, ⟨Nat.le_of_ble_eq_true rfl, Nat.le_of_ble_eq_true rfl⟩⟩) ?_)))
    intro  h10 hp
    obtain ⟨g9, rfl⟩ : ∃ z, z = h10 := ⟨_, rfl⟩
    have w := hp
    obtain ⟨o11, e12, w⟩ := w
    obtain ⟨o13, e14, w⟩ := w
    refine r_aload_n C 1 dX7_redo_31 rfl (r_aload_n C 1 dX7_redo_32 rfl (rg_X7_X7_board C dX7_redo_33 e12 (r_gov (r_runV C dX7_redo_36 (m_X7_doAllActs w) mt_X7_doAllActs tw616 tw618 tw17 gcl_8.1 e14 rfl (stk := []) rfl (Nat.le_of_ble_eq_true rfl) ⟨rfl, rfl, ⟨Nat.le_of_ble_eq_true rfl, Nat.le_of_ble_eq_true rfl⟩, ⟨Nat.le_of_ble_eq_true rfl, Nat.le_of_ble_eq_true rfl⟩⟩) ?_)))
    intro  h16 hp
    obtain ⟨g15, rfl⟩ : ∃ z, z = h16 := ⟨_, rfl⟩
    have w := hp
    exact r_iload_n C 0 dX7_redo_39 rfl (r_iret C hQ dX7_redo_40 rfl (vp_nar_int _) ⟨Nat.le_of_ble_eq_true rfl, Nat.le_of_ble_eq_true rfl⟩ w)
  · have w := w.2 c6
    exact r_throw (text := "nothing to redo") C hQx hl (fun x hx => (hno x hx).elim) thx_65.1 thx_65.2.1 thx_65.2.2.1 thx_65.2.2.2.1 (by decide +kernel) thx_65.2.2.2.2.1 thx_65.2.2.2.2.2 dX7_redo_15 dX7_redo_18 dX7_redo_19 dX7_redo_21 dX7_redo_24 ⟨Nat.le_of_ble_eq_true rfl, Nat.le_of_ble_eq_true rfl, Nat.le_of_ble_eq_true rfl, Nat.le_of_ble_eq_true rfl⟩ ⟨Nat.le_of_ble_eq_true rfl, Nat.le_of_ble_eq_true rfl⟩ w
def rm_X7_acts : Room := { frames := 1, cells := 0, slots := 0, locals := 20 }
theorem mt_X7_acts : gMt yX7_acts cX7_acts 1 (some .int) 0 := ⟨tw200, tw59, by decide +kernel, by decide +kernel, by decide +kernel⟩
def wp_X7_acts (a : Nat) (g : GH)  (post : Int32 → Prop) : Prop :=
∃ o1, g a = some (8, o1) ∧
∃ o3, g (fR o1 1) = some (0, o3) ∧
post (fI o3 2)
set_option maxHeartbeats 4000000 in
set_option maxRecDepth 100000 in
theorem m_X7_acts {Y : gWx} {a : Nat}   {post : Int32 → Prop} {g : GH}     (w : wp_X7_acts a g post) : gMet Y yX7_acts cX7_acts 1 (some .int) rm_X7_acts [.ref a] g (gQi Y (fun r9 g9 => g9 = g ∧ post r9)) 0 0 := by
  refine gm_of rfl (Nat.le_of_ble_eq_true rfl) ?_
  intro X hY hn C hnm hQ
  subst hY
  have hQ : gRet X (gQi (xY X) (fun r9 g9 => g9 = g ∧ post r9)) 0 0 ∨ gRex X (gQi (xY X) (fun r9 g9 => g9 = g ∧ post r9)) (fun _ _ => False) 0 0 := Or.inl hQ
  have C : gC X cX7_acts RX7 (some .int) rm_X7_acts := C
  show gX X 0 0 0 [(0, .ref a)] [] g
  unfold wp_X7_acts at w
  obtain ⟨o1, e2, w⟩ := w
  obtain ⟨o3, e4, w⟩ := w
  refine r_aload_n C 0 dX7_acts_0 rfl (rg_X7_X7_toldActs C dX7_acts_1 e2 (r_goi (r_runV C dX7_acts_4 (m_lsize e4) mt_Jx4a65c_size_8abf5 tw201 tw202 tw203 (ci := 0) rfl e4 rfl (stk := []) rfl (Nat.le_of_ble_eq_true rfl) ⟨rfl, rfl, ⟨Nat.le_of_ble_eq_true rfl, Nat.le_of_ble_eq_true rfl⟩, ⟨Nat.le_of_ble_eq_true rfl, Nat.le_of_ble_eq_true rfl⟩⟩) ?_))
  intro r6 h5 hp
  obtain ⟨e9, e8⟩ := hp
  rw [e9, e8]
  exact r_iret C hQ dX7_acts_7 rfl (vp_nar_int _) ⟨Nat.le_of_ble_eq_true rfl, Nat.le_of_ble_eq_true rfl⟩ ⟨rfl, w⟩
def rm_X7_checkedAct : Room := { frames := 6, cells := 1, slots := 6, locals := 101 }
theorem mt_X7_checkedAct : gMt yX7_checkedAct cX7_checkedAct 2 (some (.object "CanvasRoom$Act")) 1 := ⟨tw646, tw59, by decide +kernel, by decide +kernel, by decide +kernel⟩
def wp_X7_checkedAct_15 (a : Nat) (p0 : Int32) (g : GH) (post : Nat → Prop) (px : String → Prop)   : Prop :=
px "java/lang/IndexOutOfBoundsException"
def wp_X7_checkedAct (a : Nat) (p0 : Int32) (g : GH)  (post : Nat → Prop) (px : String → Prop) : Prop :=
((p0 < 0 → wp_X7_checkedAct_15 a p0 g post px) ∧ (¬ p0 < 0 → ∃ o2, g a = some (8, o2) ∧
∃ o4, g (fR o2 1) = some (0, o4) ∧
((p0 < (fI o4 2) → ∃ o9, g a = some (8, o9) ∧
∃ o11, g (fR o9 1) = some (0, o11) ∧
vp_in p0 (fI o11 2).toNatClampNeg ∧
∃ o16, g (fR o11 p0.toNatClampNeg) = some (1, o16) ∧
post (fR o11 p0.toNatClampNeg)) ∧ (¬ p0 < (fI o4 2) → wp_X7_checkedAct_15 a p0 g post px))))
set_option maxHeartbeats 4000000 in
set_option maxRecDepth 100000 in
theorem t_X7_checkedAct_15 {X : gCx} {a : Nat}  {p0 : Int32} {post : Nat → Prop} {px : String → Prop} {g : GH}   (C : gC X cX7_checkedAct RX7 (some (.object "CanvasRoom$Act")) rm_X7_checkedAct) (hn : xn X = 2) (hQ : gRet X (gQr (xY X) (fun r9 g9 => g9 = g ∧ post r9)) 1 6 ∨ gRex X (gQr (xY X) (fun r9 g9 => g9 = g ∧ post r9)) (fun E9 g9 => g9 = g ∧ px E9) 1 6) (hQx : gRex X (gQr (xY X) (fun r9 g9 => g9 = g ∧ post r9)) (fun E9 g9 => g9 = g ∧ px E9) 1 6) (hl : (yl (xY X)).stackTraces = false) (hno : ∀ x ∈ (xc X).exceptionTable.toList, False)    : wp_X7_checkedAct_15 a p0 g post px → gX X 0 0 15 [] [] g := by
  intro  w
  unfold wp_X7_checkedAct_15 at w
  exact r_throwW (text := "no such act") C hQx hl (fun x hx => (hno x hx).elim) thx_325.1 thx_325.2.1 thx_325.2.2.1 thx_325.2.2.2.1 (by decide +kernel) thx_325.2.2.2.2.1 thx_325.2.2.2.2.2 dX7_checkedAct_15 dX7_checkedAct_18 dX7_checkedAct_19 dX7_checkedAct_22 dX7_checkedAct_25 ⟨Nat.le_of_ble_eq_true rfl, Nat.le_of_ble_eq_true rfl, Nat.le_of_ble_eq_true rfl, Nat.le_of_ble_eq_true rfl⟩ ⟨Nat.le_of_ble_eq_true rfl, Nat.le_of_ble_eq_true rfl⟩ ⟨rfl, w⟩
set_option maxHeartbeats 4000000 in
set_option maxRecDepth 100000 in
theorem m_X7_checkedAct {Y : gWx} {a : Nat}  {p0 : Int32} {post : Nat → Prop} {px : String → Prop} {g : GH}    (hl : (yl Y).stackTraces = false) (w : wp_X7_checkedAct a p0 g post px) : gMex Y yX7_checkedAct cX7_checkedAct 2 (some (.object "CanvasRoom$Act")) rm_X7_checkedAct [.ref a, .int p0] g (gQr Y (fun r9 g9 => g9 = g ∧ post r9)) (fun E9 g9 => g9 = g ∧ px E9) 1 6 := by
  refine gm_ofx rfl (Nat.le_of_ble_eq_true rfl) ?_
  intro X hY hn C hno hQx
  subst hY
  have hQ := Or.inr (a := gRet X (gQr (xY X) (fun r9 g9 => g9 = g ∧ post r9)) 1 6) hQx
  have C : gC X cX7_checkedAct RX7 (some (.object "CanvasRoom$Act")) rm_X7_checkedAct := C
  show gX X 0 0 0 [(0, .ref a), (1, .int p0)] [] g
  unfold wp_X7_checkedAct at w
  refine r_iload_n C 1 dX7_checkedAct_0 rfl (r_if_lt C 15 dX7_checkedAct_1 (by decide) (fun c1 => ?_) (fun c1 => ?_))
  · have w := w.1 c1
    exact r_sub [] rfl (t_X7_checkedAct_15 C hn hQ hQx hl hno w)
  · have w := w.2 c1
    obtain ⟨o2, e3, w⟩ := w
    obtain ⟨o4, e5, w⟩ := w
    refine r_iload_n C 1 dX7_checkedAct_4 rfl (r_aload_n C 0 dX7_checkedAct_5 rfl (rg_X7_X7_toldActs C dX7_checkedAct_6 e3 (r_goi (r_runV C dX7_checkedAct_9 (m_lsize e5) mt_Jx4a65c_size_8abf5 tw201 tw202 tw203 (ci := 0) rfl e5 rfl (stk := [.int p0]) rfl (Nat.le_of_ble_eq_true rfl) ⟨rfl, rfl, ⟨Nat.le_of_ble_eq_true rfl, Nat.le_of_ble_eq_true rfl⟩, ⟨Nat.le_of_ble_eq_true rfl, Nat.le_of_ble_eq_true rfl⟩⟩) ?_)))
    intro r7 h6 hp
    obtain ⟨e9, e8⟩ := hp
    rw [e9, e8]
    refine r_icmp_lt C 26 dX7_checkedAct_12 (by decide) (fun c8 => ?_) (fun c8 => ?_)
    · have w := w.1 c8
      obtain ⟨o9, e10, w⟩ := w
      obtain ⟨o11, e12, w⟩ := w
      obtain ⟨i14, w⟩ := w
      refine r_aload_n C 0 dX7_checkedAct_26 rfl (rg_X7_X7_toldActs C dX7_checkedAct_27 e10 (r_iload_n C 1 dX7_checkedAct_30 rfl (r_gor (r_runV C dX7_checkedAct_31 (m_lget e12 i14) mt_Jx4a65c_get_915e3 tw467 tw468 tw469 (ci := 0) rfl e12 rfl (stk := []) rfl (Nat.le_of_ble_eq_true rfl) ⟨rfl, rfl, ⟨Nat.le_of_ble_eq_true rfl, Nat.le_of_ble_eq_true rfl⟩, ⟨Nat.le_of_ble_eq_true rfl, Nat.le_of_ble_eq_true rfl⟩⟩) ?_)))
      intro r15 h13 hp
      obtain ⟨e9, e8⟩ := hp
      rw [e9, e8]
      obtain ⟨o16, e17, w⟩ := w
      exact r_cast C gcl_1 dX7_checkedAct_34 tw427 e17 (r_aret C hQ dX7_checkedAct_37 rfl (Or.inl ⟨_, rfl⟩) ⟨Nat.le_of_ble_eq_true rfl, Nat.le_of_ble_eq_true rfl⟩ ⟨rfl, w⟩)
    · have w := w.2 c8
      exact r_sub [] rfl (t_X7_checkedAct_15 C hn hQ hQx hl hno w)
def rm_X7_isLive : Room := { frames := 7, cells := 1, slots := 6, locals := 122 }
theorem mt_X7_isLive : gMt yX7_isLive cX7_isLive 2 (some .boolean) 1 := ⟨tw642, tw59, by decide +kernel, by decide +kernel, by decide +kernel⟩
def wp_X7_isLive (a : Nat) (p0 : Int32) (g : GH)  (post : Int32 → Prop) (px : String → Prop) : Prop :=
∃ o2, g a = some (8, o2) ∧
wp_X7_checkedAct a p0 g (fun r1 =>
∃ o5, g r1 = some (1, o5) ∧
narrow .boolean (.int (fI o5 5)) = .int (fI o5 5) ∧
post (fI o5 5)) px
set_option maxHeartbeats 4000000 in
set_option maxRecDepth 100000 in
theorem m_X7_isLive {Y : gWx} {a : Nat}  {p0 : Int32} {post : Int32 → Prop} {px : String → Prop} {g : GH}    (hl : (yl Y).stackTraces = false) (w : wp_X7_isLive a p0 g post px) : gMex Y yX7_isLive cX7_isLive 2 (some .boolean) rm_X7_isLive [.ref a, .int p0] g (gQi Y (fun r9 g9 => g9 = g ∧ post r9)) (fun E9 g9 => g9 = g ∧ px E9) 1 6 := by
  refine gm_ofx rfl (Nat.le_of_ble_eq_true rfl) ?_
  intro X hY hn C hno hQx
  subst hY
  have hQ := Or.inr (a := gRet X (gQi (xY X) (fun r9 g9 => g9 = g ∧ post r9)) 1 6) hQx
  have C : gC X cX7_isLive RX7 (some .boolean) rm_X7_isLive := C
  show gX X 0 0 0 [(0, .ref a), (1, .int p0)] [] g
  unfold wp_X7_isLive at w
  obtain ⟨o2, e3, w⟩ := w
  refine r_aload_n C 0 dX7_isLive_0 rfl (r_iload_n C 1 dX7_isLive_1 rfl (r_gxr (r_ruxV C dX7_isLive_2 (m_X7_checkedAct hl w) mt_X7_checkedAct tw643 tw645 tw19 gcl_8.1 e3 rfl (stk := []) rfl (Nat.le_of_ble_eq_true rfl) ⟨rfl, rfl, ⟨Nat.le_of_ble_eq_true rfl, Nat.le_of_ble_eq_true rfl⟩, ⟨Nat.le_of_ble_eq_true rfl, Nat.le_of_ble_eq_true rfl⟩⟩) (fun E h4 hp => by obtain ⟨rfl, hp⟩ := hp; exact r_out C hQx (fun x hx => (hno x hx).elim) ⟨Nat.le_of_ble_eq_true rfl, Nat.le_of_ble_eq_true rfl⟩ ⟨rfl, hp⟩) ?_))
  intro r1 h4 hp
  obtain ⟨e9, w⟩ := hp
  rw [e9]
  obtain ⟨o5, e6, w⟩ := w
  obtain ⟨i7, w⟩ := w
  exact rg_X7_X0_isLive C dX7_isLive_5 e6 (r_iret C hQ dX7_isLive_8 rfl i7 ⟨Nat.le_of_ble_eq_true rfl, Nat.le_of_ble_eq_true rfl⟩ ⟨rfl, w⟩)
def rm_X7_holder : Room := { frames := 7, cells := 1, slots := 6, locals := 123 }
theorem mt_X7_holder : gMt yX7_holder cX7_holder 2 (some .int) 1 := ⟨tw654, tw59, by decide +kernel, by decide +kernel, by decide +kernel⟩
def wp_X7_holder (a : Nat) (p0 : Int32) (g : GH)  (post : Int32 → Prop) (px : String → Prop) : Prop :=
∃ o2, g a = some (8, o2) ∧
wp_X7_checkedAct a p0 g (fun r1 =>
∃ o6, g a = some (8, o6) ∧
wp_X7_lowestHolder a p0 g (fun r5 =>
post r5)) px
set_option maxHeartbeats 4000000 in
set_option maxRecDepth 100000 in
theorem m_X7_holder {Y : gWx} {a : Nat}  {p0 : Int32} {post : Int32 → Prop} {px : String → Prop} {g : GH}    (hl : (yl Y).stackTraces = false) (w : wp_X7_holder a p0 g post px) : gMex Y yX7_holder cX7_holder 2 (some .int) rm_X7_holder [.ref a, .int p0] g (gQi Y (fun r9 g9 => g9 = g ∧ post r9)) (fun E9 g9 => g9 = g ∧ px E9) 1 6 := by
  refine gm_ofx rfl (Nat.le_of_ble_eq_true rfl) ?_
  intro X hY hn C hno hQx
  subst hY
  have hQ := Or.inr (a := gRet X (gQi (xY X) (fun r9 g9 => g9 = g ∧ post r9)) 1 6) hQx
  have C : gC X cX7_holder RX7 (some .int) rm_X7_holder := C
  show gX X 0 0 0 [(0, .ref a), (1, .int p0)] [] g
  unfold wp_X7_holder at w
  obtain ⟨o2, e3, w⟩ := w
  refine r_aload_n C 0 dX7_holder_0 rfl (r_iload_n C 1 dX7_holder_1 rfl (r_gxr (r_ruxV C dX7_holder_2 (m_X7_checkedAct hl w) mt_X7_checkedAct tw643 tw645 tw19 gcl_8.1 e3 rfl (stk := []) rfl (Nat.le_of_ble_eq_true rfl) ⟨rfl, rfl, ⟨Nat.le_of_ble_eq_true rfl, Nat.le_of_ble_eq_true rfl⟩, ⟨Nat.le_of_ble_eq_true rfl, Nat.le_of_ble_eq_true rfl⟩⟩) (fun E h4 hp => by obtain ⟨rfl, hp⟩ := hp; exact r_out C hQx (fun x hx => (hno x hx).elim) ⟨Nat.le_of_ble_eq_true rfl, Nat.le_of_ble_eq_true rfl⟩ ⟨rfl, hp⟩) ?_))
  intro r1 h4 hp
  obtain ⟨e9, w⟩ := hp
  rw [e9]
  obtain ⟨o6, e7, w⟩ := w
  refine r_pop C dX7_holder_5 rfl (r_aload_n C 0 dX7_holder_6 rfl (r_iload_n C 1 dX7_holder_7 rfl (r_goi (r_runV C dX7_holder_8 (m_X7_lowestHolder w) mt_X7_lowestHolder tw602 tw604 tw15 gcl_8.1 e7 rfl (stk := []) rfl (Nat.le_of_ble_eq_true rfl) ⟨rfl, rfl, ⟨Nat.le_of_ble_eq_true rfl, Nat.le_of_ble_eq_true rfl⟩, ⟨Nat.le_of_ble_eq_true rfl, Nat.le_of_ble_eq_true rfl⟩⟩) ?_)))
  intro r5 h8 hp
  obtain ⟨e9, w⟩ := hp
  rw [e9]
  exact r_iret C hQ dX7_holder_11 rfl (vp_nar_int _) ⟨Nat.le_of_ble_eq_true rfl, Nat.le_of_ble_eq_true rfl⟩ ⟨rfl, w⟩
def rm_X7_shapes : Room := { frames := 1, cells := 0, slots := 0, locals := 20 }
theorem mt_X7_shapes : gMt yX7_shapes cX7_shapes 1 (some .int) 0 := ⟨tw208, tw59, by decide +kernel, by decide +kernel, by decide +kernel⟩
def wp_X7_shapes (a : Nat) (g : GH)  (post : Int32 → Prop) : Prop :=
∃ o1, g a = some (8, o1) ∧
∃ o3, g (fR o1 0) = some (0, o3) ∧
post (fI o3 2)
set_option maxHeartbeats 4000000 in
set_option maxRecDepth 100000 in
theorem m_X7_shapes {Y : gWx} {a : Nat}   {post : Int32 → Prop} {g : GH}     (w : wp_X7_shapes a g post) : gMet Y yX7_shapes cX7_shapes 1 (some .int) rm_X7_shapes [.ref a] g (gQi Y (fun r9 g9 => g9 = g ∧ post r9)) 0 0 := by
  refine gm_of rfl (Nat.le_of_ble_eq_true rfl) ?_
  intro X hY hn C hnm hQ
  subst hY
  have hQ : gRet X (gQi (xY X) (fun r9 g9 => g9 = g ∧ post r9)) 0 0 ∨ gRex X (gQi (xY X) (fun r9 g9 => g9 = g ∧ post r9)) (fun _ _ => False) 0 0 := Or.inl hQ
  have C : gC X cX7_shapes RX7 (some .int) rm_X7_shapes := C
  show gX X 0 0 0 [(0, .ref a)] [] g
  unfold wp_X7_shapes at w
  obtain ⟨o1, e2, w⟩ := w
  obtain ⟨o3, e4, w⟩ := w
  refine r_aload_n C 0 dX7_shapes_0 rfl (rg_X7_X7_addedShapes C dX7_shapes_1 e2 (r_goi (r_runV C dX7_shapes_4 (m_lsize e4) mt_Jx4a65c_size_8abf5 tw201 tw202 tw203 (ci := 0) rfl e4 rfl (stk := []) rfl (Nat.le_of_ble_eq_true rfl) ⟨rfl, rfl, ⟨Nat.le_of_ble_eq_true rfl, Nat.le_of_ble_eq_true rfl⟩, ⟨Nat.le_of_ble_eq_true rfl, Nat.le_of_ble_eq_true rfl⟩⟩) ?_))
  intro r6 h5 hp
  obtain ⟨e9, e8⟩ := hp
  rw [e9, e8]
  exact r_iret C hQ dX7_shapes_7 rfl (vp_nar_int _) ⟨Nat.le_of_ble_eq_true rfl, Nat.le_of_ble_eq_true rfl⟩ ⟨rfl, w⟩
def rm_X7_there : Room := { frames := 0, cells := 0, slots := 0, locals := 0 }
theorem mt_X7_there : gMt yX7_there cX7_there 1 (some .long) 0 := ⟨tw212, tw59, by decide +kernel, by decide +kernel, by decide +kernel⟩
def wp_X7_there (a : Nat) (g : GH)  (post : Int64 → Prop) : Prop :=
∃ o1, g a = some (8, o1) ∧
∃ o3, g (fR o1 4) = some (2, o3) ∧
post (fL o3 7)
set_option maxHeartbeats 4000000 in
set_option maxRecDepth 100000 in
theorem m_X7_there {Y : gWx} {a : Nat}   {post : Int64 → Prop} {g : GH}     (w : wp_X7_there a g post) : gMet Y yX7_there cX7_there 1 (some .long) rm_X7_there [.ref a] g (gQl Y (fun r9 g9 => g9 = g ∧ post r9)) 0 0 := by
  refine gm_of rfl (Nat.le_of_ble_eq_true rfl) ?_
  intro X hY hn C hnm hQ
  subst hY
  have hQ : gRet X (gQl (xY X) (fun r9 g9 => g9 = g ∧ post r9)) 0 0 ∨ gRex X (gQl (xY X) (fun r9 g9 => g9 = g ∧ post r9)) (fun _ _ => False) 0 0 := Or.inl hQ
  have C : gC X cX7_there RX7 (some .long) rm_X7_there := C
  show gX X 0 0 0 [(0, .ref a)] [] g
  unfold wp_X7_there at w
  obtain ⟨o1, e2, w⟩ := w
  obtain ⟨o3, e4, w⟩ := w
  exact r_aload_n C 0 dX7_there_0 rfl (rg_X7_X7_board C dX7_there_1 e2 (rg_X7_X1_present C dX7_there_4 e4 (r_lret C hQ dX7_there_7 rfl ⟨Nat.le_of_ble_eq_true rfl, Nat.le_of_ble_eq_true rfl⟩ ⟨rfl, w⟩)))
def rm_X7_place : Room := { frames := 7, cells := 2, slots := 12, locals := 111 }
theorem mt_X7_place : gMt yX7_place cX7_place 2 (some .int) 1 := ⟨tw661, tw59, by decide +kernel, by decide +kernel, by decide +kernel⟩
def wp_X7_place (a : Nat) (p0 : Int32) (g : GH)  (post : Int32 → Prop) (px : String → Prop) : Prop :=
∃ o1, g a = some (8, o1) ∧
wp_X7_checkShape a p0 g (
∃ o4, g a = some (8, o4) ∧
∃ o7, g (fR o4 4) = some (2, o7) ∧
wp_X1_has p0 o7 (fun r6 =>
((¬ r6 = 0 → ∃ o11, g a = some (8, o11) ∧
∃ o13, g (fR o11 4) = some (2, o13) ∧
∃ o15, g (fR o11 4) = some (2, o15) ∧
vp_in p0 40 ∧
∃ o18, g a = some (8, o18) ∧
∃ o20, g (fR o18 4) = some (2, o20) ∧
∃ o22, g (fR o18 4) = some (2, o22) ∧
vp_in p0 40 ∧
post ((10000 * (fA o15 1 p0.toNatClampNeg)) + (fA o22 0 p0.toNatClampNeg))) ∧ (r6 = 0 → px "java/lang/IllegalStateException")))) px
set_option maxHeartbeats 4000000 in
set_option maxRecDepth 100000 in
theorem m_X7_place {Y : gWx} {a : Nat}  {p0 : Int32} {post : Int32 → Prop} {px : String → Prop} {g : GH}    (hl : (yl Y).stackTraces = false) (w : wp_X7_place a p0 g post px) : gMex Y yX7_place cX7_place 2 (some .int) rm_X7_place [.ref a, .int p0] g (gQi Y (fun r9 g9 => g9 = g ∧ post r9)) (fun E9 g9 => g9 = g ∧ px E9) 2 12 := by
  refine gm_ofx rfl (Nat.le_of_ble_eq_true rfl) ?_
  intro X hY hn C hno hQx
  subst hY
  have hQ := Or.inr (a := gRet X (gQi (xY X) (fun r9 g9 => g9 = g ∧ post r9)) 2 12) hQx
  have C : gC X cX7_place RX7 (some .int) rm_X7_place := C
  show gX X 0 0 0 [(0, .ref a), (1, .int p0)] [] g
  unfold wp_X7_place at w
  obtain ⟨o1, e2, w⟩ := w
  refine r_aload_n C 0 dX7_place_0 rfl (r_iload_n C 1 dX7_place_1 rfl (r_gxv (r_ruxV C dX7_place_2 (m_X7_checkShape hl w) mt_X7_checkShape tw528 tw530 tw11 gcl_8.1 e2 rfl (stk := []) rfl (Nat.le_of_ble_eq_true rfl) ⟨rfl, rfl, ⟨Nat.le_of_ble_eq_true rfl, Nat.le_of_ble_eq_true rfl⟩, ⟨Nat.le_of_ble_eq_true rfl, Nat.le_of_ble_eq_true rfl⟩⟩) (fun E h3 hp => by obtain ⟨rfl, hp⟩ := hp; exact r_out C hQx (fun x hx => (hno x hx).elim) ⟨Nat.le_of_ble_eq_true rfl, Nat.le_of_ble_eq_true rfl⟩ ⟨rfl, hp⟩) ?_))
  intro  h3 hp
  obtain ⟨e9, w⟩ := hp
  rw [e9]
  obtain ⟨o4, e5, w⟩ := w
  obtain ⟨o7, e8, w⟩ := w
  refine r_aload_n C 0 dX7_place_5 rfl (rg_X7_X7_board C dX7_place_6 e5 (r_iload_n C 1 dX7_place_9 rfl (r_goi (r_runV C dX7_place_10 (m_X1_has e8 w) mt_X1_has tw537 tw490 tw491 gcl_2.1 e8 rfl (stk := []) rfl (Nat.le_of_ble_eq_true rfl) ⟨rfl, rfl, ⟨Nat.le_of_ble_eq_true rfl, Nat.le_of_ble_eq_true rfl⟩, ⟨Nat.le_of_ble_eq_true rfl, Nat.le_of_ble_eq_true rfl⟩⟩) ?_)))
  intro r6 h9 hp
  obtain ⟨e9, w⟩ := hp
  rw [e9]
  refine r_if_ne C 26 dX7_place_13 (by decide) (fun c10 => ?_) (fun c10 => ?_)
  · have w := w.1 c10
    obtain ⟨o11, e12, w⟩ := w
    obtain ⟨o13, e14, w⟩ := w
    obtain ⟨o15, e16, w⟩ := w
    obtain ⟨i17, w⟩ := w
    obtain ⟨o18, e19, w⟩ := w
    obtain ⟨o20, e21, w⟩ := w
    obtain ⟨o22, e23, w⟩ := w
    obtain ⟨i24, w⟩ := w
    exact r_sipush C (v := 10000) dX7_place_26 (by decide) (r_aload_n C 0 dX7_place_29 rfl (rg_X7_X7_board C dX7_place_30 e12 (rg_X7_X1_rows C dX7_place_33 e14 (r_iload_n C 1 dX7_place_36 rfl (r_iald (ci := 2) (k := 1) C dX7_place_37 rfl rfl e16 i17 (r_imul C dX7_place_38 (r_aload_n C 0 dX7_place_39 rfl (rg_X7_X7_board C dX7_place_40 e19 (rg_X7_X1_columns C dX7_place_43 e21 (r_iload_n C 1 dX7_place_46 rfl (r_iald (ci := 2) (k := 0) C dX7_place_47 rfl rfl e23 i24 (r_iadd C dX7_place_48 (r_iret C hQ dX7_place_49 rfl (vp_nar_int _) ⟨Nat.le_of_ble_eq_true rfl, Nat.le_of_ble_eq_true rfl⟩ ⟨rfl, w⟩)))))))))))))
  · have w := w.2 c10
    exact r_throw (text := "the shape is not there") C hQx hl (fun x hx => (hno x hx).elim) thx_65.1 thx_65.2.1 thx_65.2.2.1 thx_65.2.2.2.1 (by decide +kernel) thx_65.2.2.2.2.1 thx_65.2.2.2.2.2 dX7_place_16 dX7_place_19 dX7_place_20 dX7_place_22 dX7_place_25 ⟨Nat.le_of_ble_eq_true rfl, Nat.le_of_ble_eq_true rfl, Nat.le_of_ble_eq_true rfl, Nat.le_of_ble_eq_true rfl⟩ ⟨Nat.le_of_ble_eq_true rfl, Nat.le_of_ble_eq_true rfl⟩ ⟨rfl, w⟩
def rm_X7_colour : Room := { frames := 7, cells := 1, slots := 6, locals := 111 }
theorem mt_X7_colour : gMt yX7_colour cX7_colour 2 (some .int) 1 := ⟨tw669, tw59, by decide +kernel, by decide +kernel, by decide +kernel⟩
def wp_X7_colour (a : Nat) (p0 : Int32) (g : GH)  (post : Int32 → Prop) (px : String → Prop) : Prop :=
∃ o1, g a = some (8, o1) ∧
wp_X7_checkShape a p0 g (
∃ o4, g a = some (8, o4) ∧
∃ o7, g (fR o4 4) = some (2, o7) ∧
wp_X1_has p0 o7 (fun r6 =>
((r6 = 0 → post 0) ∧ (¬ r6 = 0 → ∃ o11, g a = some (8, o11) ∧
∃ o13, g (fR o11 4) = some (2, o13) ∧
∃ o15, g (fR o11 4) = some (2, o15) ∧
vp_in p0 40 ∧
post (fA o15 4 p0.toNatClampNeg))))) px
set_option maxHeartbeats 4000000 in
set_option maxRecDepth 100000 in
theorem m_X7_colour {Y : gWx} {a : Nat}  {p0 : Int32} {post : Int32 → Prop} {px : String → Prop} {g : GH}    (hl : (yl Y).stackTraces = false) (w : wp_X7_colour a p0 g post px) : gMex Y yX7_colour cX7_colour 2 (some .int) rm_X7_colour [.ref a, .int p0] g (gQi Y (fun r9 g9 => g9 = g ∧ post r9)) (fun E9 g9 => g9 = g ∧ px E9) 1 6 := by
  refine gm_ofx rfl (Nat.le_of_ble_eq_true rfl) ?_
  intro X hY hn C hno hQx
  subst hY
  have hQ := Or.inr (a := gRet X (gQi (xY X) (fun r9 g9 => g9 = g ∧ post r9)) 1 6) hQx
  have C : gC X cX7_colour RX7 (some .int) rm_X7_colour := C
  show gX X 0 0 0 [(0, .ref a), (1, .int p0)] [] g
  unfold wp_X7_colour at w
  obtain ⟨o1, e2, w⟩ := w
  refine r_aload_n C 0 dX7_colour_0 rfl (r_iload_n C 1 dX7_colour_1 rfl (r_gxv (r_ruxV C dX7_colour_2 (m_X7_checkShape hl w) mt_X7_checkShape tw528 tw530 tw11 gcl_8.1 e2 rfl (stk := []) rfl (Nat.le_of_ble_eq_true rfl) ⟨rfl, rfl, ⟨Nat.le_of_ble_eq_true rfl, Nat.le_of_ble_eq_true rfl⟩, ⟨Nat.le_of_ble_eq_true rfl, Nat.le_of_ble_eq_true rfl⟩⟩) (fun E h3 hp => by obtain ⟨rfl, hp⟩ := hp; exact r_out C hQx (fun x hx => (hno x hx).elim) ⟨Nat.le_of_ble_eq_true rfl, Nat.le_of_ble_eq_true rfl⟩ ⟨rfl, hp⟩) ?_))
  intro  h3 hp
  obtain ⟨e9, w⟩ := hp
  rw [e9]
  obtain ⟨o4, e5, w⟩ := w
  obtain ⟨o7, e8, w⟩ := w
  refine r_aload_n C 0 dX7_colour_5 rfl (rg_X7_X7_board C dX7_colour_6 e5 (r_iload_n C 1 dX7_colour_9 rfl (r_goi (r_runV C dX7_colour_10 (m_X1_has e8 w) mt_X1_has tw537 tw490 tw491 gcl_2.1 e8 rfl (stk := []) rfl (Nat.le_of_ble_eq_true rfl) ⟨rfl, rfl, ⟨Nat.le_of_ble_eq_true rfl, Nat.le_of_ble_eq_true rfl⟩, ⟨Nat.le_of_ble_eq_true rfl, Nat.le_of_ble_eq_true rfl⟩⟩) ?_)))
  intro r6 h9 hp
  obtain ⟨e9, w⟩ := hp
  rw [e9]
  refine r_if_eq C 28 dX7_colour_13 (by decide) (fun c10 => ?_) (fun c10 => ?_)
  · have w := w.1 c10
    exact r_iconst C (v := 0) dX7_colour_28 (by decide) (r_iret C hQ dX7_colour_29 rfl (vp_nar_int _) ⟨Nat.le_of_ble_eq_true rfl, Nat.le_of_ble_eq_true rfl⟩ ⟨rfl, w⟩)
  · have w := w.2 c10
    obtain ⟨o11, e12, w⟩ := w
    obtain ⟨o13, e14, w⟩ := w
    obtain ⟨o15, e16, w⟩ := w
    obtain ⟨i17, w⟩ := w
    exact r_aload_n C 0 dX7_colour_16 rfl (rg_X7_X7_board C dX7_colour_17 e12 (rg_X7_X1_colours C dX7_colour_20 e14 (r_iload_n C 1 dX7_colour_23 rfl (r_iald (ci := 2) (k := 4) C dX7_colour_24 rfl rfl e16 i17 (r_goto C 29 dX7_colour_25 (by decide) (r_iret C hQ dX7_colour_29 rfl (vp_nar_int _) ⟨Nat.le_of_ble_eq_true rfl, Nat.le_of_ble_eq_true rfl⟩ ⟨rfl, w⟩))))))
def rm_X1_countBelow : Room := { frames := 2, cells := 0, slots := 0, locals := 41 }
theorem mt_X1_countBelow : gMt yX1_countBelow cX1_countBelow 4 (some .int) 1 := ⟨tw680, tw63, by decide +kernel, by decide +kernel, by decide +kernel⟩
def wp_X1_countBelow_36 (p0 : Int32) (o : FO) (post : Int32 → Prop) (k4 : Int32 → Int32 → Prop) (x2 : Int32) (x3 : Int32)  : Prop :=
k4 x2 (x3 + 1)
def wp_X1_countBelow_4 (p0 : Int32) (o : FO) (post : Int32 → Prop) : Nat → Int32 → Int32 → Prop
  | 0, _, _ => False
  | n + 1, x2, x3 =>
    ((40 ≤ x3 → post x2) ∧ (¬ 40 ≤ x3 → wp_X1_has x3 o (fun r2 =>
    ((r2 = 0 → wp_X1_countBelow_36 p0 o post (fun x2 x3 => wp_X1_countBelow_4 p0 o post n x2 x3) x2 x3) ∧ (¬ r2 = 0 → vp_in x3 40 ∧
    vp_in p0 40 ∧
    (((fA o 5 p0.toNatClampNeg) ≤ (fA o 5 x3.toNatClampNeg) → wp_X1_countBelow_36 p0 o post (fun x2 x3 => wp_X1_countBelow_4 p0 o post n x2 x3) x2 x3) ∧ (¬ (fA o 5 p0.toNatClampNeg) ≤ (fA o 5 x3.toNatClampNeg) → wp_X1_countBelow_36 p0 o post (fun x2 x3 => wp_X1_countBelow_4 p0 o post n x2 x3) (x2 + 1) x3)))))))
def wp_X1_countBelow (p0 : Int32) (o : FO)  (post : Int32 → Prop) : Prop :=
wp_X1_countBelow_4 p0 o post 1000 0 0
set_option maxHeartbeats 4000000 in
set_option maxRecDepth 100000 in
theorem t_X1_countBelow_36 {X : gCx} {a : Nat}  {p0 : Int32} {post : Int32 → Prop} {g : GH} {o : FO} {k4 : Int32 → Int32 → Prop} (C : gC X cX1_countBelow RX1 (some .int) rm_X1_countBelow) (hn : xn X = 4) (hQ : gRet X (gQi (xY X) (fun r9 g9 => g9 = g ∧ post r9)) 0 0 ∨ gRex X (gQi (xY X) (fun r9 g9 => g9 = g ∧ post r9)) (fun _ _ => False) 0 0) (hg : g a = some (2, o))   (hk4 : ∀ (x2 : Int32) (x3 : Int32), k4 x2 x3 → gX X 0 0 4 [(0, .ref a), (1, .int p0), (2, .int x2), (3, .int x3)] [] g) : ∀ (x2 : Int32) (x3 : Int32), wp_X1_countBelow_36 p0 o post k4 x2 x3 → gX X 0 0 36 [(0, .ref a), (1, .int p0), (2, .int x2), (3, .int x3)] [] g := by
  intro x2 x3 w
  unfold wp_X1_countBelow_36 at w
  exact r_iinc C (v := x3 + 1) 3 dX1_countBelow_36 rfl rfl (nlt hn (by decide)) rfl (r_goto C 4 dX1_countBelow_39 (by decide) (r_sub [1, 2, 3, 0] rfl (hk4 _ _ w)))
set_option maxHeartbeats 4000000 in
set_option maxRecDepth 100000 in
theorem t_X1_countBelow_4 {X : gCx} {a : Nat}  {p0 : Int32} {post : Int32 → Prop} {g : GH} {o : FO}  (C : gC X cX1_countBelow RX1 (some .int) rm_X1_countBelow) (hn : xn X = 4) (hQ : gRet X (gQi (xY X) (fun r9 g9 => g9 = g ∧ post r9)) 0 0 ∨ gRex X (gQi (xY X) (fun r9 g9 => g9 = g ∧ post r9)) (fun _ _ => False) 0 0) (hg : g a = some (2, o))    : ∀ (n : Nat) (x2 : Int32) (x3 : Int32), wp_X1_countBelow_4 p0 o post n x2 x3 → gX X 0 0 4 [(0, .ref a), (1, .int p0), (2, .int x2), (3, .int x3)] [] g := by
  intro n
  induction n with
  | zero => intro x2 x3 w; exact w.elim
  | succ n ih =>
    intro x2 x3 w
    unfold wp_X1_countBelow_4 at w
    refine r_iload_n C 3 dX1_countBelow_4 rfl (r_bipush C (v := 40) dX1_countBelow_5 (by decide) (r_icmp_ge C 42 dX1_countBelow_7 (by decide) (fun c1 => ?_) (fun c1 => ?_)))
    · have w := w.1 c1
      exact r_iload_n C 2 dX1_countBelow_42 rfl (r_iret C hQ dX1_countBelow_43 rfl (vp_nar_int _) ⟨Nat.le_of_ble_eq_true rfl, Nat.le_of_ble_eq_true rfl⟩ ⟨rfl, w⟩)
    · have w := w.2 c1
      refine r_aload_n C 0 dX1_countBelow_10 rfl (r_iload_n C 3 dX1_countBelow_11 rfl (r_goi (r_runV C dX1_countBelow_12 (m_X1_has hg w) mt_X1_has tw489 tw490 tw491 gcl_2.1 hg rfl (stk := []) rfl (Nat.le_of_ble_eq_true rfl) ⟨rfl, rfl, ⟨Nat.le_of_ble_eq_true rfl, Nat.le_of_ble_eq_true rfl⟩, ⟨Nat.le_of_ble_eq_true rfl, Nat.le_of_ble_eq_true rfl⟩⟩) ?_))
      intro r2 h3 hp
      obtain ⟨rfl, w⟩ := hp
      refine r_if_eq C 36 dX1_countBelow_15 (by decide) (fun c4 => ?_) (fun c4 => ?_)
      · have w := w.1 c4
        exact r_sub [0, 1, 2, 3] rfl (t_X1_countBelow_36 C hn hQ hg ih _ _ w)
      · have w := w.2 c4
        obtain ⟨i5, w⟩ := w
        obtain ⟨i6, w⟩ := w
        refine r_aload_n C 0 dX1_countBelow_18 rfl (rg_X1_X1_layers C dX1_countBelow_19 hg (r_iload_n C 3 dX1_countBelow_22 rfl (r_iald (ci := 2) (k := 5) C dX1_countBelow_23 rfl rfl hg i5 (r_aload_n C 0 dX1_countBelow_24 rfl (rg_X1_X1_layers C dX1_countBelow_25 hg (r_iload_n C 1 dX1_countBelow_28 rfl (r_iald (ci := 2) (k := 5) C dX1_countBelow_29 rfl rfl hg i6 (r_icmp_ge C 36 dX1_countBelow_30 (by decide) (fun c7 => ?_) (fun c7 => ?_)))))))))
        · have w := w.1 c7
          exact r_sub [0, 1, 2, 3] rfl (t_X1_countBelow_36 C hn hQ hg ih _ _ w)
        · have w := w.2 c7
          exact r_iinc C (v := x2 + 1) 2 dX1_countBelow_33 rfl rfl (nlt hn (by decide)) rfl (r_sub [1, 2, 0, 3] rfl (t_X1_countBelow_36 C hn hQ hg ih _ _ w))
set_option maxHeartbeats 4000000 in
set_option maxRecDepth 100000 in
theorem m_X1_countBelow {Y : gWx} {a : Nat}  {p0 : Int32} {post : Int32 → Prop} {g : GH} {o : FO} (hg : g a = some (2, o))    (w : wp_X1_countBelow p0 o post) : gMet Y yX1_countBelow cX1_countBelow 4 (some .int) rm_X1_countBelow [.ref a, .int p0] g (gQi Y (fun r9 g9 => g9 = g ∧ post r9)) 0 0 := by
  refine gm_of rfl (Nat.le_of_ble_eq_true rfl) ?_
  intro X hY hn C hnm hQ
  subst hY
  have hQ : gRet X (gQi (xY X) (fun r9 g9 => g9 = g ∧ post r9)) 0 0 ∨ gRex X (gQi (xY X) (fun r9 g9 => g9 = g ∧ post r9)) (fun _ _ => False) 0 0 := Or.inl hQ
  have C : gC X cX1_countBelow RX1 (some .int) rm_X1_countBelow := C
  show gX X 0 0 0 [(0, .ref a), (1, .int p0)] [] g
  unfold wp_X1_countBelow at w
  exact r_iconst C (v := 0) dX1_countBelow_0 (by decide) (r_istore_n C dX1_countBelow_1 (nlt hn (by decide)) rfl (r_iconst C (v := 0) dX1_countBelow_2 (by decide) (r_istore_n C dX1_countBelow_3 (nlt hn (by decide)) rfl (r_sub [2, 3, 1, 0] rfl (t_X1_countBelow_4 C hn hQ hg 1000 _ _ w)))))
def rm_X7_above : Room := { frames := 7, cells := 1, slots := 6, locals := 111 }
theorem mt_X7_above : gMt yX7_above cX7_above 2 (some .int) 1 := ⟨tw676, tw59, by decide +kernel, by decide +kernel, by decide +kernel⟩
def wp_X7_above (a : Nat) (p0 : Int32) (g : GH)  (post : Int32 → Prop) (px : String → Prop) : Prop :=
∃ o1, g a = some (8, o1) ∧
wp_X7_checkShape a p0 g (
∃ o4, g a = some (8, o4) ∧
∃ o7, g (fR o4 4) = some (2, o7) ∧
wp_X1_has p0 o7 (fun r6 =>
((r6 = 0 → post ((-1))) ∧ (¬ r6 = 0 → ∃ o11, g a = some (8, o11) ∧
∃ o14, g (fR o11 4) = some (2, o14) ∧
wp_X1_countBelow p0 o14 (fun r13 =>
post r13))))) px
set_option maxHeartbeats 4000000 in
set_option maxRecDepth 100000 in
theorem m_X7_above {Y : gWx} {a : Nat}  {p0 : Int32} {post : Int32 → Prop} {px : String → Prop} {g : GH}    (hl : (yl Y).stackTraces = false) (w : wp_X7_above a p0 g post px) : gMex Y yX7_above cX7_above 2 (some .int) rm_X7_above [.ref a, .int p0] g (gQi Y (fun r9 g9 => g9 = g ∧ post r9)) (fun E9 g9 => g9 = g ∧ px E9) 1 6 := by
  refine gm_ofx rfl (Nat.le_of_ble_eq_true rfl) ?_
  intro X hY hn C hno hQx
  subst hY
  have hQ := Or.inr (a := gRet X (gQi (xY X) (fun r9 g9 => g9 = g ∧ post r9)) 1 6) hQx
  have C : gC X cX7_above RX7 (some .int) rm_X7_above := C
  show gX X 0 0 0 [(0, .ref a), (1, .int p0)] [] g
  unfold wp_X7_above at w
  obtain ⟨o1, e2, w⟩ := w
  refine r_aload_n C 0 dX7_above_0 rfl (r_iload_n C 1 dX7_above_1 rfl (r_gxv (r_ruxV C dX7_above_2 (m_X7_checkShape hl w) mt_X7_checkShape tw528 tw530 tw11 gcl_8.1 e2 rfl (stk := []) rfl (Nat.le_of_ble_eq_true rfl) ⟨rfl, rfl, ⟨Nat.le_of_ble_eq_true rfl, Nat.le_of_ble_eq_true rfl⟩, ⟨Nat.le_of_ble_eq_true rfl, Nat.le_of_ble_eq_true rfl⟩⟩) (fun E h3 hp => by obtain ⟨rfl, hp⟩ := hp; exact r_out C hQx (fun x hx => (hno x hx).elim) ⟨Nat.le_of_ble_eq_true rfl, Nat.le_of_ble_eq_true rfl⟩ ⟨rfl, hp⟩) ?_))
  intro  h3 hp
  obtain ⟨e9, w⟩ := hp
  rw [e9]
  obtain ⟨o4, e5, w⟩ := w
  obtain ⟨o7, e8, w⟩ := w
  refine r_aload_n C 0 dX7_above_5 rfl (rg_X7_X7_board C dX7_above_6 e5 (r_iload_n C 1 dX7_above_9 rfl (r_goi (r_runV C dX7_above_10 (m_X1_has e8 w) mt_X1_has tw537 tw490 tw491 gcl_2.1 e8 rfl (stk := []) rfl (Nat.le_of_ble_eq_true rfl) ⟨rfl, rfl, ⟨Nat.le_of_ble_eq_true rfl, Nat.le_of_ble_eq_true rfl⟩, ⟨Nat.le_of_ble_eq_true rfl, Nat.le_of_ble_eq_true rfl⟩⟩) ?_)))
  intro r6 h9 hp
  obtain ⟨e9, w⟩ := hp
  rw [e9]
  refine r_if_eq C 27 dX7_above_13 (by decide) (fun c10 => ?_) (fun c10 => ?_)
  · have w := w.1 c10
    exact r_iconst C (v := (-1)) dX7_above_27 (by decide) (r_iret C hQ dX7_above_28 rfl (vp_nar_int _) ⟨Nat.le_of_ble_eq_true rfl, Nat.le_of_ble_eq_true rfl⟩ ⟨rfl, w⟩)
  · have w := w.2 c10
    obtain ⟨o11, e12, w⟩ := w
    obtain ⟨o14, e15, w⟩ := w
    refine r_aload_n C 0 dX7_above_16 rfl (rg_X7_X7_board C dX7_above_17 e12 (r_iload_n C 1 dX7_above_20 rfl (r_goi (r_runV C dX7_above_21 (m_X1_countBelow e15 w) mt_X1_countBelow tw677 tw678 tw679 gcl_2.1 e15 rfl (stk := []) rfl (Nat.le_of_ble_eq_true rfl) ⟨rfl, rfl, ⟨Nat.le_of_ble_eq_true rfl, Nat.le_of_ble_eq_true rfl⟩, ⟨Nat.le_of_ble_eq_true rfl, Nat.le_of_ble_eq_true rfl⟩⟩) ?_)))
    intro r13 h16 hp
    obtain ⟨e9, w⟩ := hp
    rw [e9]
    exact r_goto C 28 dX7_above_24 (by decide) (r_iret C hQ dX7_above_28 rfl (vp_nar_int _) ⟨Nat.le_of_ble_eq_true rfl, Nat.le_of_ble_eq_true rfl⟩ ⟨rfl, w⟩)
def rm_X7_group : Room := { frames := 7, cells := 1, slots := 6, locals := 111 }
theorem mt_X7_group : gMt yX7_group cX7_group 2 (some .long) 1 := ⟨tw687, tw59, by decide +kernel, by decide +kernel, by decide +kernel⟩
def wp_X7_group (a : Nat) (p0 : Int32) (g : GH)  (post : Int64 → Prop) (px : String → Prop) : Prop :=
∃ o1, g a = some (8, o1) ∧
wp_X7_checkShape a p0 g (
∃ o4, g a = some (8, o4) ∧
∃ o7, g (fR o4 4) = some (2, o7) ∧
wp_X1_has p0 o7 (fun r6 =>
((r6 = 0 → post 0) ∧ (¬ r6 = 0 → ∃ o11, g a = some (8, o11) ∧
∃ o13, g (fR o11 4) = some (2, o13) ∧
∃ o15, g (fR o11 4) = some (2, o15) ∧
vp_in p0 40 ∧
post (fB o15 6 p0.toNatClampNeg))))) px
set_option maxHeartbeats 4000000 in
set_option maxRecDepth 100000 in
theorem m_X7_group {Y : gWx} {a : Nat}  {p0 : Int32} {post : Int64 → Prop} {px : String → Prop} {g : GH}    (hl : (yl Y).stackTraces = false) (w : wp_X7_group a p0 g post px) : gMex Y yX7_group cX7_group 2 (some .long) rm_X7_group [.ref a, .int p0] g (gQl Y (fun r9 g9 => g9 = g ∧ post r9)) (fun E9 g9 => g9 = g ∧ px E9) 1 6 := by
  refine gm_ofx rfl (Nat.le_of_ble_eq_true rfl) ?_
  intro X hY hn C hno hQx
  subst hY
  have hQ := Or.inr (a := gRet X (gQl (xY X) (fun r9 g9 => g9 = g ∧ post r9)) 1 6) hQx
  have C : gC X cX7_group RX7 (some .long) rm_X7_group := C
  show gX X 0 0 0 [(0, .ref a), (1, .int p0)] [] g
  unfold wp_X7_group at w
  obtain ⟨o1, e2, w⟩ := w
  refine r_aload_n C 0 dX7_group_0 rfl (r_iload_n C 1 dX7_group_1 rfl (r_gxv (r_ruxV C dX7_group_2 (m_X7_checkShape hl w) mt_X7_checkShape tw528 tw530 tw11 gcl_8.1 e2 rfl (stk := []) rfl (Nat.le_of_ble_eq_true rfl) ⟨rfl, rfl, ⟨Nat.le_of_ble_eq_true rfl, Nat.le_of_ble_eq_true rfl⟩, ⟨Nat.le_of_ble_eq_true rfl, Nat.le_of_ble_eq_true rfl⟩⟩) (fun E h3 hp => by obtain ⟨rfl, hp⟩ := hp; exact r_out C hQx (fun x hx => (hno x hx).elim) ⟨Nat.le_of_ble_eq_true rfl, Nat.le_of_ble_eq_true rfl⟩ ⟨rfl, hp⟩) ?_))
  intro  h3 hp
  obtain ⟨e9, w⟩ := hp
  rw [e9]
  obtain ⟨o4, e5, w⟩ := w
  obtain ⟨o7, e8, w⟩ := w
  refine r_aload_n C 0 dX7_group_5 rfl (rg_X7_X7_board C dX7_group_6 e5 (r_iload_n C 1 dX7_group_9 rfl (r_goi (r_runV C dX7_group_10 (m_X1_has e8 w) mt_X1_has tw537 tw490 tw491 gcl_2.1 e8 rfl (stk := []) rfl (Nat.le_of_ble_eq_true rfl) ⟨rfl, rfl, ⟨Nat.le_of_ble_eq_true rfl, Nat.le_of_ble_eq_true rfl⟩, ⟨Nat.le_of_ble_eq_true rfl, Nat.le_of_ble_eq_true rfl⟩⟩) ?_)))
  intro r6 h9 hp
  obtain ⟨e9, w⟩ := hp
  rw [e9]
  refine r_if_eq C 28 dX7_group_13 (by decide) (fun c10 => ?_) (fun c10 => ?_)
  · have w := w.1 c10
    exact r_lconst C (v := 0) dX7_group_28 (by decide) (r_lret C hQ dX7_group_29 rfl ⟨Nat.le_of_ble_eq_true rfl, Nat.le_of_ble_eq_true rfl⟩ ⟨rfl, w⟩)
  · have w := w.2 c10
    obtain ⟨o11, e12, w⟩ := w
    obtain ⟨o13, e14, w⟩ := w
    obtain ⟨o15, e16, w⟩ := w
    obtain ⟨i17, w⟩ := w
    exact r_aload_n C 0 dX7_group_16 rfl (rg_X7_X7_board C dX7_group_17 e12 (rg_X7_X1_groups C dX7_group_20 e14 (r_iload_n C 1 dX7_group_23 rfl (r_lald (ci := 2) (k := 6) C dX7_group_24 rfl rfl e16 i17 (r_goto C 29 dX7_group_25 (by decide) (r_lret C hQ dX7_group_29 rfl ⟨Nat.le_of_ble_eq_true rfl, Nat.le_of_ble_eq_true rfl⟩ ⟨rfl, w⟩))))))
def rm_X7_checkCell : Room := { frames := 6, cells := 1, slots := 6, locals := 90 }
theorem mt_X7_checkCell : gMt yX7_checkCell cX7_checkCell 4 none 4 := ⟨tw697, tw59, by decide +kernel, by decide +kernel, by decide +kernel⟩
def wp_X7_checkCell_18 (p0 : Int32) (p1 : Int32) (p2 : Int32) (p3 : Int32) (post : Prop) (px : String → Prop)   : Prop :=
px "java/lang/IndexOutOfBoundsException"
def wp_X7_checkCell (p0 : Int32) (p1 : Int32) (p2 : Int32) (p3 : Int32)  (post : Prop) (px : String → Prop) : Prop :=
((p0 < 0 → wp_X7_checkCell_18 p0 p1 p2 p3 post px) ∧ (¬ p0 < 0 → ((p2 ≤ p0 → wp_X7_checkCell_18 p0 p1 p2 p3 post px) ∧ (¬ p2 ≤ p0 → ((p1 < 0 → wp_X7_checkCell_18 p0 p1 p2 p3 post px) ∧ (¬ p1 < 0 → ((p1 < p3 → post) ∧ (¬ p1 < p3 → wp_X7_checkCell_18 p0 p1 p2 p3 post px))))))))
set_option maxHeartbeats 4000000 in
set_option maxRecDepth 100000 in
theorem t_X7_checkCell_18 {X : gCx}  {p0 : Int32} {p1 : Int32} {p2 : Int32} {p3 : Int32} {post : Prop} {px : String → Prop} {g : GH}   (C : gC X cX7_checkCell RX7 none rm_X7_checkCell) (hn : xn X = 4) (hQ : gRet X (gQv (xY X) (fun  g9 => g9 = g ∧ post )) 1 6 ∨ gRex X (gQv (xY X) (fun  g9 => g9 = g ∧ post )) (fun E9 g9 => g9 = g ∧ px E9) 1 6) (hQx : gRex X (gQv (xY X) (fun  g9 => g9 = g ∧ post )) (fun E9 g9 => g9 = g ∧ px E9) 1 6) (hl : (yl (xY X)).stackTraces = false) (hno : ∀ x ∈ (xc X).exceptionTable.toList, False)    : wp_X7_checkCell_18 p0 p1 p2 p3 post px → gX X 0 0 18 [] [] g := by
  intro  w
  unfold wp_X7_checkCell_18 at w
  exact r_throwW (text := "no such cell") C hQx hl (fun x hx => (hno x hx).elim) thx_325.1 thx_325.2.1 thx_325.2.2.1 thx_325.2.2.2.1 (by decide +kernel) thx_325.2.2.2.2.1 thx_325.2.2.2.2.2 dX7_checkCell_18 dX7_checkCell_21 dX7_checkCell_22 dX7_checkCell_25 dX7_checkCell_28 ⟨Nat.le_of_ble_eq_true rfl, Nat.le_of_ble_eq_true rfl, Nat.le_of_ble_eq_true rfl, Nat.le_of_ble_eq_true rfl⟩ ⟨Nat.le_of_ble_eq_true rfl, Nat.le_of_ble_eq_true rfl⟩ ⟨rfl, w⟩
set_option maxHeartbeats 4000000 in
set_option maxRecDepth 100000 in
theorem m_X7_checkCell {Y : gWx}  {p0 : Int32} {p1 : Int32} {p2 : Int32} {p3 : Int32} {post : Prop} {px : String → Prop} {g : GH}    (hl : (yl Y).stackTraces = false) (w : wp_X7_checkCell p0 p1 p2 p3 post px) : gMex Y yX7_checkCell cX7_checkCell 4 none rm_X7_checkCell [.int p0, .int p1, .int p2, .int p3] g (gQv Y (fun  g9 => g9 = g ∧ post )) (fun E9 g9 => g9 = g ∧ px E9) 1 6 := by
  refine gm_ofx rfl (Nat.le_of_ble_eq_true rfl) ?_
  intro X hY hn C hno hQx
  subst hY
  have hQ := Or.inr (a := gRet X (gQv (xY X) (fun  g9 => g9 = g ∧ post )) 1 6) hQx
  have C : gC X cX7_checkCell RX7 none rm_X7_checkCell := C
  show gX X 0 0 0 [(0, .int p0), (1, .int p1), (2, .int p2), (3, .int p3)] [] g
  unfold wp_X7_checkCell at w
  refine r_iload_n C 0 dX7_checkCell_0 rfl (r_if_lt C 18 dX7_checkCell_1 (by decide) (fun c1 => ?_) (fun c1 => ?_))
  · have w := w.1 c1
    exact r_sub [] rfl (t_X7_checkCell_18 C hn hQ hQx hl hno w)
  · have w := w.2 c1
    refine r_iload_n C 0 dX7_checkCell_4 rfl (r_iload_n C 2 dX7_checkCell_5 rfl (r_icmp_ge C 18 dX7_checkCell_6 (by decide) (fun c2 => ?_) (fun c2 => ?_)))
    · have w := w.1 c2
      exact r_sub [] rfl (t_X7_checkCell_18 C hn hQ hQx hl hno w)
    · have w := w.2 c2
      refine r_iload_n C 1 dX7_checkCell_9 rfl (r_if_lt C 18 dX7_checkCell_10 (by decide) (fun c3 => ?_) (fun c3 => ?_))
      · have w := w.1 c3
        exact r_sub [] rfl (t_X7_checkCell_18 C hn hQ hQx hl hno w)
      · have w := w.2 c3
        refine r_iload_n C 1 dX7_checkCell_13 rfl (r_iload_n C 3 dX7_checkCell_14 rfl (r_icmp_lt C 29 dX7_checkCell_15 (by decide) (fun c4 => ?_) (fun c4 => ?_)))
        · have w := w.1 c4
          exact r_vret C hQ dX7_checkCell_29 rfl ⟨Nat.le_of_ble_eq_true rfl, Nat.le_of_ble_eq_true rfl⟩ ⟨rfl, w⟩
        · have w := w.2 c4
          exact r_sub [] rfl (t_X7_checkCell_18 C hn hQ hQx hl hno w)
def rm_X1_isShowing : Room := { frames := 2, cells := 0, slots := 0, locals := 41 }
theorem mt_X1_isShowing : gMt yX1_isShowing cX1_isShowing 4 (some .boolean) 2 := ⟨tw706, tw63, by decide +kernel, by decide +kernel, by decide +kernel⟩
def wp_X1_isShowing (p0 : Int32) (p1 : Int64) (o : FO)  (post : Int32 → Prop) : Prop :=
wp_X1_has p0 o (fun r1 =>
((r1 = 0 → post 0) ∧ (¬ r1 = 0 → wp_X7_bit p0 (fun r4 =>
((¬ (lg_cmp (p1 &&& r4) 0) = 0 → post 0) ∧ ((lg_cmp (p1 &&& r4) 0) = 0 → post 1))))))
set_option maxHeartbeats 4000000 in
set_option maxRecDepth 100000 in
theorem m_X1_isShowing {Y : gWx} {a : Nat}  {p0 : Int32} {p1 : Int64} {post : Int32 → Prop} {g : GH} {o : FO} (hg : g a = some (2, o))    (w : wp_X1_isShowing p0 p1 o post) : gMet Y yX1_isShowing cX1_isShowing 4 (some .boolean) rm_X1_isShowing [.ref a, .int p0, .long p1] g (gQi Y (fun r9 g9 => g9 = g ∧ post r9)) 0 0 := by
  refine gm_of rfl (Nat.le_of_ble_eq_true rfl) ?_
  intro X hY hn C hnm hQ
  subst hY
  have hQ : gRet X (gQi (xY X) (fun r9 g9 => g9 = g ∧ post r9)) 0 0 ∨ gRex X (gQi (xY X) (fun r9 g9 => g9 = g ∧ post r9)) (fun _ _ => False) 0 0 := Or.inl hQ
  have C : gC X cX1_isShowing RX1 (some .boolean) rm_X1_isShowing := C
  show gX X 0 0 0 [(0, .ref a), (1, .int p0), (2, .long p1)] [] g
  unfold wp_X1_isShowing at w
  refine r_aload_n C 0 dX1_isShowing_0 rfl (r_iload_n C 1 dX1_isShowing_1 rfl (r_goi (r_runV C dX1_isShowing_2 (m_X1_has hg w) mt_X1_has tw489 tw490 tw491 gcl_2.1 hg rfl (stk := []) rfl (Nat.le_of_ble_eq_true rfl) ⟨rfl, rfl, ⟨Nat.le_of_ble_eq_true rfl, Nat.le_of_ble_eq_true rfl⟩, ⟨Nat.le_of_ble_eq_true rfl, Nat.le_of_ble_eq_true rfl⟩⟩) ?_))
  intro r1 h2 hp
  obtain ⟨rfl, w⟩ := hp
  refine r_if_eq C 23 dX1_isShowing_5 (by decide) (fun c3 => ?_) (fun c3 => ?_)
  · have w := w.1 c3
    exact r_iconst C (v := 0) dX1_isShowing_23 (by decide) (r_iret C hQ dX1_isShowing_24 rfl rfl ⟨Nat.le_of_ble_eq_true rfl, Nat.le_of_ble_eq_true rfl⟩ ⟨rfl, w⟩)
  · have w := w.2 c3
    refine r_lload_n C 2 dX1_isShowing_8 rfl (r_iload_n C 1 dX1_isShowing_9 rfl (r_gol (r_runSN C dX1_isShowing_10 (m_X7_bit w) mt_X7_bit tw493 tw494 rfl (stk := [.long p1]) rfl (Nat.le_of_ble_eq_true rfl) ⟨rfl, rfl, ⟨Nat.le_of_ble_eq_true rfl, Nat.le_of_ble_eq_true rfl⟩, ⟨Nat.le_of_ble_eq_true rfl, Nat.le_of_ble_eq_true rfl⟩⟩) ?_))
    intro r4 h5 hp
    obtain ⟨rfl, w⟩ := hp
    refine r_land C dX1_isShowing_13 (r_lconst C (v := 0) dX1_isShowing_14 (by decide) (r_lcmp C dX1_isShowing_15 (r_if_ne C 23 dX1_isShowing_16 (by decide) (fun c6 => ?_) (fun c6 => ?_))))
    · have w := w.1 c6
      exact r_iconst C (v := 0) dX1_isShowing_23 (by decide) (r_iret C hQ dX1_isShowing_24 rfl rfl ⟨Nat.le_of_ble_eq_true rfl, Nat.le_of_ble_eq_true rfl⟩ ⟨rfl, w⟩)
    · have w := w.2 c6
      exact r_iconst C (v := 1) dX1_isShowing_19 (by decide) (r_goto C 24 dX1_isShowing_20 (by decide) (r_iret C hQ dX1_isShowing_24 rfl rfl ⟨Nat.le_of_ble_eq_true rfl, Nat.le_of_ble_eq_true rfl⟩ ⟨rfl, w⟩))
