def rm_X1_isCovering : Room := { frames := 0, cells := 0, slots := 0, locals := 0 }
theorem mt_X1_isCovering : gMt yX1_isCovering cX1_isCovering 4 (some .boolean) 3 := ⟨tw710, tw63, by decide +kernel, by decide +kernel, by decide +kernel⟩
def wp_X1_isCovering (p0 : Int32) (p1 : Int32) (p2 : Int32) (o : FO)  (post : Int32 → Prop) : Prop :=
vp_in p0 40 ∧
((p1 < (fA o 0 p0.toNatClampNeg) → post 0) ∧ (¬ p1 < (fA o 0 p0.toNatClampNeg) → vp_in p0 40 ∧
vp_in p0 40 ∧
((((fA o 0 p0.toNatClampNeg) + (fA o 2 p0.toNatClampNeg)) ≤ p1 → post 0) ∧ (¬ ((fA o 0 p0.toNatClampNeg) + (fA o 2 p0.toNatClampNeg)) ≤ p1 → vp_in p0 40 ∧
((p2 < (fA o 1 p0.toNatClampNeg) → post 0) ∧ (¬ p2 < (fA o 1 p0.toNatClampNeg) → vp_in p0 40 ∧
vp_in p0 40 ∧
((((fA o 1 p0.toNatClampNeg) + (fA o 3 p0.toNatClampNeg)) ≤ p2 → post 0) ∧ (¬ ((fA o 1 p0.toNatClampNeg) + (fA o 3 p0.toNatClampNeg)) ≤ p2 → post 1))))))))
set_option maxHeartbeats 4000000 in
set_option maxRecDepth 100000 in
theorem m_X1_isCovering {Y : gWx} {a : Nat}  {p0 : Int32} {p1 : Int32} {p2 : Int32} {post : Int32 → Prop} {g : GH} {o : FO} (hg : g a = some (2, o))    (w : wp_X1_isCovering p0 p1 p2 o post) : gMet Y yX1_isCovering cX1_isCovering 4 (some .boolean) rm_X1_isCovering [.ref a, .int p0, .int p1, .int p2] g (gQi Y (fun r9 g9 => g9 = g ∧ post r9)) 0 0 := by
  refine gm_of rfl (Nat.le_of_ble_eq_true rfl) ?_
  intro X hY hn C hnm hQ
  subst hY
  have hQ : gRet X (gQi (xY X) (fun r9 g9 => g9 = g ∧ post r9)) 0 0 ∨ gRex X (gQi (xY X) (fun r9 g9 => g9 = g ∧ post r9)) (fun _ _ => False) 0 0 := Or.inl hQ
  have C : gC X cX1_isCovering RX1 (some .boolean) rm_X1_isCovering := C
  show gX X 0 0 0 [(0, .ref a), (1, .int p0), (2, .int p1), (3, .int p2)] [] g
  unfold wp_X1_isCovering at w
  obtain ⟨i1, w⟩ := w
  refine r_iload_n C 2 dX1_isCovering_0 rfl (r_aload_n C 0 dX1_isCovering_1 rfl (rg_X1_X1_columns C dX1_isCovering_2 hg (r_iload_n C 1 dX1_isCovering_5 rfl (r_iald (ci := 2) (k := 0) C dX1_isCovering_6 rfl rfl hg i1 (r_icmp_lt C 58 dX1_isCovering_7 (by decide) (fun c2 => ?_) (fun c2 => ?_))))))
  · have w := w.1 c2
    exact r_iconst C (v := 0) dX1_isCovering_58 (by decide) (r_iret C hQ dX1_isCovering_59 rfl rfl ⟨Nat.le_of_ble_eq_true rfl, Nat.le_of_ble_eq_true rfl⟩ ⟨rfl, w⟩)
  · have w := w.2 c2
    obtain ⟨i3, w⟩ := w
    obtain ⟨i4, w⟩ := w
    refine r_iload_n C 2 dX1_isCovering_10 rfl (r_aload_n C 0 dX1_isCovering_11 rfl (rg_X1_X1_columns C dX1_isCovering_12 hg (r_iload_n C 1 dX1_isCovering_15 rfl (r_iald (ci := 2) (k := 0) C dX1_isCovering_16 rfl rfl hg i3 (r_aload_n C 0 dX1_isCovering_17 rfl (rg_X1_X1_widths C dX1_isCovering_18 hg (r_iload_n C 1 dX1_isCovering_21 rfl (r_iald (ci := 2) (k := 2) C dX1_isCovering_22 rfl rfl hg i4 (r_iadd C dX1_isCovering_23 (r_icmp_ge C 58 dX1_isCovering_24 (by decide) (fun c5 => ?_) (fun c5 => ?_)))))))))))
    · have w := w.1 c5
      exact r_iconst C (v := 0) dX1_isCovering_58 (by decide) (r_iret C hQ dX1_isCovering_59 rfl rfl ⟨Nat.le_of_ble_eq_true rfl, Nat.le_of_ble_eq_true rfl⟩ ⟨rfl, w⟩)
    · have w := w.2 c5
      obtain ⟨i6, w⟩ := w
      refine r_iload_n C 3 dX1_isCovering_27 rfl (r_aload_n C 0 dX1_isCovering_28 rfl (rg_X1_X1_rows C dX1_isCovering_29 hg (r_iload_n C 1 dX1_isCovering_32 rfl (r_iald (ci := 2) (k := 1) C dX1_isCovering_33 rfl rfl hg i6 (r_icmp_lt C 58 dX1_isCovering_34 (by decide) (fun c7 => ?_) (fun c7 => ?_))))))
      · have w := w.1 c7
        exact r_iconst C (v := 0) dX1_isCovering_58 (by decide) (r_iret C hQ dX1_isCovering_59 rfl rfl ⟨Nat.le_of_ble_eq_true rfl, Nat.le_of_ble_eq_true rfl⟩ ⟨rfl, w⟩)
      · have w := w.2 c7
        obtain ⟨i8, w⟩ := w
        obtain ⟨i9, w⟩ := w
        refine r_iload_n C 3 dX1_isCovering_37 rfl (r_aload_n C 0 dX1_isCovering_38 rfl (rg_X1_X1_rows C dX1_isCovering_39 hg (r_iload_n C 1 dX1_isCovering_42 rfl (r_iald (ci := 2) (k := 1) C dX1_isCovering_43 rfl rfl hg i8 (r_aload_n C 0 dX1_isCovering_44 rfl (rg_X1_X1_heights C dX1_isCovering_45 hg (r_iload_n C 1 dX1_isCovering_48 rfl (r_iald (ci := 2) (k := 3) C dX1_isCovering_49 rfl rfl hg i9 (r_iadd C dX1_isCovering_50 (r_icmp_ge C 58 dX1_isCovering_51 (by decide) (fun c10 => ?_) (fun c10 => ?_)))))))))))
        · have w := w.1 c10
          exact r_iconst C (v := 0) dX1_isCovering_58 (by decide) (r_iret C hQ dX1_isCovering_59 rfl rfl ⟨Nat.le_of_ble_eq_true rfl, Nat.le_of_ble_eq_true rfl⟩ ⟨rfl, w⟩)
        · have w := w.2 c10
          exact r_iconst C (v := 1) dX1_isCovering_54 (by decide) (r_goto C 59 dX1_isCovering_55 (by decide) (r_iret C hQ dX1_isCovering_59 rfl rfl ⟨Nat.le_of_ble_eq_true rfl, Nat.le_of_ble_eq_true rfl⟩ ⟨rfl, w⟩))
def rm_X1_uppermostAt : Room := { frames := 3, cells := 0, slots := 0, locals := 64 }
theorem mt_X1_uppermostAt : gMt yX1_uppermostAt cX1_uppermostAt 7 (some .int) 3 := ⟨tw702, tw63, by decide +kernel, by decide +kernel, by decide +kernel⟩
def wp_X1_uppermostAt_61 (p0 : Int32) (p1 : Int32) (p2 : Int64) (o : FO) (post : Int32 → Prop) (k6 : Int32 → Int32 → Prop) (x5 : Int32) (x6 : Int32)  : Prop :=
k6 x5 (x6 + 1)
def wp_X1_uppermostAt_57 (p0 : Int32) (p1 : Int32) (p2 : Int64) (o : FO) (post : Int32 → Prop) (k6 : Int32 → Int32 → Prop) (x6 : Int32)  : Prop :=
wp_X1_uppermostAt_61 p0 p1 p2 o post k6 x6 x6
def wp_X1_uppermostAt_6 (p0 : Int32) (p1 : Int32) (p2 : Int64) (o : FO) (post : Int32 → Prop) : Nat → Int32 → Int32 → Prop
  | 0, _, _ => False
  | n + 1, x5, x6 =>
    ((40 ≤ x6 → post x5) ∧ (¬ 40 ≤ x6 → wp_X1_isShowing x6 p2 o (fun r2 =>
    ((r2 = 0 → wp_X1_uppermostAt_61 p0 p1 p2 o post (fun x5 x6 => wp_X1_uppermostAt_6 p0 p1 p2 o post n x5 x6) x5 x6) ∧ (¬ r2 = 0 → wp_X1_isCovering x6 p0 p1 o (fun r5 =>
    ((r5 = 0 → wp_X1_uppermostAt_61 p0 p1 p2 o post (fun x5 x6 => wp_X1_uppermostAt_6 p0 p1 p2 o post n x5 x6) x5 x6) ∧ (¬ r5 = 0 → ((x5 = ((-1)) → wp_X1_uppermostAt_57 p0 p1 p2 o post (fun x5 x6 => wp_X1_uppermostAt_6 p0 p1 p2 o post n x5 x6) x6) ∧ (¬ x5 = ((-1)) → vp_in x6 40 ∧
    vp_in x5 40 ∧
    (((fA o 5 x6.toNatClampNeg) ≤ (fA o 5 x5.toNatClampNeg) → wp_X1_uppermostAt_61 p0 p1 p2 o post (fun x5 x6 => wp_X1_uppermostAt_6 p0 p1 p2 o post n x5 x6) x5 x6) ∧ (¬ (fA o 5 x6.toNatClampNeg) ≤ (fA o 5 x5.toNatClampNeg) → wp_X1_uppermostAt_57 p0 p1 p2 o post (fun x5 x6 => wp_X1_uppermostAt_6 p0 p1 p2 o post n x5 x6) x6))))))))))))
def wp_X1_uppermostAt (p0 : Int32) (p1 : Int32) (p2 : Int64) (o : FO)  (post : Int32 → Prop) : Prop :=
wp_X1_uppermostAt_6 p0 p1 p2 o post 1000 ((-1)) 0
set_option maxHeartbeats 4000000 in
set_option maxRecDepth 100000 in
theorem t_X1_uppermostAt_61 {X : gCx} {a : Nat}  {p0 : Int32} {p1 : Int32} {p2 : Int64} {post : Int32 → Prop} {g : GH} {o : FO} {k6 : Int32 → Int32 → Prop} (C : gC X cX1_uppermostAt RX1 (some .int) rm_X1_uppermostAt) (hn : xn X = 7) (hQ : gRet X (gQi (xY X) (fun r9 g9 => g9 = g ∧ post r9)) 0 0 ∨ gRex X (gQi (xY X) (fun r9 g9 => g9 = g ∧ post r9)) (fun _ _ => False) 0 0) (hg : g a = some (2, o))   (hk6 : ∀ (x5 : Int32) (x6 : Int32), k6 x5 x6 → gX X 0 0 6 [(0, .ref a), (1, .int p0), (2, .int p1), (3, .long p2), (5, .int x5), (6, .int x6)] [] g) : ∀ (x5 : Int32) (x6 : Int32), wp_X1_uppermostAt_61 p0 p1 p2 o post k6 x5 x6 → gX X 0 0 61 [(0, .ref a), (1, .int p0), (2, .int p1), (3, .long p2), (5, .int x5), (6, .int x6)] [] g := by
  intro x5 x6 w
  unfold wp_X1_uppermostAt_61 at w
  exact r_iinc C (v := x6 + 1) 5 dX1_uppermostAt_61 rfl rfl (nlt hn (by decide)) rfl (r_goto C 6 dX1_uppermostAt_64 (by decide) (r_sub [1, 2, 3, 4, 5, 0] rfl (hk6 _ _ w)))
set_option maxHeartbeats 4000000 in
set_option maxRecDepth 100000 in
theorem t_X1_uppermostAt_57 {X : gCx} {a : Nat}  {p0 : Int32} {p1 : Int32} {p2 : Int64} {post : Int32 → Prop} {g : GH} {o : FO} {k6 : Int32 → Int32 → Prop} (C : gC X cX1_uppermostAt RX1 (some .int) rm_X1_uppermostAt) (hn : xn X = 7) (hQ : gRet X (gQi (xY X) (fun r9 g9 => g9 = g ∧ post r9)) 0 0 ∨ gRex X (gQi (xY X) (fun r9 g9 => g9 = g ∧ post r9)) (fun _ _ => False) 0 0) (hg : g a = some (2, o))   (hk6 : ∀ (x5 : Int32) (x6 : Int32), k6 x5 x6 → gX X 0 0 6 [(0, .ref a), (1, .int p0), (2, .int p1), (3, .long p2), (5, .int x5), (6, .int x6)] [] g) : ∀ (x6 : Int32), wp_X1_uppermostAt_57 p0 p1 p2 o post k6 x6 → gX X 0 0 57 [(0, .ref a), (1, .int p0), (2, .int p1), (3, .long p2), (6, .int x6)] [] g := by
  intro x6 w
  unfold wp_X1_uppermostAt_57 at w
  exact r_iload C 4 dX1_uppermostAt_57 rfl (r_istore C dX1_uppermostAt_59 (nlt hn (by decide)) rfl (r_sub [1, 2, 3, 4, 0, 5] rfl (t_X1_uppermostAt_61 C hn hQ hg hk6 _ _ w)))
set_option maxHeartbeats 4000000 in
set_option maxRecDepth 100000 in
theorem t_X1_uppermostAt_6 {X : gCx} {a : Nat}  {p0 : Int32} {p1 : Int32} {p2 : Int64} {post : Int32 → Prop} {g : GH} {o : FO}  (C : gC X cX1_uppermostAt RX1 (some .int) rm_X1_uppermostAt) (hn : xn X = 7) (hQ : gRet X (gQi (xY X) (fun r9 g9 => g9 = g ∧ post r9)) 0 0 ∨ gRex X (gQi (xY X) (fun r9 g9 => g9 = g ∧ post r9)) (fun _ _ => False) 0 0) (hg : g a = some (2, o))    : ∀ (n : Nat) (x5 : Int32) (x6 : Int32), wp_X1_uppermostAt_6 p0 p1 p2 o post n x5 x6 → gX X 0 0 6 [(0, .ref a), (1, .int p0), (2, .int p1), (3, .long p2), (5, .int x5), (6, .int x6)] [] g := by
  intro n
  induction n with
  | zero => intro x5 x6 w; exact w.elim
  | succ n ih =>
    intro x5 x6 w
    unfold wp_X1_uppermostAt_6 at w
    refine r_iload C 5 dX1_uppermostAt_6 rfl (r_bipush C (v := 40) dX1_uppermostAt_8 (by decide) (r_icmp_ge C 67 dX1_uppermostAt_10 (by decide) (fun c1 => ?_) (fun c1 => ?_)))
    · have w := w.1 c1
      exact r_iload C 4 dX1_uppermostAt_67 rfl (r_iret C hQ dX1_uppermostAt_69 rfl (vp_nar_int _) ⟨Nat.le_of_ble_eq_true rfl, Nat.le_of_ble_eq_true rfl⟩ ⟨rfl, w⟩)
    · have w := w.2 c1
      refine r_aload_n C 0 dX1_uppermostAt_13 rfl (r_iload C 5 dX1_uppermostAt_14 rfl (r_lload_n C 3 dX1_uppermostAt_16 rfl (r_goi (r_runV C dX1_uppermostAt_17 (m_X1_isShowing hg w) mt_X1_isShowing tw703 tw705 tw20 gcl_2.1 hg rfl (stk := []) rfl (Nat.le_of_ble_eq_true rfl) ⟨rfl, rfl, ⟨Nat.le_of_ble_eq_true rfl, Nat.le_of_ble_eq_true rfl⟩, ⟨Nat.le_of_ble_eq_true rfl, Nat.le_of_ble_eq_true rfl⟩⟩) ?_)))
      intro r2 h3 hp
      obtain ⟨rfl, w⟩ := hp
      refine r_if_eq C 61 dX1_uppermostAt_20 (by decide) (fun c4 => ?_) (fun c4 => ?_)
      · have w := w.1 c4
        exact r_sub [0, 1, 2, 3, 4, 5] rfl (t_X1_uppermostAt_61 C hn hQ hg ih _ _ w)
      · have w := w.2 c4
        refine r_aload_n C 0 dX1_uppermostAt_23 rfl (r_iload C 5 dX1_uppermostAt_24 rfl (r_iload_n C 1 dX1_uppermostAt_26 rfl (r_iload_n C 2 dX1_uppermostAt_27 rfl (r_goi (r_runV C dX1_uppermostAt_28 (m_X1_isCovering hg w) mt_X1_isCovering tw707 tw709 tw21 gcl_2.1 hg rfl (stk := []) rfl (Nat.le_of_ble_eq_true rfl) ⟨rfl, rfl, ⟨Nat.le_of_ble_eq_true rfl, Nat.le_of_ble_eq_true rfl⟩, ⟨Nat.le_of_ble_eq_true rfl, Nat.le_of_ble_eq_true rfl⟩⟩) ?_))))
        intro r5 h6 hp
        obtain ⟨rfl, w⟩ := hp
        refine r_if_eq C 61 dX1_uppermostAt_31 (by decide) (fun c7 => ?_) (fun c7 => ?_)
        · have w := w.1 c7
          exact r_sub [0, 1, 2, 3, 4, 5] rfl (t_X1_uppermostAt_61 C hn hQ hg ih _ _ w)
        · have w := w.2 c7
          refine r_iload C 4 dX1_uppermostAt_34 rfl (r_iconst C (v := (-1)) dX1_uppermostAt_36 (by decide) (r_icmp_eq C 57 dX1_uppermostAt_37 (by decide) (fun c8 => ?_) (fun c8 => ?_)))
          · have w := w.1 c8
            exact r_sub [0, 1, 2, 3, 5] rfl (t_X1_uppermostAt_57 C hn hQ hg ih _ w)
          · have w := w.2 c8
            obtain ⟨i9, w⟩ := w
            obtain ⟨i10, w⟩ := w
            refine r_aload_n C 0 dX1_uppermostAt_40 rfl (rg_X1_X1_layers C dX1_uppermostAt_41 hg (r_iload C 5 dX1_uppermostAt_44 rfl (r_iald (ci := 2) (k := 5) C dX1_uppermostAt_46 rfl rfl hg i9 (r_aload_n C 0 dX1_uppermostAt_47 rfl (rg_X1_X1_layers C dX1_uppermostAt_48 hg (r_iload C 4 dX1_uppermostAt_51 rfl (r_iald (ci := 2) (k := 5) C dX1_uppermostAt_53 rfl rfl hg i10 (r_icmp_le C 61 dX1_uppermostAt_54 (by decide) (fun c11 => ?_) (fun c11 => ?_)))))))))
            · have w := w.1 c11
              exact r_sub [0, 1, 2, 3, 4, 5] rfl (t_X1_uppermostAt_61 C hn hQ hg ih _ _ w)
            · have w := w.2 c11
              exact r_sub [0, 1, 2, 3, 5] rfl (t_X1_uppermostAt_57 C hn hQ hg ih _ w)
set_option maxHeartbeats 4000000 in
set_option maxRecDepth 100000 in
theorem m_X1_uppermostAt {Y : gWx} {a : Nat}  {p0 : Int32} {p1 : Int32} {p2 : Int64} {post : Int32 → Prop} {g : GH} {o : FO} (hg : g a = some (2, o))    (w : wp_X1_uppermostAt p0 p1 p2 o post) : gMet Y yX1_uppermostAt cX1_uppermostAt 7 (some .int) rm_X1_uppermostAt [.ref a, .int p0, .int p1, .long p2] g (gQi Y (fun r9 g9 => g9 = g ∧ post r9)) 0 0 := by
  refine gm_of rfl (Nat.le_of_ble_eq_true rfl) ?_
  intro X hY hn C hnm hQ
  subst hY
  have hQ : gRet X (gQi (xY X) (fun r9 g9 => g9 = g ∧ post r9)) 0 0 ∨ gRex X (gQi (xY X) (fun r9 g9 => g9 = g ∧ post r9)) (fun _ _ => False) 0 0 := Or.inl hQ
  have C : gC X cX1_uppermostAt RX1 (some .int) rm_X1_uppermostAt := C
  show gX X 0 0 0 [(0, .ref a), (1, .int p0), (2, .int p1), (3, .long p2)] [] g
  unfold wp_X1_uppermostAt at w
  exact r_iconst C (v := (-1)) dX1_uppermostAt_0 (by decide) (r_istore C dX1_uppermostAt_1 (nlt hn (by decide)) rfl (r_iconst C (v := 0) dX1_uppermostAt_3 (by decide) (r_istore C dX1_uppermostAt_4 (nlt hn (by decide)) rfl (r_sub [2, 3, 4, 5, 1, 0] rfl (t_X1_uppermostAt_6 C hn hQ hg 1000 _ _ w)))))
def rm_X7_seen : Room := { frames := 7, cells := 1, slots := 6, locals := 113 }
theorem mt_X7_seen : gMt yX7_seen cX7_seen 3 (some .int) 2 := ⟨tw694, tw59, by decide +kernel, by decide +kernel, by decide +kernel⟩
def wp_X7_seen (a : Nat) (p0 : Int32) (p1 : Int32) (g : GH)  (post : Int32 → Prop) (px : String → Prop) : Prop :=
wp_X7_checkCell p0 p1 24 16 (
∃ o2, g a = some (8, o2) ∧
∃ o4, g a = some (8, o4) ∧
∃ o7, g (fR o2 4) = some (2, o7) ∧
wp_X1_uppermostAt p0 p1 (fL o4 6) o7 (fun r6 =>
post r6)) px
set_option maxHeartbeats 4000000 in
set_option maxRecDepth 100000 in
theorem m_X7_seen {Y : gWx} {a : Nat}  {p0 : Int32} {p1 : Int32} {post : Int32 → Prop} {px : String → Prop} {g : GH}    (hl : (yl Y).stackTraces = false) (w : wp_X7_seen a p0 p1 g post px) : gMex Y yX7_seen cX7_seen 3 (some .int) rm_X7_seen [.ref a, .int p0, .int p1] g (gQi Y (fun r9 g9 => g9 = g ∧ post r9)) (fun E9 g9 => g9 = g ∧ px E9) 1 6 := by
  refine gm_ofx rfl (Nat.le_of_ble_eq_true rfl) ?_
  intro X hY hn C hno hQx
  subst hY
  have hQ := Or.inr (a := gRet X (gQi (xY X) (fun r9 g9 => g9 = g ∧ post r9)) 1 6) hQx
  have C : gC X cX7_seen RX7 (some .int) rm_X7_seen := C
  show gX X 0 0 0 [(0, .ref a), (1, .int p0), (2, .int p1)] [] g
  unfold wp_X7_seen at w
  refine r_iload_n C 1 dX7_seen_0 rfl (r_iload_n C 2 dX7_seen_1 rfl (r_bipush C (v := 24) dX7_seen_2 (by decide) (r_bipush C (v := 16) dX7_seen_4 (by decide) (r_gxv (r_ruxS C dX7_seen_6 (m_X7_checkCell hl w) mt_X7_checkCell tw695 tw696 rfl (stk := []) rfl (Nat.le_of_ble_eq_true rfl) ⟨rfl, rfl, ⟨Nat.le_of_ble_eq_true rfl, Nat.le_of_ble_eq_true rfl⟩, ⟨Nat.le_of_ble_eq_true rfl, Nat.le_of_ble_eq_true rfl⟩⟩) (fun E h1 hp => by obtain ⟨rfl, hp⟩ := hp; exact r_out C hQx (fun x hx => (hno x hx).elim) ⟨Nat.le_of_ble_eq_true rfl, Nat.le_of_ble_eq_true rfl⟩ ⟨rfl, hp⟩) ?_))))
  intro  h1 hp
  obtain ⟨e9, w⟩ := hp
  rw [e9]
  obtain ⟨o2, e3, w⟩ := w
  obtain ⟨o4, e5, w⟩ := w
  obtain ⟨o7, e8, w⟩ := w
  refine r_aload_n C 0 dX7_seen_9 rfl (rg_X7_X7_board C dX7_seen_10 e3 (r_iload_n C 1 dX7_seen_13 rfl (r_iload_n C 2 dX7_seen_14 rfl (r_aload_n C 0 dX7_seen_15 rfl (rg_X7_X7_takenDown C dX7_seen_16 e5 (r_goi (r_runV C dX7_seen_19 (m_X1_uppermostAt e8 w) mt_X1_uppermostAt tw699 tw700 tw701 gcl_2.1 e8 rfl (stk := []) rfl (Nat.le_of_ble_eq_true rfl) ⟨rfl, rfl, ⟨Nat.le_of_ble_eq_true rfl, Nat.le_of_ble_eq_true rfl⟩, ⟨Nat.le_of_ble_eq_true rfl, Nat.le_of_ble_eq_true rfl⟩⟩) ?_))))))
  intro r6 h9 hp
  obtain ⟨e9, w⟩ := hp
  rw [e9]
  exact r_iret C hQ dX7_seen_22 rfl (vp_nar_int _) ⟨Nat.le_of_ble_eq_true rfl, Nat.le_of_ble_eq_true rfl⟩ ⟨rfl, w⟩
def rm_X7_seenAnew : Room := { frames := 7, cells := 1, slots := 6, locals := 146 }
theorem mt_X7_seenAnew : gMt yX7_seenAnew cX7_seenAnew 3 (some .int) 2 := ⟨tw717, tw59, by decide +kernel, by decide +kernel, by decide +kernel⟩
def wp_X7_seenAnew (a : Nat) (p0 : Int32) (p1 : Int32) (g : GH) (post : Int32 → GH → Prop) (px : String → GH → Prop) : Prop :=
wp_X7_checkCell p0 p1 24 16 (
∃ o2, g a = some (8, o2) ∧
∃ o4, g a = some (8, o4) ∧
wp_X7_doAllActs a (fR o2 5) g (fun g6 =>
∃ o8, g6 a = some (8, o8) ∧
∃ o10, g6 a = some (8, o10) ∧
∃ o13, g6 (fR o8 5) = some (2, o13) ∧
wp_X1_uppermostAt p0 p1 (fL o10 6) o13 (fun r12 =>
post r12 g6))) (fun E => px E g)
set_option maxHeartbeats 4000000 in
set_option maxRecDepth 100000 in
theorem m_X7_seenAnew {Y : gWx} {a : Nat}  {p0 : Int32} {p1 : Int32} {post : Int32 → GH → Prop} {px : String → GH → Prop} {g : GH}    (hl : (yl Y).stackTraces = false) (w : wp_X7_seenAnew a p0 p1 g post px) : gMex Y yX7_seenAnew cX7_seenAnew 3 (some .int) rm_X7_seenAnew [.ref a, .int p0, .int p1] g (gQi Y post) px 1 6 := by
  refine gm_ofx rfl (Nat.le_of_ble_eq_true rfl) ?_
  intro X hY hn C hno hQx
  subst hY
  have hQ := Or.inr (a := gRet X (gQi (xY X) post) 1 6) hQx
  have C : gC X cX7_seenAnew RX7 (some .int) rm_X7_seenAnew := C
  show gX X 0 0 0 [(0, .ref a), (1, .int p0), (2, .int p1)] [] g
  unfold wp_X7_seenAnew at w
  refine r_iload_n C 1 dX7_seenAnew_0 rfl (r_iload_n C 2 dX7_seenAnew_1 rfl (r_bipush C (v := 24) dX7_seenAnew_2 (by decide) (r_bipush C (v := 16) dX7_seenAnew_4 (by decide) (r_gxv (r_ruxS C dX7_seenAnew_6 (m_X7_checkCell hl w) mt_X7_checkCell tw695 tw696 rfl (stk := []) rfl (Nat.le_of_ble_eq_true rfl) ⟨rfl, rfl, ⟨Nat.le_of_ble_eq_true rfl, Nat.le_of_ble_eq_true rfl⟩, ⟨Nat.le_of_ble_eq_true rfl, Nat.le_of_ble_eq_true rfl⟩⟩) (fun E h1 hp => by obtain ⟨rfl, hp⟩ := hp; exact r_out C hQx (fun x hx => (hno x hx).elim) ⟨Nat.le_of_ble_eq_true rfl, Nat.le_of_ble_eq_true rfl⟩ hp) ?_))))
  intro  h1 hp
  obtain ⟨e9, w⟩ := hp
  rw [e9]
  obtain ⟨o2, e3, w⟩ := w
  obtain ⟨o4, e5, w⟩ := w
  refine r_aload_n C 0 dX7_seenAnew_9 rfl (r_aload_n C 0 dX7_seenAnew_10 rfl (rg_X7_X7_spareBoard C dX7_seenAnew_11 e3 (r_gov (r_runV C dX7_seenAnew_14 (m_X7_doAllActs w) mt_X7_doAllActs tw616 tw618 tw17 gcl_8.1 e5 rfl (stk := []) rfl (Nat.le_of_ble_eq_true rfl) ⟨rfl, rfl, ⟨Nat.le_of_ble_eq_true rfl, Nat.le_of_ble_eq_true rfl⟩, ⟨Nat.le_of_ble_eq_true rfl, Nat.le_of_ble_eq_true rfl⟩⟩) ?_)))
  intro  h7 hp
  obtain ⟨g6, rfl⟩ : ∃ z, z = h7 := ⟨_, rfl⟩
  have w := hp
  obtain ⟨o8, e9, w⟩ := w
  obtain ⟨o10, e11, w⟩ := w
  obtain ⟨o13, e14, w⟩ := w
  refine r_aload_n C 0 dX7_seenAnew_17 rfl (rg_X7_X7_spareBoard C dX7_seenAnew_18 e9 (r_iload_n C 1 dX7_seenAnew_21 rfl (r_iload_n C 2 dX7_seenAnew_22 rfl (r_aload_n C 0 dX7_seenAnew_23 rfl (rg_X7_X7_takenDown C dX7_seenAnew_24 e11 (r_goi (r_runV C dX7_seenAnew_27 (m_X1_uppermostAt e14 w) mt_X1_uppermostAt tw699 tw700 tw701 gcl_2.1 e14 rfl (stk := []) rfl (Nat.le_of_ble_eq_true rfl) ⟨rfl, rfl, ⟨Nat.le_of_ble_eq_true rfl, Nat.le_of_ble_eq_true rfl⟩, ⟨Nat.le_of_ble_eq_true rfl, Nat.le_of_ble_eq_true rfl⟩⟩) ?_))))))
  intro r12 h15 hp
  obtain ⟨e9, w⟩ := hp
  rw [e9]
  exact r_iret C hQ dX7_seenAnew_30 rfl (vp_nar_int _) ⟨Nat.le_of_ble_eq_true rfl, Nat.le_of_ble_eq_true rfl⟩ w
def rm_X7_isEdition : Room := { frames := 1, cells := 0, slots := 0, locals := 20 }
theorem mt_X7_isEdition : gMt yX7_isEdition cX7_isEdition 2 (some .boolean) 1 := ⟨tw895, tw59, by decide +kernel, by decide +kernel, by decide +kernel⟩
def wp_X7_isEdition (a : Nat) (p0 : Int32) (g : GH)  (post : Int32 → Prop) : Prop :=
((p0 < 0 → post 0) ∧ (¬ p0 < 0 → ∃ o2, g a = some (8, o2) ∧
∃ o4, g (fR o2 2) = some (0, o4) ∧
(((fI o4 2) ≤ p0 → post 0) ∧ (¬ (fI o4 2) ≤ p0 → post 1))))
set_option maxHeartbeats 4000000 in
set_option maxRecDepth 100000 in
theorem m_X7_isEdition {Y : gWx} {a : Nat}  {p0 : Int32} {post : Int32 → Prop} {g : GH}     (w : wp_X7_isEdition a p0 g post) : gMet Y yX7_isEdition cX7_isEdition 2 (some .boolean) rm_X7_isEdition [.ref a, .int p0] g (gQi Y (fun r9 g9 => g9 = g ∧ post r9)) 0 0 := by
  refine gm_of rfl (Nat.le_of_ble_eq_true rfl) ?_
  intro X hY hn C hnm hQ
  subst hY
  have hQ : gRet X (gQi (xY X) (fun r9 g9 => g9 = g ∧ post r9)) 0 0 ∨ gRex X (gQi (xY X) (fun r9 g9 => g9 = g ∧ post r9)) (fun _ _ => False) 0 0 := Or.inl hQ
  have C : gC X cX7_isEdition RX7 (some .boolean) rm_X7_isEdition := C
  show gX X 0 0 0 [(0, .ref a), (1, .int p0)] [] g
  unfold wp_X7_isEdition at w
  refine r_iload_n C 1 dX7_isEdition_0 rfl (r_if_lt C 19 dX7_isEdition_1 (by decide) (fun c1 => ?_) (fun c1 => ?_))
  · have w := w.1 c1
    exact r_iconst C (v := 0) dX7_isEdition_19 (by decide) (r_iret C hQ dX7_isEdition_20 rfl rfl ⟨Nat.le_of_ble_eq_true rfl, Nat.le_of_ble_eq_true rfl⟩ ⟨rfl, w⟩)
  · have w := w.2 c1
    obtain ⟨o2, e3, w⟩ := w
    obtain ⟨o4, e5, w⟩ := w
    refine r_iload_n C 1 dX7_isEdition_4 rfl (r_aload_n C 0 dX7_isEdition_5 rfl (rg_X7_X7_frozenEditions C dX7_isEdition_6 e3 (r_goi (r_runV C dX7_isEdition_9 (m_lsize e5) mt_Jx4a65c_size_8abf5 tw201 tw202 tw203 (ci := 0) rfl e5 rfl (stk := [.int p0]) rfl (Nat.le_of_ble_eq_true rfl) ⟨rfl, rfl, ⟨Nat.le_of_ble_eq_true rfl, Nat.le_of_ble_eq_true rfl⟩, ⟨Nat.le_of_ble_eq_true rfl, Nat.le_of_ble_eq_true rfl⟩⟩) ?_)))
    intro r7 h6 hp
    obtain ⟨e9, e8⟩ := hp
    rw [e9, e8]
    refine r_icmp_ge C 19 dX7_isEdition_12 (by decide) (fun c8 => ?_) (fun c8 => ?_)
    · have w := w.1 c8
      exact r_iconst C (v := 0) dX7_isEdition_19 (by decide) (r_iret C hQ dX7_isEdition_20 rfl rfl ⟨Nat.le_of_ble_eq_true rfl, Nat.le_of_ble_eq_true rfl⟩ ⟨rfl, w⟩)
    · have w := w.2 c8
      exact r_iconst C (v := 1) dX7_isEdition_15 (by decide) (r_goto C 20 dX7_isEdition_16 (by decide) (r_iret C hQ dX7_isEdition_20 rfl rfl ⟨Nat.le_of_ble_eq_true rfl, Nat.le_of_ble_eq_true rfl⟩ ⟨rfl, w⟩))
def rm_X7_checkedEdition : Room := { frames := 6, cells := 1, slots := 6, locals := 101 }
theorem mt_X7_checkedEdition : gMt yX7_checkedEdition cX7_checkedEdition 2 (some (.object "CanvasRoom$Edition")) 1 := ⟨tw891, tw59, by decide +kernel, by decide +kernel, by decide +kernel⟩
def wp_X7_checkedEdition (a : Nat) (p0 : Int32) (g : GH)  (post : Nat → Prop) (px : String → Prop) : Prop :=
∃ o2, g a = some (8, o2) ∧
wp_X7_isEdition a p0 g (fun r1 =>
((¬ r1 = 0 → ∃ o6, g a = some (8, o6) ∧
∃ o8, g (fR o6 2) = some (0, o8) ∧
vp_in p0 (fI o8 2).toNatClampNeg ∧
∃ o13, g (fR o8 p0.toNatClampNeg) = some (4, o13) ∧
post (fR o8 p0.toNatClampNeg)) ∧ (r1 = 0 → px "java/lang/IndexOutOfBoundsException")))
set_option maxHeartbeats 4000000 in
set_option maxRecDepth 100000 in
theorem m_X7_checkedEdition {Y : gWx} {a : Nat}  {p0 : Int32} {post : Nat → Prop} {px : String → Prop} {g : GH}    (hl : (yl Y).stackTraces = false) (w : wp_X7_checkedEdition a p0 g post px) : gMex Y yX7_checkedEdition cX7_checkedEdition 2 (some (.object "CanvasRoom$Edition")) rm_X7_checkedEdition [.ref a, .int p0] g (gQr Y (fun r9 g9 => g9 = g ∧ post r9)) (fun E9 g9 => g9 = g ∧ px E9) 1 6 := by
  refine gm_ofx rfl (Nat.le_of_ble_eq_true rfl) ?_
  intro X hY hn C hno hQx
  subst hY
  have hQ := Or.inr (a := gRet X (gQr (xY X) (fun r9 g9 => g9 = g ∧ post r9)) 1 6) hQx
  have C : gC X cX7_checkedEdition RX7 (some (.object "CanvasRoom$Edition")) rm_X7_checkedEdition := C
  show gX X 0 0 0 [(0, .ref a), (1, .int p0)] [] g
  unfold wp_X7_checkedEdition at w
  obtain ⟨o2, e3, w⟩ := w
  refine r_aload_n C 0 dX7_checkedEdition_0 rfl (r_iload_n C 1 dX7_checkedEdition_1 rfl (r_goi (r_runV C dX7_checkedEdition_2 (m_X7_isEdition w) mt_X7_isEdition tw892 tw894 tw26 gcl_8.1 e3 rfl (stk := []) rfl (Nat.le_of_ble_eq_true rfl) ⟨rfl, rfl, ⟨Nat.le_of_ble_eq_true rfl, Nat.le_of_ble_eq_true rfl⟩, ⟨Nat.le_of_ble_eq_true rfl, Nat.le_of_ble_eq_true rfl⟩⟩) ?_))
  intro r1 h4 hp
  obtain ⟨e9, w⟩ := hp
  rw [e9]
  refine r_if_ne C 19 dX7_checkedEdition_5 (by decide) (fun c5 => ?_) (fun c5 => ?_)
  · have w := w.1 c5
    obtain ⟨o6, e7, w⟩ := w
    obtain ⟨o8, e9, w⟩ := w
    obtain ⟨i11, w⟩ := w
    refine r_aload_n C 0 dX7_checkedEdition_19 rfl (rg_X7_X7_frozenEditions C dX7_checkedEdition_20 e7 (r_iload_n C 1 dX7_checkedEdition_23 rfl (r_gor (r_runV C dX7_checkedEdition_24 (m_lget e9 i11) mt_Jx4a65c_get_915e3 tw467 tw468 tw469 (ci := 0) rfl e9 rfl (stk := []) rfl (Nat.le_of_ble_eq_true rfl) ⟨rfl, rfl, ⟨Nat.le_of_ble_eq_true rfl, Nat.le_of_ble_eq_true rfl⟩, ⟨Nat.le_of_ble_eq_true rfl, Nat.le_of_ble_eq_true rfl⟩⟩) ?_)))
    intro r12 h10 hp
    obtain ⟨e9, e8⟩ := hp
    rw [e9, e8]
    obtain ⟨o13, e14, w⟩ := w
    exact r_cast C gcl_4 dX7_checkedEdition_27 tw606 e14 (r_aret C hQ dX7_checkedEdition_30 rfl (Or.inl ⟨_, rfl⟩) ⟨Nat.le_of_ble_eq_true rfl, Nat.le_of_ble_eq_true rfl⟩ ⟨rfl, w⟩)
  · have w := w.2 c5
    exact r_throwW (text := "no such edition") C hQx hl (fun x hx => (hno x hx).elim) thx_325.1 thx_325.2.1 thx_325.2.2.1 thx_325.2.2.2.1 (by decide +kernel) thx_325.2.2.2.2.1 thx_325.2.2.2.2.2 dX7_checkedEdition_8 dX7_checkedEdition_11 dX7_checkedEdition_12 dX7_checkedEdition_15 dX7_checkedEdition_18 ⟨Nat.le_of_ble_eq_true rfl, Nat.le_of_ble_eq_true rfl, Nat.le_of_ble_eq_true rfl, Nat.le_of_ble_eq_true rfl⟩ ⟨Nat.le_of_ble_eq_true rfl, Nat.le_of_ble_eq_true rfl⟩ ⟨rfl, w⟩
def rm_X3_countHeld : Room := { frames := 1, cells := 0, slots := 0, locals := 21 }
theorem mt_X3_countHeld : gMt yX3_countHeld cX3_countHeld 3 (some .int) 0 := ⟨tw901, tw82, by decide +kernel, by decide +kernel, by decide +kernel⟩
def wp_X3_countHeld_22 (o : FO) (post : Int32 → Prop) (k4 : Int32 → Int32 → Prop) (x1 : Int32) (x2 : Int32)  : Prop :=
k4 x1 (x2 + 1)
def wp_X3_countHeld_4 (o : FO) (post : Int32 → Prop) : Nat → Int32 → Int32 → Prop
  | 0, _, _ => False
  | n + 1, x1, x2 =>
    ((200 ≤ x2 → post x1) ∧ (¬ 200 ≤ x2 → wp_X3_isHolding x2 o (fun r2 =>
    ((r2 = 0 → wp_X3_countHeld_22 o post (fun x1 x2 => wp_X3_countHeld_4 o post n x1 x2) x1 x2) ∧ (¬ r2 = 0 → wp_X3_countHeld_22 o post (fun x1 x2 => wp_X3_countHeld_4 o post n x1 x2) (x1 + 1) x2)))))
def wp_X3_countHeld (o : FO)  (post : Int32 → Prop) : Prop :=
wp_X3_countHeld_4 o post 1000 0 0
set_option maxHeartbeats 4000000 in
set_option maxRecDepth 100000 in
theorem t_X3_countHeld_22 {X : gCx} {a : Nat}   {post : Int32 → Prop} {g : GH} {o : FO} {k4 : Int32 → Int32 → Prop} (C : gC X cX3_countHeld RX3 (some .int) rm_X3_countHeld) (hn : xn X = 3) (hQ : gRet X (gQi (xY X) (fun r9 g9 => g9 = g ∧ post r9)) 0 0 ∨ gRex X (gQi (xY X) (fun r9 g9 => g9 = g ∧ post r9)) (fun _ _ => False) 0 0) (hg : g a = some (4, o))   (hk4 : ∀ (x1 : Int32) (x2 : Int32), k4 x1 x2 → gX X 0 0 4 [(0, .ref a), (1, .int x1), (2, .int x2)] [] g) : ∀ (x1 : Int32) (x2 : Int32), wp_X3_countHeld_22 o post k4 x1 x2 → gX X 0 0 22 [(0, .ref a), (1, .int x1), (2, .int x2)] [] g := by
  intro x1 x2 w
  unfold wp_X3_countHeld_22 at w
  exact r_iinc C (v := x2 + 1) 2 dX3_countHeld_22 rfl rfl (nlt hn (by decide)) rfl (r_goto C 4 dX3_countHeld_25 (by decide) (r_sub [1, 2, 0] rfl (hk4 _ _ w)))
set_option maxHeartbeats 4000000 in
set_option maxRecDepth 100000 in
theorem t_X3_countHeld_4 {X : gCx} {a : Nat}   {post : Int32 → Prop} {g : GH} {o : FO}  (C : gC X cX3_countHeld RX3 (some .int) rm_X3_countHeld) (hn : xn X = 3) (hQ : gRet X (gQi (xY X) (fun r9 g9 => g9 = g ∧ post r9)) 0 0 ∨ gRex X (gQi (xY X) (fun r9 g9 => g9 = g ∧ post r9)) (fun _ _ => False) 0 0) (hg : g a = some (4, o))    : ∀ (n : Nat) (x1 : Int32) (x2 : Int32), wp_X3_countHeld_4 o post n x1 x2 → gX X 0 0 4 [(0, .ref a), (1, .int x1), (2, .int x2)] [] g := by
  intro n
  induction n with
  | zero => intro x1 x2 w; exact w.elim
  | succ n ih =>
    intro x1 x2 w
    unfold wp_X3_countHeld_4 at w
    refine r_iload_n C 2 dX3_countHeld_4 rfl (r_sipush C (v := 200) dX3_countHeld_5 (by decide) (r_icmp_ge C 28 dX3_countHeld_8 (by decide) (fun c1 => ?_) (fun c1 => ?_)))
    · have w := w.1 c1
      exact r_iload_n C 1 dX3_countHeld_28 rfl (r_iret C hQ dX3_countHeld_29 rfl (vp_nar_int _) ⟨Nat.le_of_ble_eq_true rfl, Nat.le_of_ble_eq_true rfl⟩ ⟨rfl, w⟩)
    · have w := w.2 c1
      refine r_aload_n C 0 dX3_countHeld_11 rfl (r_iload_n C 2 dX3_countHeld_12 rfl (r_goi (r_runV C dX3_countHeld_13 (m_X3_isHolding hg w) mt_X3_isHolding tw902 tw608 tw609 gcl_4.1 hg rfl (stk := []) rfl (Nat.le_of_ble_eq_true rfl) ⟨rfl, rfl, ⟨Nat.le_of_ble_eq_true rfl, Nat.le_of_ble_eq_true rfl⟩, ⟨Nat.le_of_ble_eq_true rfl, Nat.le_of_ble_eq_true rfl⟩⟩) ?_))
      intro r2 h3 hp
      obtain ⟨rfl, w⟩ := hp
      refine r_if_eq C 22 dX3_countHeld_16 (by decide) (fun c4 => ?_) (fun c4 => ?_)
      · have w := w.1 c4
        exact r_sub [0, 1, 2] rfl (t_X3_countHeld_22 C hn hQ hg ih _ _ w)
      · have w := w.2 c4
        exact r_iinc C (v := x1 + 1) 1 dX3_countHeld_19 rfl rfl (nlt hn (by decide)) rfl (r_sub [1, 0, 2] rfl (t_X3_countHeld_22 C hn hQ hg ih _ _ w))
set_option maxHeartbeats 4000000 in
set_option maxRecDepth 100000 in
theorem m_X3_countHeld {Y : gWx} {a : Nat}   {post : Int32 → Prop} {g : GH} {o : FO} (hg : g a = some (4, o))    (w : wp_X3_countHeld o post) : gMet Y yX3_countHeld cX3_countHeld 3 (some .int) rm_X3_countHeld [.ref a] g (gQi Y (fun r9 g9 => g9 = g ∧ post r9)) 0 0 := by
  refine gm_of rfl (Nat.le_of_ble_eq_true rfl) ?_
  intro X hY hn C hnm hQ
  subst hY
  have hQ : gRet X (gQi (xY X) (fun r9 g9 => g9 = g ∧ post r9)) 0 0 ∨ gRex X (gQi (xY X) (fun r9 g9 => g9 = g ∧ post r9)) (fun _ _ => False) 0 0 := Or.inl hQ
  have C : gC X cX3_countHeld RX3 (some .int) rm_X3_countHeld := C
  show gX X 0 0 0 [(0, .ref a)] [] g
  unfold wp_X3_countHeld at w
  exact r_iconst C (v := 0) dX3_countHeld_0 (by decide) (r_istore_n C dX3_countHeld_1 (nlt hn (by decide)) rfl (r_iconst C (v := 0) dX3_countHeld_2 (by decide) (r_istore_n C dX3_countHeld_3 (nlt hn (by decide)) rfl (r_sub [2, 1, 0] rfl (t_X3_countHeld_4 C hn hQ hg 1000 _ _ w)))))
def rm_X7_withdraw : Room := { frames := 7, cells := 2, slots := 12, locals := 122 }
theorem mt_X7_withdraw : gMt yX7_withdraw cX7_withdraw 4 (some .int) 1 := ⟨tw887, tw59, by decide +kernel, by decide +kernel, by decide +kernel⟩
def wp_X7_withdraw_20 (a : Nat) (p0 : Int32) (post : Int32 → GH → Prop) (px : String → GH → Prop)  (g : GH) : Prop :=
px "java/lang/IllegalStateException" g
def wp_X7_withdraw (a : Nat) (p0 : Int32) (g : GH) (post : Int32 → GH → Prop) (px : String → GH → Prop) : Prop :=
∃ o2, g a = some (8, o2) ∧
wp_X7_checkedEdition a p0 g (fun r1 =>
∃ o5, g r1 = some (4, o5) ∧
((¬ (fI o5 7) = 0 → wp_X7_withdraw_20 a p0 post px g) ∧ ((fI o5 7) = 0 → ∃ o8, g r1 = some (4, o8) ∧
(((fI o8 9) ≤ 0 → ∃ o12, g r1 = some (4, o12) ∧
wp_X3_countHeld o12 (fun r11 =>
∃ o15, g r1 = some (4, o15) ∧
∀ g17, g17 = hu g r1 (4, sI o15 7 1) →
post r11 g17)) ∧ (¬ (fI o8 9) ≤ 0 → wp_X7_withdraw_20 a p0 post px g))))) (fun E => px E g)
set_option maxHeartbeats 4000000 in
set_option maxRecDepth 100000 in
theorem t_X7_withdraw_20 {X : gCx} {a : Nat}  {p0 : Int32} {post : Int32 → GH → Prop} {px : String → GH → Prop}    (C : gC X cX7_withdraw RX7 (some .int) rm_X7_withdraw) (hn : xn X = 4) (hQ : gRet X (gQi (xY X) post) 2 12 ∨ gRex X (gQi (xY X) post) px 2 12) (hQx : gRex X (gQi (xY X) post) px 2 12) (hl : (yl (xY X)).stackTraces = false) (hno : ∀ x ∈ (xc X).exceptionTable.toList, False)    : ∀ (g : GH), wp_X7_withdraw_20 a p0 post px g → gX X 1 6 20 [] [] g := by
  intro g w
  unfold wp_X7_withdraw_20 at w
  exact r_throw (text := "withdrawn already, or a copy was sold") C hQx hl (fun x hx => (hno x hx).elim) thx_65.1 thx_65.2.1 thx_65.2.2.1 thx_65.2.2.2.1 (by decide +kernel) thx_65.2.2.2.2.1 thx_65.2.2.2.2.2 dX7_withdraw_20 dX7_withdraw_23 dX7_withdraw_24 dX7_withdraw_26 dX7_withdraw_29 ⟨Nat.le_of_ble_eq_true rfl, Nat.le_of_ble_eq_true rfl, Nat.le_of_ble_eq_true rfl, Nat.le_of_ble_eq_true rfl⟩ ⟨Nat.le_of_ble_eq_true rfl, Nat.le_of_ble_eq_true rfl⟩ w
set_option maxHeartbeats 4000000 in
set_option maxRecDepth 100000 in
theorem m_X7_withdraw {Y : gWx} {a : Nat}  {p0 : Int32} {post : Int32 → GH → Prop} {px : String → GH → Prop} {g : GH}    (hl : (yl Y).stackTraces = false) (w : wp_X7_withdraw a p0 g post px) : gMex Y yX7_withdraw cX7_withdraw 4 (some .int) rm_X7_withdraw [.ref a, .int p0] g (gQi Y post) px 2 12 := by
  refine gm_ofx rfl (Nat.le_of_ble_eq_true rfl) ?_
  intro X hY hn C hno hQx
  subst hY
  have hQ := Or.inr (a := gRet X (gQi (xY X) post) 2 12) hQx
  have C : gC X cX7_withdraw RX7 (some .int) rm_X7_withdraw := C
  show gX X 0 0 0 [(0, .ref a), (1, .int p0)] [] g
  unfold wp_X7_withdraw at w
  obtain ⟨o2, e3, w⟩ := w
  refine r_aload_n C 0 dX7_withdraw_0 rfl (r_iload_n C 1 dX7_withdraw_1 rfl (r_gxr (r_ruxV C dX7_withdraw_2 (m_X7_checkedEdition hl w) mt_X7_checkedEdition tw888 tw890 tw25 gcl_8.1 e3 rfl (stk := []) rfl (Nat.le_of_ble_eq_true rfl) ⟨rfl, rfl, ⟨Nat.le_of_ble_eq_true rfl, Nat.le_of_ble_eq_true rfl⟩, ⟨Nat.le_of_ble_eq_true rfl, Nat.le_of_ble_eq_true rfl⟩⟩) (fun E h4 hp => by obtain ⟨rfl, hp⟩ := hp; exact r_out C hQx (fun x hx => (hno x hx).elim) ⟨Nat.le_of_ble_eq_true rfl, Nat.le_of_ble_eq_true rfl⟩ hp) ?_))
  intro r1 h4 hp
  obtain ⟨e9, w⟩ := hp
  rw [e9]
  obtain ⟨o5, e6, w⟩ := w
  refine r_astore_n C dX7_withdraw_5 (nlt hn (by decide)) rfl (r_aload_n C 0 dX7_withdraw_6 rfl (rg_X7_X3_isWithdrawn C dX7_withdraw_7 e6 (r_if_ne C 20 dX7_withdraw_10 (by decide) (fun c7 => ?_) (fun c7 => ?_))))
  · have w := w.1 c7
    exact r_widen (Nat.le_of_ble_eq_true rfl) (Nat.le_of_ble_eq_true rfl) <| r_sub [] rfl (t_X7_withdraw_20 C hn hQ hQx hl hno _ w)
  · have w := w.2 c7
    obtain ⟨o8, e9, w⟩ := w
    refine r_aload_n C 0 dX7_withdraw_13 rfl (rg_X7_X3_soldCopies C dX7_withdraw_14 e9 (r_if_le C 30 dX7_withdraw_17 (by decide) (fun c10 => ?_) (fun c10 => ?_)))
    · have w := w.1 c10
      obtain ⟨o12, e13, w⟩ := w
      refine r_aload_n C 0 dX7_withdraw_30 rfl (r_goi (r_runV C dX7_withdraw_31 (m_X3_countHeld e13 w) mt_X3_countHeld tw898 tw899 tw900 gcl_4.1 e13 rfl (stk := []) rfl (Nat.le_of_ble_eq_true rfl) ⟨rfl, rfl, ⟨Nat.le_of_ble_eq_true rfl, Nat.le_of_ble_eq_true rfl⟩, ⟨Nat.le_of_ble_eq_true rfl, Nat.le_of_ble_eq_true rfl⟩⟩) ?_)
      intro r11 h14 hp
      obtain ⟨e9, w⟩ := hp
      rw [e9]
      obtain ⟨o15, e16, w⟩ := w
      obtain ⟨g17, e18⟩ : ∃ z, z = hu g r1 (4, sI o15 7 1) := ⟨_, rfl⟩
      have w := w g17 e18
      exact r_istore_n C dX7_withdraw_34 (nlt hn (by decide)) rfl (r_aload_n C 1 dX7_withdraw_35 rfl (r_iconst C (v := 1) dX7_withdraw_36 (by decide) (rp_X7_X3_isWithdrawn C dX7_withdraw_37 rfl e16 rfl e18 (r_iload_n C 0 dX7_withdraw_40 rfl (r_iret C hQ dX7_withdraw_41 rfl (vp_nar_int _) ⟨Nat.le_of_ble_eq_true rfl, Nat.le_of_ble_eq_true rfl⟩ w)))))
    · have w := w.2 c10
      exact r_widen (Nat.le_of_ble_eq_true rfl) (Nat.le_of_ble_eq_true rfl) <| r_sub [] rfl (t_X7_withdraw_20 C hn hQ hQx hl hno _ w)
def rm_X7_viewed : Room := { frames := 7, cells := 2, slots := 12, locals := 122 }
theorem mt_X7_viewed : gMt yX7_viewed cX7_viewed 7 (some .int) 3 := ⟨tw909, tw59, by decide +kernel, by decide +kernel, by decide +kernel⟩
def wp_X7_viewed (a : Nat) (p0 : Int32) (p1 : Int32) (p2 : Int32) (g : GH)  (post : Int32 → Prop) (px : String → Prop) : Prop :=
∃ o2, g a = some (8, o2) ∧
wp_X7_checkedEdition a p0 g (fun r1 =>
∃ o5, g r1 = some (4, o5) ∧
∃ o7, g (fR o5 1) = some (7, o7) ∧
∃ o9, g (fR o5 1) = some (7, o9) ∧
wp_X7_checkCell p1 p2 (fI o7 2) (fI o9 3) (
∃ o12, g r1 = some (4, o12) ∧
∃ o14, g (fR o5 1) = some (7, o14) ∧
∃ o16, g (fR o5 1) = some (7, o16) ∧
∃ o18, g a = some (8, o18) ∧
∃ o21, g (fR o12 3) = some (2, o21) ∧
wp_X1_uppermostAt ((fI o14 0) + p1) ((fI o16 1) + p2) (fL o18 6) o21 (fun r20 =>
((¬ r20 = ((-1)) → ∃ o25, g r1 = some (4, o25) ∧
∃ o27, g (fR o25 3) = some (2, o27) ∧
∃ o29, g (fR o25 3) = some (2, o29) ∧
vp_in r20 40 ∧
post (fA o29 4 r20.toNatClampNeg)) ∧ (r20 = ((-1)) → post 0)))) px) px
set_option maxHeartbeats 4000000 in
set_option maxRecDepth 100000 in
theorem m_X7_viewed {Y : gWx} {a : Nat}  {p0 : Int32} {p1 : Int32} {p2 : Int32} {post : Int32 → Prop} {px : String → Prop} {g : GH}    (hl : (yl Y).stackTraces = false) (w : wp_X7_viewed a p0 p1 p2 g post px) : gMex Y yX7_viewed cX7_viewed 7 (some .int) rm_X7_viewed [.ref a, .int p0, .int p1, .int p2] g (gQi Y (fun r9 g9 => g9 = g ∧ post r9)) (fun E9 g9 => g9 = g ∧ px E9) 2 12 := by
  refine gm_ofx rfl (Nat.le_of_ble_eq_true rfl) ?_
  intro X hY hn C hno hQx
  subst hY
  have hQ := Or.inr (a := gRet X (gQi (xY X) (fun r9 g9 => g9 = g ∧ post r9)) 2 12) hQx
  have C : gC X cX7_viewed RX7 (some .int) rm_X7_viewed := C
  show gX X 0 0 0 [(0, .ref a), (1, .int p0), (2, .int p1), (3, .int p2)] [] g
  unfold wp_X7_viewed at w
  obtain ⟨o2, e3, w⟩ := w
  refine r_aload_n C 0 dX7_viewed_0 rfl (r_iload_n C 1 dX7_viewed_1 rfl (r_gxr (r_ruxV C dX7_viewed_2 (m_X7_checkedEdition hl w) mt_X7_checkedEdition tw888 tw890 tw25 gcl_8.1 e3 rfl (stk := []) rfl (Nat.le_of_ble_eq_true rfl) ⟨rfl, rfl, ⟨Nat.le_of_ble_eq_true rfl, Nat.le_of_ble_eq_true rfl⟩, ⟨Nat.le_of_ble_eq_true rfl, Nat.le_of_ble_eq_true rfl⟩⟩) (fun E h4 hp => by obtain ⟨rfl, hp⟩ := hp; exact r_out C hQx (fun x hx => (hno x hx).elim) ⟨Nat.le_of_ble_eq_true rfl, Nat.le_of_ble_eq_true rfl⟩ ⟨rfl, hp⟩) ?_))
  intro r1 h4 hp
  obtain ⟨e9, w⟩ := hp
  rw [e9]
  obtain ⟨o5, e6, w⟩ := w
  obtain ⟨o7, e8, w⟩ := w
  obtain ⟨o9, e10, w⟩ := w
  refine r_astore C dX7_viewed_5 (nlt hn (by decide)) rfl (r_aload C 0 dX7_viewed_7 rfl (rg_X7_X3_window C dX7_viewed_9 e6 (r_astore C dX7_viewed_12 (nlt hn (by decide)) rfl (r_iload_n C 4 dX7_viewed_14 rfl (r_iload_n C 5 dX7_viewed_15 rfl (r_aload C 0 dX7_viewed_16 rfl (rg_X7_X6_width C dX7_viewed_18 e8 (r_aload C 0 dX7_viewed_21 rfl (rg_X7_X6_height C dX7_viewed_23 e10 (r_gxv (r_ruxS C dX7_viewed_26 (m_X7_checkCell hl w) mt_X7_checkCell tw695 tw696 rfl (stk := []) rfl (Nat.le_of_ble_eq_true rfl) ⟨rfl, rfl, ⟨Nat.le_of_ble_eq_true rfl, Nat.le_of_ble_eq_true rfl⟩, ⟨Nat.le_of_ble_eq_true rfl, Nat.le_of_ble_eq_true rfl⟩⟩) (fun E h11 hp => by obtain ⟨rfl, hp⟩ := hp; exact r_out C hQx (fun x hx => (hno x hx).elim) ⟨Nat.le_of_ble_eq_true rfl, Nat.le_of_ble_eq_true rfl⟩ ⟨rfl, hp⟩) ?_))))))))))
  intro  h11 hp
  obtain ⟨e9, w⟩ := hp
  rw [e9]
  obtain ⟨o12, e13, w⟩ := w
  obtain ⟨o14, e15, w⟩ := w
  obtain ⟨o16, e17, w⟩ := w
  obtain ⟨o18, e19, w⟩ := w
  obtain ⟨o21, e22, w⟩ := w
  refine r_aload C 1 dX7_viewed_29 rfl (rg_X7_X3_kept C dX7_viewed_31 e13 (r_aload C 0 dX7_viewed_34 rfl (rg_X7_X6_column C dX7_viewed_36 e15 (r_iload_n C 4 dX7_viewed_39 rfl (r_iadd C dX7_viewed_40 (r_aload C 0 dX7_viewed_41 rfl (rg_X7_X6_row C dX7_viewed_43 e17 (r_iload_n C 5 dX7_viewed_46 rfl (r_iadd C dX7_viewed_47 (r_aload_n C 2 dX7_viewed_48 rfl (rg_X7_X7_takenDown C dX7_viewed_49 e19 (r_goi (r_runV C dX7_viewed_52 (m_X1_uppermostAt e22 w) mt_X1_uppermostAt tw699 tw700 tw701 gcl_2.1 e22 rfl (stk := []) rfl (Nat.le_of_ble_eq_true rfl) ⟨rfl, rfl, ⟨Nat.le_of_ble_eq_true rfl, Nat.le_of_ble_eq_true rfl⟩, ⟨Nat.le_of_ble_eq_true rfl, Nat.le_of_ble_eq_true rfl⟩⟩) ?_))))))))))))
  intro r20 h23 hp
  obtain ⟨e9, w⟩ := hp
  rw [e9]
  refine r_istore C dX7_viewed_55 (nlt hn (by decide)) rfl (r_iload C 0 dX7_viewed_57 rfl (r_iconst C (v := (-1)) dX7_viewed_59 (by decide) (r_icmp_ne C 67 dX7_viewed_60 (by decide) (fun c24 => ?_) (fun c24 => ?_))))
  · have w := w.1 c24
    obtain ⟨o25, e26, w⟩ := w
    obtain ⟨o27, e28, w⟩ := w
    obtain ⟨o29, e30, w⟩ := w
    obtain ⟨i31, w⟩ := w
    exact r_aload C 2 dX7_viewed_67 rfl (rg_X7_X3_kept C dX7_viewed_69 e26 (rg_X7_X1_colours C dX7_viewed_72 e28 (r_iload C 0 dX7_viewed_75 rfl (r_iald (ci := 2) (k := 4) C dX7_viewed_77 rfl rfl e30 i31 (r_iret C hQ dX7_viewed_78 rfl (vp_nar_int _) ⟨Nat.le_of_ble_eq_true rfl, Nat.le_of_ble_eq_true rfl⟩ ⟨rfl, w⟩)))))
  · have w := w.2 c24
    exact r_iconst C (v := 0) dX7_viewed_63 (by decide) (r_goto C 78 dX7_viewed_64 (by decide) (r_iret C hQ dX7_viewed_78 rfl (vp_nar_int _) ⟨Nat.le_of_ble_eq_true rfl, Nat.le_of_ble_eq_true rfl⟩ ⟨rfl, w⟩))
def rm_X7_area : Room := { frames := 7, cells := 2, slots := 12, locals := 122 }
theorem mt_X7_area : gMt yX7_area cX7_area 4 (some .int) 2 := ⟨tw916, tw59, by decide +kernel, by decide +kernel, by decide +kernel⟩
def wp_X7_area (a : Nat) (p0 : Int32) (p1 : Int32) (g : GH)  (post : Int32 → Prop) (px : String → Prop) : Prop :=
∃ o2, g a = some (8, o2) ∧
wp_X7_checkedEdition a p0 g (fun r1 =>
wp_X7_checkHand p1 (
∃ o6, g r1 = some (4, o6) ∧
∃ o8, g r1 = some (4, o8) ∧
vp_in p1 6 ∧
post (fA o8 4 p1.toNatClampNeg)) px) px
set_option maxHeartbeats 4000000 in
set_option maxRecDepth 100000 in
theorem m_X7_area {Y : gWx} {a : Nat}  {p0 : Int32} {p1 : Int32} {post : Int32 → Prop} {px : String → Prop} {g : GH}    (hl : (yl Y).stackTraces = false) (w : wp_X7_area a p0 p1 g post px) : gMex Y yX7_area cX7_area 4 (some .int) rm_X7_area [.ref a, .int p0, .int p1] g (gQi Y (fun r9 g9 => g9 = g ∧ post r9)) (fun E9 g9 => g9 = g ∧ px E9) 2 12 := by
  refine gm_ofx rfl (Nat.le_of_ble_eq_true rfl) ?_
  intro X hY hn C hno hQx
  subst hY
  have hQ := Or.inr (a := gRet X (gQi (xY X) (fun r9 g9 => g9 = g ∧ post r9)) 2 12) hQx
  have C : gC X cX7_area RX7 (some .int) rm_X7_area := C
  show gX X 0 0 0 [(0, .ref a), (1, .int p0), (2, .int p1)] [] g
  unfold wp_X7_area at w
  obtain ⟨o2, e3, w⟩ := w
  refine r_aload_n C 0 dX7_area_0 rfl (r_iload_n C 1 dX7_area_1 rfl (r_gxr (r_ruxV C dX7_area_2 (m_X7_checkedEdition hl w) mt_X7_checkedEdition tw888 tw890 tw25 gcl_8.1 e3 rfl (stk := []) rfl (Nat.le_of_ble_eq_true rfl) ⟨rfl, rfl, ⟨Nat.le_of_ble_eq_true rfl, Nat.le_of_ble_eq_true rfl⟩, ⟨Nat.le_of_ble_eq_true rfl, Nat.le_of_ble_eq_true rfl⟩⟩) (fun E h4 hp => by obtain ⟨rfl, hp⟩ := hp; exact r_out C hQx (fun x hx => (hno x hx).elim) ⟨Nat.le_of_ble_eq_true rfl, Nat.le_of_ble_eq_true rfl⟩ ⟨rfl, hp⟩) ?_))
  intro r1 h4 hp
  obtain ⟨e9, w⟩ := hp
  rw [e9]
  refine r_astore_n C dX7_area_5 (nlt hn (by decide)) rfl (r_iload_n C 3 dX7_area_6 rfl (r_gxv (r_ruxS C dX7_area_7 (m_X7_checkHand hl w) mt_X7_checkHand tw227 tw228 rfl (stk := []) rfl (Nat.le_of_ble_eq_true rfl) ⟨rfl, rfl, ⟨Nat.le_of_ble_eq_true rfl, Nat.le_of_ble_eq_true rfl⟩, ⟨Nat.le_of_ble_eq_true rfl, Nat.le_of_ble_eq_true rfl⟩⟩) (fun E h5 hp => by obtain ⟨rfl, hp⟩ := hp; exact r_out C hQx (fun x hx => (hno x hx).elim) ⟨Nat.le_of_ble_eq_true rfl, Nat.le_of_ble_eq_true rfl⟩ ⟨rfl, hp⟩) ?_))
  intro  h5 hp
  obtain ⟨e9, w⟩ := hp
  rw [e9]
  obtain ⟨o6, e7, w⟩ := w
  obtain ⟨o8, e9, w⟩ := w
  obtain ⟨i10, w⟩ := w
  exact r_aload_n C 0 dX7_area_10 rfl (rg_X7_X3_areas C dX7_area_11 e7 (r_iload_n C 3 dX7_area_14 rfl (r_iald (ci := 4) (k := 4) C dX7_area_15 rfl rfl e9 i10 (r_iret C hQ dX7_area_16 rfl (vp_nar_int _) ⟨Nat.le_of_ble_eq_true rfl, Nat.le_of_ble_eq_true rfl⟩ ⟨rfl, w⟩))))
def rm_X7_checkBuyer : Room := { frames := 6, cells := 1, slots := 6, locals := 90 }
theorem mt_X7_checkBuyer : gMt yX7_checkBuyer cX7_checkBuyer 1 none 1 := ⟨tw926, tw59, by decide +kernel, by decide +kernel, by decide +kernel⟩
def wp_X7_checkBuyer_10 (p0 : Int32) (post : Prop) (px : String → Prop)   : Prop :=
px "java/lang/IndexOutOfBoundsException"
def wp_X7_checkBuyer (p0 : Int32)  (post : Prop) (px : String → Prop) : Prop :=
((p0 < 0 → wp_X7_checkBuyer_10 p0 post px) ∧ (¬ p0 < 0 → ((p0 < 8 → post) ∧ (¬ p0 < 8 → wp_X7_checkBuyer_10 p0 post px))))
set_option maxHeartbeats 4000000 in
set_option maxRecDepth 100000 in
theorem t_X7_checkBuyer_10 {X : gCx}  {p0 : Int32} {post : Prop} {px : String → Prop} {g : GH}   (C : gC X cX7_checkBuyer RX7 none rm_X7_checkBuyer) (hn : xn X = 1) (hQ : gRet X (gQv (xY X) (fun  g9 => g9 = g ∧ post )) 1 6 ∨ gRex X (gQv (xY X) (fun  g9 => g9 = g ∧ post )) (fun E9 g9 => g9 = g ∧ px E9) 1 6) (hQx : gRex X (gQv (xY X) (fun  g9 => g9 = g ∧ post )) (fun E9 g9 => g9 = g ∧ px E9) 1 6) (hl : (yl (xY X)).stackTraces = false) (hno : ∀ x ∈ (xc X).exceptionTable.toList, False)    : wp_X7_checkBuyer_10 p0 post px → gX X 0 0 10 [] [] g := by
  intro  w
  unfold wp_X7_checkBuyer_10 at w
  exact r_throwW (text := "no such buyer") C hQx hl (fun x hx => (hno x hx).elim) thx_325.1 thx_325.2.1 thx_325.2.2.1 thx_325.2.2.2.1 (by decide +kernel) thx_325.2.2.2.2.1 thx_325.2.2.2.2.2 dX7_checkBuyer_10 dX7_checkBuyer_13 dX7_checkBuyer_14 dX7_checkBuyer_17 dX7_checkBuyer_20 ⟨Nat.le_of_ble_eq_true rfl, Nat.le_of_ble_eq_true rfl, Nat.le_of_ble_eq_true rfl, Nat.le_of_ble_eq_true rfl⟩ ⟨Nat.le_of_ble_eq_true rfl, Nat.le_of_ble_eq_true rfl⟩ ⟨rfl, w⟩
set_option maxHeartbeats 4000000 in
set_option maxRecDepth 100000 in
theorem m_X7_checkBuyer {Y : gWx}  {p0 : Int32} {post : Prop} {px : String → Prop} {g : GH}    (hl : (yl Y).stackTraces = false) (w : wp_X7_checkBuyer p0 post px) : gMex Y yX7_checkBuyer cX7_checkBuyer 1 none rm_X7_checkBuyer [.int p0] g (gQv Y (fun  g9 => g9 = g ∧ post )) (fun E9 g9 => g9 = g ∧ px E9) 1 6 := by
  refine gm_ofx rfl (Nat.le_of_ble_eq_true rfl) ?_
  intro X hY hn C hno hQx
  subst hY
  have hQ := Or.inr (a := gRet X (gQv (xY X) (fun  g9 => g9 = g ∧ post )) 1 6) hQx
  have C : gC X cX7_checkBuyer RX7 none rm_X7_checkBuyer := C
  show gX X 0 0 0 [(0, .int p0)] [] g
  unfold wp_X7_checkBuyer at w
  refine r_iload_n C 0 dX7_checkBuyer_0 rfl (r_if_lt C 10 dX7_checkBuyer_1 (by decide) (fun c1 => ?_) (fun c1 => ?_))
  · have w := w.1 c1
    exact r_sub [] rfl (t_X7_checkBuyer_10 C hn hQ hQx hl hno w)
  · have w := w.2 c1
    refine r_iload_n C 0 dX7_checkBuyer_4 rfl (r_bipush C (v := 8) dX7_checkBuyer_5 (by decide) (r_icmp_lt C 21 dX7_checkBuyer_7 (by decide) (fun c2 => ?_) (fun c2 => ?_)))
    · have w := w.1 c2
      exact r_vret C hQ dX7_checkBuyer_21 rfl ⟨Nat.le_of_ble_eq_true rfl, Nat.le_of_ble_eq_true rfl⟩ ⟨rfl, w⟩
    · have w := w.2 c2
      exact r_sub [] rfl (t_X7_checkBuyer_10 C hn hQ hQx hl hno w)
def rm_X2_passTo : Room := { frames := 0, cells := 0, slots := 0, locals := 0 }
theorem mt_X2_passTo : gMt yX2_passTo cX2_passTo 3 none 2 := ⟨tw933, tw83, by decide +kernel, by decide +kernel, by decide +kernel⟩
def wp_X2_passTo (p0 : Int32) (p1 : Int32) (o : FO) (post : FO → Prop) : Prop :=
∀ o1, o1 = sI o 0 1 →
∀ o3, o3 = sI o1 1 p0 →
∀ o5, o5 = sI o3 2 p1 →
post o5
set_option maxHeartbeats 4000000 in
set_option maxRecDepth 100000 in
theorem m_X2_passTo {Y : gWx} {a : Nat}  {p0 : Int32} {p1 : Int32} {post : FO → Prop} {g : GH}  {o : FO} (hg : g a = some (3, o))    (w : wp_X2_passTo p0 p1 o post) : gMet Y yX2_passTo cX2_passTo 3 none rm_X2_passTo [.ref a, .int p0, .int p1] g (gQv Y (fun  g9 => ∃ o9, g9 = hu g a (3, o9) ∧ post  o9)) 0 0 := by
  refine gm_of rfl (Nat.le_of_ble_eq_true rfl) ?_
  intro X hY hn C hnm hQ
  subst hY
  have hQ : gRet X (gQv (xY X) (fun  g9 => ∃ o9, g9 = hu g a (3, o9) ∧ post  o9)) 0 0 ∨ gRex X (gQv (xY X) (fun  g9 => ∃ o9, g9 = hu g a (3, o9) ∧ post  o9)) (fun _ _ => False) 0 0 := Or.inl hQ
  have C : gC X cX2_passTo RX2 none rm_X2_passTo := C
  refine gX_eq (hu_id hg).symm ?_
  show gX X 0 0 0 [(0, .ref a), (1, .int p0), (2, .int p1)] [] (hu g a (3, o))
  unfold wp_X2_passTo at w
  obtain ⟨o1, e2⟩ : ∃ z, z = sI o 0 1 := ⟨_, rfl⟩
  have w := w o1 e2
  obtain ⟨o3, e4⟩ : ∃ z, z = sI o1 1 p0 := ⟨_, rfl⟩
  have w := w o3 e4
  obtain ⟨o5, e6⟩ : ∃ z, z = sI o3 2 p1 := ⟨_, rfl⟩
  have w := w o5 e6
  exact r_aload_n C 0 dX2_passTo_0 rfl (r_iconst C (v := 1) dX2_passTo_1 (by decide) (rp_X2_X2_state C dX2_passTo_2 hu_s e2 hu_hu.symm (r_aload_n C 0 dX2_passTo_5 rfl (r_iload_n C 1 dX2_passTo_6 rfl (rp_X2_X2_owner C dX2_passTo_7 hu_s e4 hu_hu.symm (r_aload_n C 0 dX2_passTo_10 rfl (r_iload_n C 2 dX2_passTo_11 rfl (rp_X2_X2_cost C dX2_passTo_12 hu_s e6 hu_hu.symm (r_vret C hQ dX2_passTo_15 rfl ⟨Nat.le_of_ble_eq_true rfl, Nat.le_of_ble_eq_true rfl⟩ ⟨_, rfl, w⟩)))))))))
def rm_X4_init : Room := { frames := 1, cells := 0, slots := 0, locals := 20 }
theorem mt_X4_init : gMt yX4_init cX4_init 4 none 3 := ⟨tw938, tw84, by decide +kernel, by decide +kernel, by decide +kernel⟩
def wp_X4_init (p0 : Int32) (p1 : Int32) (p2 : Int32) (o : FO) (post : FO → Prop) : Prop :=
∀ o1, o1 = sI o 0 p0 →
∀ o3, o3 = sI o1 1 p1 →
∀ o5, o5 = sI o3 2 p2 →
post o5
set_option maxHeartbeats 4000000 in
set_option maxRecDepth 100000 in
theorem m_X4_init {Y : gWx} {a : Nat}  {p0 : Int32} {p1 : Int32} {p2 : Int32} {post : FO → Prop} {g : GH}  {o : FO} (hg : g a = some (5, o))    (w : wp_X4_init p0 p1 p2 o post) : gMet Y yX4_init cX4_init 4 none rm_X4_init [.ref a, .int p0, .int p1, .int p2] g (gQv Y (fun  g9 => ∃ o9, g9 = hu g a (5, o9) ∧ post  o9)) 0 0 := by
  refine gm_of rfl (Nat.le_of_ble_eq_true rfl) ?_
  intro X hY hn C hnm hQ
  subst hY
  have hQ : gRet X (gQv (xY X) (fun  g9 => ∃ o9, g9 = hu g a (5, o9) ∧ post  o9)) 0 0 ∨ gRex X (gQv (xY X) (fun  g9 => ∃ o9, g9 = hu g a (5, o9) ∧ post  o9)) (fun _ _ => False) 0 0 := Or.inl hQ
  have C : gC X cX4_init RX4 none rm_X4_init := C
  refine gX_eq (hu_id hg).symm ?_
  show gX X 0 0 0 [(0, .ref a), (1, .int p0), (2, .int p1), (3, .int p2)] [] (hu g a (5, o))
  unfold wp_X4_init at w
  obtain ⟨o1, e2⟩ : ∃ z, z = sI o 0 p0 := ⟨_, rfl⟩
  have w := w o1 e2
  obtain ⟨o3, e4⟩ : ∃ z, z = sI o1 1 p1 := ⟨_, rfl⟩
  have w := w o3 e4
  obtain ⟨o5, e6⟩ : ∃ z, z = sI o3 2 p2 := ⟨_, rfl⟩
  have w := w o5 e6
  exact r_aload_n C 0 dX4_init_0 rfl (r_objInit C dX4_init_1 tw939 tw91 tw92 ⟨Nat.le_of_ble_eq_true rfl, Nat.le_of_ble_eq_true rfl⟩ (r_aload_n C 0 dX4_init_4 rfl (r_iload_n C 1 dX4_init_5 rfl (rp_X4_X4_edition C dX4_init_6 hnm hu_s e2 hu_hu.symm (r_aload_n C 0 dX4_init_9 rfl (r_iload_n C 2 dX4_init_10 rfl (rp_X4_X4_hand C dX4_init_11 hnm hu_s e4 hu_hu.symm (r_aload_n C 0 dX4_init_14 rfl (r_iload_n C 3 dX4_init_15 rfl (rp_X4_X4_amount C dX4_init_16 hnm hu_s e6 hu_hu.symm (r_vret C hQ dX4_init_19 rfl ⟨Nat.le_of_ble_eq_true rfl, Nat.le_of_ble_eq_true rfl⟩ ⟨_, rfl, w⟩)))))))))))
def rm_X3_share : Room := { frames := 0, cells := 0, slots := 0, locals := 0 }
theorem mt_X3_share : gMt yX3_share cX3_share 6 none 2 := ⟨tw964, tw82, by decide +kernel, by decide +kernel, by decide +kernel⟩
def wp_X3_share_44 (a : Nat) (p0 : Int32) (p1 : Nat) (k1 : Nat) (f1 : Nat) (post : GH → Prop) (k5 : Int32 → Int32 → GH → Prop) (x3 : Int32) (x4 : Int32) (y0 : Int32) (g : GH) : Prop :=
∃ o34, g p1 = some (8, o34) ∧
vp_in x4 6 ∧
∃ o37, g p1 = some (8, o37) ∧
vp_in x4 6 ∧
∀ g40, g40 = hu g p1 (8, sA o37 k1 x4.toNatClampNeg ((fA o34 k1 x4.toNatClampNeg) + y0)) →
k5 (x3 - y0) (x4 + 1) g40
def wp_X3_share_66 (a : Nat) (p0 : Int32) (p1 : Nat) (k1 : Nat) (f1 : Nat) (post : GH → Prop) (x3 : Int32) (g : GH) : Prop :=
∃ o16, g a = some (4, o16) ∧
(((fI o16 0) < 0 → post g) ∧ (¬ (fI o16 0) < 0 → ∃ o19, g a = some (4, o19) ∧
∃ o21, g p1 = some (8, o21) ∧
((6 ≤ (fI o19 0) → post g) ∧ (¬ 6 ≤ (fI o19 0) → ∃ o24, g a = some (4, o24) ∧
∃ o26, g p1 = some (8, o26) ∧
vp_in (fI o24 0) 6 ∧
∃ o29, g p1 = some (8, o29) ∧
vp_in (fI o24 0) 6 ∧
∀ g32, g32 = hu g p1 (8, sA o29 k1 (fI o24 0).toNatClampNeg ((fA o26 k1 (fI o24 0).toNatClampNeg) + x3)) →
post g32))))
def wp_X3_share_5 (a : Nat) (p0 : Int32) (p1 : Nat) (k1 : Nat) (f1 : Nat) (post : GH → Prop) : Nat → Int32 → Int32 → GH → Prop
  | 0, _, _, _ => False
  | n + 1, x3, x4, g =>
    ((6 ≤ x4 → wp_X3_share_66 a p0 p1 k1 f1 post x3 g) ∧ (¬ 6 ≤ x4 → ∃ o2, g p1 = some (8, o2) ∧
    ((6 ≤ x4 → wp_X3_share_66 a p0 p1 k1 f1 post x3 g) ∧ (¬ 6 ≤ x4 → ∃ o5, g a = some (4, o5) ∧
    (((fI o5 5) ≤ 0 → wp_X3_share_44 a p0 p1 k1 f1 post (fun x3 x4 g => wp_X3_share_5 a p0 p1 k1 f1 post n x3 x4 g) x3 x4 0 g) ∧ (¬ (fI o5 5) ≤ 0 → ∃ o8, g a = some (4, o8) ∧
    ∃ o10, g a = some (4, o10) ∧
    vp_in x4 6 ∧
    ∃ o13, g a = some (4, o13) ∧
    ¬ (fI o13 5) = 0 ∧
    wp_X3_share_44 a p0 p1 k1 f1 post (fun x3 x4 g => wp_X3_share_5 a p0 p1 k1 f1 post n x3 x4 g) x3 x4 ((p0 * (fA o10 4 x4.toNatClampNeg)) / (fI o13 5)) g))))))
def wp_X3_share (a : Nat) (p0 : Int32) (p1 : Nat) (k1 : Nat) (f1 : Nat) (g : GH) (post : GH → Prop) : Prop :=
wp_X3_share_5 a p0 p1 k1 f1 post 1000 p0 0 g
set_option maxHeartbeats 4000000 in
set_option maxRecDepth 100000 in
theorem t_X3_share_44 {X : gCx} {a : Nat}  {p0 : Int32} {p1 : Nat} {k1 : Nat} {f1 : Nat} {post : GH → Prop}   {k5 : Int32 → Int32 → GH → Prop} (C : gC X cX3_share RX3 none rm_X3_share) (hn : xn X = 6) (hQ : gRet X (gQv (xY X) post) 0 0 ∨ gRex X (gQv (xY X) post) (fun _ _ => False) 0 0)  (hk_p1 : (g_tab 8)[k1]? = some (3, 6, f1)) (hk5 : ∀ (x3 : Int32) (x4 : Int32) (g : GH), k5 x3 x4 g → gX X 0 0 5 [(0, .ref a), (1, .int p0), (2, .ref (p1 + f1)), (3, .int x3), (4, .int x4)] [] g) : ∀ (x3 : Int32) (x4 : Int32) (y0 : Int32) (g : GH), wp_X3_share_44 a p0 p1 k1 f1 post k5 x3 x4 y0 g → gX X 0 0 44 [(0, .ref a), (1, .int p0), (2, .ref (p1 + f1)), (3, .int x3), (4, .int x4)] [.int y0] g := by
  intro x3 x4 y0 g w
  unfold wp_X3_share_44 at w
  obtain ⟨o34, e35, w⟩ := w
  obtain ⟨i36, w⟩ := w
  obtain ⟨o37, e38, w⟩ := w
  obtain ⟨i39, w⟩ := w
  obtain ⟨g40, e41⟩ : ∃ z, z = hu g p1 (8, sA o37 k1 x4.toNatClampNeg ((fA o34 k1 x4.toNatClampNeg) + y0)) := ⟨_, rfl⟩
  have w := w g40 e41
  exact r_istore C dX3_share_44 (nlt hn (by decide)) rfl (r_aload_n C 3 dX3_share_46 rfl (r_iload C 5 dX3_share_47 rfl (r_dup2 C dX3_share_49 rfl rfl (r_iald (ci := 8) (k := k1) C dX3_share_50 rfl hk_p1 e35 i36 (r_iload C 0 dX3_share_51 rfl (r_iadd C dX3_share_53 (r_iast (ci := 8) (k := k1) C dX3_share_54 rfl hk_p1 e38 i39 rfl e41 (r_iload_n C 4 dX3_share_55 rfl (r_iload C 0 dX3_share_56 rfl (r_isub C dX3_share_58 (r_istore_n C dX3_share_59 (nlt hn (by decide)) rfl (r_iinc C (v := x4 + 1) 5 dX3_share_60 rfl rfl (nlt hn (by decide)) rfl (r_goto C 5 dX3_share_63 (by decide) (r_sub [3, 4, 5, 1, 0] rfl (hk5 _ _ _ w)))))))))))))))
set_option maxHeartbeats 4000000 in
set_option maxRecDepth 100000 in
theorem t_X3_share_66 {X : gCx} {a : Nat}  {p0 : Int32} {p1 : Nat} {k1 : Nat} {f1 : Nat} {post : GH → Prop}    (C : gC X cX3_share RX3 none rm_X3_share) (hn : xn X = 6) (hQ : gRet X (gQv (xY X) post) 0 0 ∨ gRex X (gQv (xY X) post) (fun _ _ => False) 0 0)  (hk_p1 : (g_tab 8)[k1]? = some (3, 6, f1))  : ∀ (x3 : Int32) (g : GH), wp_X3_share_66 a p0 p1 k1 f1 post x3 g → gX X 0 0 66 [(0, .ref a), (2, .ref (p1 + f1)), (3, .int x3)] [] g := by
  intro x3 g w
  unfold wp_X3_share_66 at w
  obtain ⟨o16, e17, w⟩ := w
  refine r_aload_n C 0 dX3_share_66 rfl (rg_X3_X3_freezer C dX3_share_67 e17 (r_if_lt C 92 dX3_share_70 (by decide) (fun c18 => ?_) (fun c18 => ?_)))
  · have w := w.1 c18
    exact r_vret C hQ dX3_share_92 rfl ⟨Nat.le_of_ble_eq_true rfl, Nat.le_of_ble_eq_true rfl⟩ w
  · have w := w.2 c18
    obtain ⟨o19, e20, w⟩ := w
    obtain ⟨o21, e22, w⟩ := w
    refine r_aload_n C 0 dX3_share_73 rfl (rg_X3_X3_freezer C dX3_share_74 e20 (r_aload_n C 1 dX3_share_77 rfl (r_alen (ci := 8) (k := k1) (v := 6) C dX3_share_78 rfl hk_p1 e22 rfl (r_icmp_ge C 92 dX3_share_79 (by decide) (fun c23 => ?_) (fun c23 => ?_)))))
    · have w := w.1 c23
      exact r_vret C hQ dX3_share_92 rfl ⟨Nat.le_of_ble_eq_true rfl, Nat.le_of_ble_eq_true rfl⟩ w
    · have w := w.2 c23
      obtain ⟨o24, e25, w⟩ := w
      obtain ⟨o26, e27, w⟩ := w
      obtain ⟨i28, w⟩ := w
      obtain ⟨o29, e30, w⟩ := w
      obtain ⟨i31, w⟩ := w
      obtain ⟨g32, e33⟩ : ∃ z, z = hu g p1 (8, sA o29 k1 (fI o24 0).toNatClampNeg ((fA o26 k1 (fI o24 0).toNatClampNeg) + x3)) := ⟨_, rfl⟩
      have w := w g32 e33
      exact r_aload_n C 1 dX3_share_82 rfl (r_aload_n C 0 dX3_share_83 rfl (rg_X3_X3_freezer C dX3_share_84 e25 (r_dup2 C dX3_share_87 rfl rfl (r_iald (ci := 8) (k := k1) C dX3_share_88 rfl hk_p1 e27 i28 (r_iload_n C 2 dX3_share_89 rfl (r_iadd C dX3_share_90 (r_iast (ci := 8) (k := k1) C dX3_share_91 rfl hk_p1 e30 i31 rfl e33 (r_vret C hQ dX3_share_92 rfl ⟨Nat.le_of_ble_eq_true rfl, Nat.le_of_ble_eq_true rfl⟩ w))))))))
set_option maxHeartbeats 4000000 in
set_option maxRecDepth 100000 in
theorem t_X3_share_5 {X : gCx} {a : Nat}  {p0 : Int32} {p1 : Nat} {k1 : Nat} {f1 : Nat} {post : GH → Prop}    (C : gC X cX3_share RX3 none rm_X3_share) (hn : xn X = 6) (hQ : gRet X (gQv (xY X) post) 0 0 ∨ gRex X (gQv (xY X) post) (fun _ _ => False) 0 0)  (hk_p1 : (g_tab 8)[k1]? = some (3, 6, f1))  : ∀ (n : Nat) (x3 : Int32) (x4 : Int32) (g : GH), wp_X3_share_5 a p0 p1 k1 f1 post n x3 x4 g → gX X 0 0 5 [(0, .ref a), (1, .int p0), (2, .ref (p1 + f1)), (3, .int x3), (4, .int x4)] [] g := by
  intro n
  induction n with
  | zero => intro x3 x4 g w; exact w.elim
  | succ n ih =>
    intro x3 x4 g w
    unfold wp_X3_share_5 at w
    refine r_iload C 4 dX3_share_5 rfl (r_bipush C (v := 6) dX3_share_7 (by decide) (r_icmp_ge C 66 dX3_share_9 (by decide) (fun c1 => ?_) (fun c1 => ?_)))
    · have w := w.1 c1
      exact r_sub [0, 2, 3] rfl (t_X3_share_66 C hn hQ hk_p1 _ _ w)
    · have w := w.2 c1
      obtain ⟨o2, e3, w⟩ := w
      refine r_iload C 4 dX3_share_12 rfl (r_aload_n C 2 dX3_share_14 rfl (r_alen (ci := 8) (k := k1) (v := 6) C dX3_share_15 rfl hk_p1 e3 rfl (r_icmp_ge C 66 dX3_share_16 (by decide) (fun c4 => ?_) (fun c4 => ?_))))
      · have w := w.1 c4
        exact r_sub [0, 2, 3] rfl (t_X3_share_66 C hn hQ hk_p1 _ _ w)
      · have w := w.2 c4
        obtain ⟨o5, e6, w⟩ := w
        refine r_aload_n C 0 dX3_share_19 rfl (rg_X3_X3_wholeArea C dX3_share_20 e6 (r_if_le C 43 dX3_share_23 (by decide) (fun c7 => ?_) (fun c7 => ?_)))
        · have w := w.1 c7
          exact r_iconst C (v := 0) dX3_share_43 (by decide) (r_sub [0, 1, 2, 3, 4] rfl (t_X3_share_44 C hn hQ hk_p1 ih _ _ _ _ w))
        · have w := w.2 c7
          obtain ⟨o8, e9, w⟩ := w
          obtain ⟨o10, e11, w⟩ := w
          obtain ⟨i12, w⟩ := w
          obtain ⟨o13, e14, w⟩ := w
          obtain ⟨i15, w⟩ := w
          exact r_iload_n C 1 dX3_share_26 rfl (r_aload_n C 0 dX3_share_27 rfl (rg_X3_X3_areas C dX3_share_28 e9 (r_iload C 4 dX3_share_31 rfl (r_iald (ci := 4) (k := 4) C dX3_share_33 rfl rfl e11 i12 (r_imul C dX3_share_34 (r_aload_n C 0 dX3_share_35 rfl (rg_X3_X3_wholeArea C dX3_share_36 e14 (r_idiv C dX3_share_39 i15 (r_goto C 44 dX3_share_40 (by decide) (r_sub [0, 1, 2, 3, 4] rfl (t_X3_share_44 C hn hQ hk_p1 ih _ _ _ _ w)))))))))))
set_option maxHeartbeats 4000000 in
set_option maxRecDepth 100000 in
theorem m_X3_share {Y : gWx} {a : Nat}  {p0 : Int32} {p1 : Nat} {k1 : Nat} {f1 : Nat} {post : GH → Prop} {g : GH}   (hk_p1 : (g_tab 8)[k1]? = some (3, 6, f1))  (w : wp_X3_share a p0 p1 k1 f1 g post) : gMet Y yX3_share cX3_share 6 none rm_X3_share [.ref a, .int p0, .ref (p1 + f1)] g (gQv Y post) 0 0 := by
  refine gm_of rfl (Nat.le_of_ble_eq_true rfl) ?_
  intro X hY hn C hnm hQ
  subst hY
  have hQ : gRet X (gQv (xY X) post) 0 0 ∨ gRex X (gQv (xY X) post) (fun _ _ => False) 0 0 := Or.inl hQ
  have C : gC X cX3_share RX3 none rm_X3_share := C
  show gX X 0 0 0 [(0, .ref a), (1, .int p0), (2, .ref (p1 + f1))] [] g
  unfold wp_X3_share at w
  exact r_iload_n C 1 dX3_share_0 rfl (r_istore_n C dX3_share_1 (nlt hn (by decide)) rfl (r_iconst C (v := 0) dX3_share_2 (by decide) (r_istore C dX3_share_3 (nlt hn (by decide)) rfl (r_sub [2, 3, 4, 1, 0] rfl (t_X3_share_5 C hn hQ hk_p1 1000 _ _ _ w)))))
def rm_X7_payHands : Room := { frames := 3, cells := 0, slots := 0, locals := 101 }
theorem mt_X7_payHands : gMt yX7_payHands cX7_payHands 3 none 2 := ⟨tw960, tw59, by decide +kernel, by decide +kernel, by decide +kernel⟩
def wp_X7_payHands (a : Nat) (p0 : Nat) (p1 : Nat) (k1 : Nat) (f1 : Nat) (g : GH) (post : GH → Prop) : Prop :=
∃ o1, g p0 = some (5, o1) ∧
∃ o4, g a = some (8, o4) ∧
wp_X7_isEdition a (fI o1 0) g (fun r3 =>
((r3 = 0 → ∃ o8, g p0 = some (5, o8) ∧
(((fI o8 1) < 0 → post g) ∧ (¬ (fI o8 1) < 0 → ∃ o11, g p0 = some (5, o11) ∧
∃ o13, g p1 = some (8, o13) ∧
((6 ≤ (fI o11 1) → post g) ∧ (¬ 6 ≤ (fI o11 1) → ∃ o16, g p0 = some (5, o16) ∧
∃ o18, g p1 = some (8, o18) ∧
vp_in (fI o16 1) 6 ∧
∃ o21, g p0 = some (5, o21) ∧
∃ o23, g p1 = some (8, o23) ∧
vp_in (fI o16 1) 6 ∧
∀ g26, g26 = hu g p1 (8, sA o23 k1 (fI o16 1).toNatClampNeg ((fA o18 k1 (fI o16 1).toNatClampNeg) + (fI o21 2))) →
post g26))))) ∧ (¬ r3 = 0 → ∃ o28, g a = some (8, o28) ∧
∃ o30, g p0 = some (5, o30) ∧
∃ o32, g (fR o28 2) = some (0, o32) ∧
vp_in (fI o30 0) (fI o32 2).toNatClampNeg ∧
∃ o37, g (fR o32 (fI o30 0).toNatClampNeg) = some (4, o37) ∧
∃ o39, g p0 = some (5, o39) ∧
∃ o41, g (fR o32 (fI o30 0).toNatClampNeg) = some (4, o41) ∧
wp_X3_share (fR o32 (fI o30 0).toNatClampNeg) (fI o39 2) p1 k1 f1 g (fun g43 =>
post g43))))
set_option maxHeartbeats 4000000 in
set_option maxRecDepth 100000 in
theorem m_X7_payHands {Y : gWx} {a : Nat}  {p0 : Nat} {p1 : Nat} {k1 : Nat} {f1 : Nat} {post : GH → Prop} {g : GH}   (hk_p1 : (g_tab 8)[k1]? = some (3, 6, f1))  (w : wp_X7_payHands a p0 p1 k1 f1 g post) : gMet Y yX7_payHands cX7_payHands 3 none rm_X7_payHands [.ref a, .ref p0, .ref (p1 + f1)] g (gQv Y post) 0 0 := by
  refine gm_of rfl (Nat.le_of_ble_eq_true rfl) ?_
  intro X hY hn C hnm hQ
  subst hY
  have hQ : gRet X (gQv (xY X) post) 0 0 ∨ gRex X (gQv (xY X) post) (fun _ _ => False) 0 0 := Or.inl hQ
  have C : gC X cX7_payHands RX7 none rm_X7_payHands := C
  show gX X 0 0 0 [(0, .ref a), (1, .ref p0), (2, .ref (p1 + f1))] [] g
  unfold wp_X7_payHands at w
  obtain ⟨o1, e2, w⟩ := w
  obtain ⟨o4, e5, w⟩ := w
  refine r_aload_n C 0 dX7_payHands_0 rfl (r_aload_n C 1 dX7_payHands_1 rfl (rg_X7_X4_edition C dX7_payHands_2 e2 (r_goi (r_runV C dX7_payHands_5 (m_X7_isEdition w) mt_X7_isEdition tw892 tw894 tw26 gcl_8.1 e5 rfl (stk := []) rfl (Nat.le_of_ble_eq_true rfl) ⟨rfl, rfl, ⟨Nat.le_of_ble_eq_true rfl, Nat.le_of_ble_eq_true rfl⟩, ⟨Nat.le_of_ble_eq_true rfl, Nat.le_of_ble_eq_true rfl⟩⟩) ?_)))
  intro r3 h6 hp
  obtain ⟨e9, w⟩ := hp
  rw [e9]
  refine r_if_eq C 36 dX7_payHands_8 (by decide) (fun c7 => ?_) (fun c7 => ?_)
  · have w := w.1 c7
    obtain ⟨o8, e9, w⟩ := w
    refine r_aload_n C 1 dX7_payHands_36 rfl (rg_X7_X4_hand C dX7_payHands_37 e9 (r_if_lt C 65 dX7_payHands_40 (by decide) (fun c10 => ?_) (fun c10 => ?_)))
    · have w := w.1 c10
      exact r_vret C hQ dX7_payHands_65 rfl ⟨Nat.le_of_ble_eq_true rfl, Nat.le_of_ble_eq_true rfl⟩ w
    · have w := w.2 c10
      obtain ⟨o11, e12, w⟩ := w
      obtain ⟨o13, e14, w⟩ := w
      refine r_aload_n C 1 dX7_payHands_43 rfl (rg_X7_X4_hand C dX7_payHands_44 e12 (r_aload_n C 2 dX7_payHands_47 rfl (r_alen (ci := 8) (k := k1) (v := 6) C dX7_payHands_48 rfl hk_p1 e14 rfl (r_icmp_ge C 65 dX7_payHands_49 (by decide) (fun c15 => ?_) (fun c15 => ?_)))))
      · have w := w.1 c15
        exact r_vret C hQ dX7_payHands_65 rfl ⟨Nat.le_of_ble_eq_true rfl, Nat.le_of_ble_eq_true rfl⟩ w
      · have w := w.2 c15
        obtain ⟨o16, e17, w⟩ := w
        obtain ⟨o18, e19, w⟩ := w
        obtain ⟨i20, w⟩ := w
        obtain ⟨o21, e22, w⟩ := w
        obtain ⟨o23, e24, w⟩ := w
        obtain ⟨i25, w⟩ := w
        obtain ⟨g26, e27⟩ : ∃ z, z = hu g p1 (8, sA o23 k1 (fI o16 1).toNatClampNeg ((fA o18 k1 (fI o16 1).toNatClampNeg) + (fI o21 2))) := ⟨_, rfl⟩
        have w := w g26 e27
        exact r_aload_n C 2 dX7_payHands_52 rfl (r_aload_n C 1 dX7_payHands_53 rfl (rg_X7_X4_hand C dX7_payHands_54 e17 (r_dup2 C dX7_payHands_57 rfl rfl (r_iald (ci := 8) (k := k1) C dX7_payHands_58 rfl hk_p1 e19 i20 (r_aload_n C 1 dX7_payHands_59 rfl (rg_X7_X4_amount C dX7_payHands_60 e22 (r_iadd C dX7_payHands_63 (r_iast (ci := 8) (k := k1) C dX7_payHands_64 rfl hk_p1 e24 i25 rfl e27 (r_vret C hQ dX7_payHands_65 rfl ⟨Nat.le_of_ble_eq_true rfl, Nat.le_of_ble_eq_true rfl⟩ w)))))))))
  · have w := w.2 c7
    obtain ⟨o28, e29, w⟩ := w
    obtain ⟨o30, e31, w⟩ := w
    obtain ⟨o32, e33, w⟩ := w
    obtain ⟨i35, w⟩ := w
    refine r_aload_n C 0 dX7_payHands_11 rfl (rg_X7_X7_frozenEditions C dX7_payHands_12 e29 (r_aload_n C 1 dX7_payHands_15 rfl (rg_X7_X4_edition C dX7_payHands_16 e31 (r_gor (r_runV C dX7_payHands_19 (m_lget e33 i35) mt_Jx4a65c_get_915e3 tw467 tw468 tw469 (ci := 0) rfl e33 rfl (stk := []) rfl (Nat.le_of_ble_eq_true rfl) ⟨rfl, rfl, ⟨Nat.le_of_ble_eq_true rfl, Nat.le_of_ble_eq_true rfl⟩, ⟨Nat.le_of_ble_eq_true rfl, Nat.le_of_ble_eq_true rfl⟩⟩) ?_))))
    intro r36 h34 hp
    obtain ⟨e9, e8⟩ := hp
    rw [e9, e8]
    obtain ⟨o37, e38, w⟩ := w
    obtain ⟨o39, e40, w⟩ := w
    obtain ⟨o41, e42, w⟩ := w
    refine r_cast C gcl_4 dX7_payHands_22 tw606 e38 (r_aload_n C 1 dX7_payHands_25 rfl (rg_X7_X4_amount C dX7_payHands_26 e40 (r_aload_n C 2 dX7_payHands_29 rfl (r_gov (r_runV C dX7_payHands_30 (m_X3_share hk_p1 w) mt_X3_share tw961 tw962 tw963 gcl_4.1 e42 rfl (stk := []) rfl (Nat.le_of_ble_eq_true rfl) ⟨rfl, rfl, ⟨Nat.le_of_ble_eq_true rfl, Nat.le_of_ble_eq_true rfl⟩, ⟨Nat.le_of_ble_eq_true rfl, Nat.le_of_ble_eq_true rfl⟩⟩) ?_))))
    intro  h44 hp
    obtain ⟨g43, rfl⟩ : ∃ z, z = h44 := ⟨_, rfl⟩
    have w := hp
    exact r_goto C 65 dX7_payHands_33 (by decide) (r_vret C hQ dX7_payHands_65 rfl ⟨Nat.le_of_ble_eq_true rfl, Nat.le_of_ble_eq_true rfl⟩ w)
def rm_X7_enter : Room := { frames := 7, cells := 1, slots := 778, locals := 301 }
theorem mt_X7_enter : gMt yX7_enter cX7_enter 2 none 1 := ⟨tw956, tw59, by decide +kernel, by decide +kernel, by decide +kernel⟩
def wp_X7_enter (a : Nat) (p0 : Nat) (g : GH) (post : GH → Prop) : Prop :=
∃ o1, g a = some (8, o1) ∧
∃ o3, g a = some (8, o3) ∧
wp_X7_payHands a p0 a 7 21 g (fun g5 =>
∃ o7, g5 a = some (8, o7) ∧
∃ o9, g5 (fR o7 3) = some (0, o9) ∧
((512 ≤ (fI o9 2) → post g5) ∧ (¬ 512 ≤ (fI o9 2) → ∃ o14, g5 a = some (8, o14) ∧
∃ o16, g5 (fR o14 3) = some (0, o16) ∧
vp_in (fI o16 2) 512 ∧ (∀ j, j < (fI o16 2).toNatClampNeg → ∃ c oo, c < 10 ∧ g5 (fR o16 j) = some (c, oo)) ∧ (∃ c oo, c < 10 ∧ g5 p0 = some (c, oo)) ∧ ∀ g19, g19 = hu g5 (fR o14 3) (0, lAdd o16 p0) →
post g19)))
set_option maxHeartbeats 4000000 in
set_option maxRecDepth 100000 in
theorem m_X7_enter {Y : gWx} {a : Nat}  {p0 : Nat} {post : GH → Prop} {g : GH}     (w : wp_X7_enter a p0 g post) : gMet Y yX7_enter cX7_enter 2 none rm_X7_enter [.ref a, .ref p0] g (gQv Y post) 1 778 := by
  refine gm_of rfl (Nat.le_of_ble_eq_true rfl) ?_
  intro X hY hn C hnm hQ
  subst hY
  have hQ : gRet X (gQv (xY X) post) 1 778 ∨ gRex X (gQv (xY X) post) (fun _ _ => False) 1 778 := Or.inl hQ
  have C : gC X cX7_enter RX7 none rm_X7_enter := C
  show gX X 0 0 0 [(0, .ref a), (1, .ref p0)] [] g
  unfold wp_X7_enter at w
  obtain ⟨o1, e2, w⟩ := w
  obtain ⟨o3, e4, w⟩ := w
  refine r_aload_n C 0 dX7_enter_0 rfl (r_aload_n C 1 dX7_enter_1 rfl (r_aload_n C 0 dX7_enter_2 rfl (rg_X7_X7_handMoney C dX7_enter_3 e2 (r_gov (r_runV C dX7_enter_6 (m_X7_payHands rfl w) mt_X7_payHands tw957 tw959 tw28 gcl_8.1 e4 rfl (stk := []) rfl (Nat.le_of_ble_eq_true rfl) ⟨rfl, rfl, ⟨Nat.le_of_ble_eq_true rfl, Nat.le_of_ble_eq_true rfl⟩, ⟨Nat.le_of_ble_eq_true rfl, Nat.le_of_ble_eq_true rfl⟩⟩) ?_))))
  intro  h6 hp
  obtain ⟨g5, rfl⟩ : ∃ z, z = h6 := ⟨_, rfl⟩
  have w := hp
  obtain ⟨o7, e8, w⟩ := w
  obtain ⟨o9, e10, w⟩ := w
  refine r_aload_n C 0 dX7_enter_9 rfl (rg_X7_X7_payments C dX7_enter_10 e8 (r_goi (r_runV C dX7_enter_13 (m_lsize e10) mt_Jx4a65c_size_8abf5 tw201 tw202 tw203 (ci := 0) rfl e10 rfl (stk := []) rfl (Nat.le_of_ble_eq_true rfl) ⟨rfl, rfl, ⟨Nat.le_of_ble_eq_true rfl, Nat.le_of_ble_eq_true rfl⟩, ⟨Nat.le_of_ble_eq_true rfl, Nat.le_of_ble_eq_true rfl⟩⟩) ?_))
  intro r12 h11 hp
  obtain ⟨e9, e8⟩ := hp
  rw [e9, e8]
  refine r_sipush C (v := 512) dX7_enter_16 (by decide) (r_icmp_ge C 31 dX7_enter_19 (by decide) (fun c13 => ?_) (fun c13 => ?_))
  · have w := w.1 c13
    exact r_vret C hQ dX7_enter_31 rfl ⟨Nat.le_of_ble_eq_true rfl, Nat.le_of_ble_eq_true rfl⟩ w
  · have w := w.2 c13
    obtain ⟨o14, e15, w⟩ := w
    obtain ⟨o16, e17, w⟩ := w
    obtain ⟨q201, q202, ⟨q205, q206, q203, q204⟩, w⟩ := w
    refine r_aload_n C 0 dX7_enter_22 rfl (rg_X7_X7_payments C dX7_enter_23 e15 (r_aload_n C 1 dX7_enter_26 rfl (r_goi (r_runV C dX7_enter_27 (m_ladd (N := 512) (B := 778) e17 (by decide) (by decide) q201 q202 q203 q204) mt_Jx4a65c_add_9ea2d tw367 tw368 tw369 (ci := 0) rfl e17 rfl (stk := []) rfl (Nat.le_of_ble_eq_true rfl) ⟨rfl, rfl, ⟨Nat.le_of_ble_eq_true rfl, Nat.le_of_ble_eq_true rfl⟩, ⟨Nat.le_of_ble_eq_true rfl, Nat.le_of_ble_eq_true rfl⟩⟩) ?_)))
    intro r21 h18 hp
    obtain ⟨rfl, e9⟩ := hp
    obtain ⟨g19, rfl⟩ : ∃ z, z = h18 := ⟨_, rfl⟩
    have w := w _ e9
    exact r_pop C dX7_enter_30 rfl (r_vret C hQ dX7_enter_31 rfl ⟨Nat.le_of_ble_eq_true rfl, Nat.le_of_ble_eq_true rfl⟩ w)
def rm_X7_sell : Room := { frames := 8, cells := 4, slots := 793, locals := 322 }
theorem mt_X7_sell : gMt yX7_sell cX7_sell 6 (some .int) 2 := ⟨tw923, tw59, by decide +kernel, by decide +kernel, by decide +kernel⟩
def wp_X7_sell_35 (a : Nat) (p0 : Int32) (p1 : Int32) (post : Int32 → GH → Prop) (px : String → GH → Prop)  (g : GH) : Prop :=
px "java/lang/IllegalStateException" g
def wp_X7_sell (a : Nat) (p0 : Int32) (p1 : Int32) (g : GH) (post : Int32 → GH → Prop) (px : String → GH → Prop) : Prop :=
∃ o2, g a = some (8, o2) ∧
wp_X7_checkedEdition a p0 g (fun r1 =>
wp_X7_checkBuyer p1 (
∃ o6, g r1 = some (4, o6) ∧
∃ o8, g r1 = some (4, o8) ∧
((¬ (fI o8 7) = 0 → wp_X7_sell_35 a p0 p1 post px g) ∧ ((fI o8 7) = 0 → ∃ o11, g r1 = some (4, o11) ∧
∃ o13, g (fR o11 8) = some (0, o13) ∧
(((fI o6 9) < (fI o13 2) → ∃ o18, g r1 = some (4, o18) ∧
∃ o20, g r1 = some (4, o20) ∧
∃ o22, g (fR o20 8) = some (0, o22) ∧
vp_in (fI o6 9) (fI o22 2).toNatClampNeg ∧
∃ o27, g (fR o22 (fI o6 9).toNatClampNeg) = some (3, o27) ∧
∃ o29, g r1 = some (4, o29) ∧
∃ o31, g (fR o22 (fI o6 9).toNatClampNeg) = some (3, o31) ∧
wp_X2_passTo p1 (fI o29 2) o31 (fun o33 => ∀ g34, g34 = hu g (fR o22 (fI o6 9).toNatClampNeg) (3, o33) →
∃ o36, g34 r1 = some (4, o36) ∧
∃ o38, g34 r1 = some (4, o38) ∧
∀ g40, g40 = hu g34 r1 (4, sI o38 9 ((fI o36 9) + 1)) →
∃ o42, g40 a = some (8, o42) ∧
∃ o44, g40 a = some (8, o44) ∧
vp_in p1 8 ∧
∃ o47, g40 r1 = some (4, o47) ∧
∃ o49, g40 a = some (8, o49) ∧
vp_in p1 8 ∧
∀ g52, g52 = hu g40 a (8, sA o49 9 p1.toNatClampNeg ((fA o44 9 p1.toNatClampNeg) - (fI o47 2))) →
∃ o54, g52 a = some (8, o54) ∧
∃ o56, g52 a = some (8, o56) ∧
∀ g58, g58 = hu g52 a (8, sI o56 10 ((fI o54 10) + ((fI o18 2) / 10))) →
∀ a60, g58 a60 = none → ∀ g61, g61 = hu g58 a60 (5, fo0) →
∃ o64, g61 r1 = some (4, o64) ∧
∃ o66, g61 a60 = some (5, o66) ∧
wp_X4_init p0 ((-1)) ((fI o64 2) - ((fI o18 2) / 10)) o66 (fun o68 => ∀ g69, g69 = hu g61 a60 (5, o68) →
∃ o71, g69 a = some (8, o71) ∧
wp_X7_enter a a60 g69 (fun g73 =>
post (fI o6 9) g73)))) ∧ (¬ (fI o6 9) < (fI o13 2) → wp_X7_sell_35 a p0 p1 post px g))))) (fun E => px E g)) (fun E => px E g)
set_option maxHeartbeats 4000000 in
set_option maxRecDepth 100000 in
theorem t_X7_sell_35 {X : gCx} {a : Nat}  {p0 : Int32} {p1 : Int32} {post : Int32 → GH → Prop} {px : String → GH → Prop}    (C : gC X cX7_sell RX7 (some .int) rm_X7_sell) (hn : xn X = 6) (hQ : gRet X (gQi (xY X) post) 4 793 ∨ gRex X (gQi (xY X) post) px 4 793) (hQx : gRex X (gQi (xY X) post) px 4 793) (hl : (yl (xY X)).stackTraces = false) (hno : ∀ x ∈ (xc X).exceptionTable.toList, False)    : ∀ (g : GH), wp_X7_sell_35 a p0 p1 post px g → gX X 2 12 35 [] [] g := by
  intro g w
  unfold wp_X7_sell_35 at w
  exact r_throw (text := "withdrawn, or no copy is left") C hQx hl (fun x hx => (hno x hx).elim) thx_65.1 thx_65.2.1 thx_65.2.2.1 thx_65.2.2.2.1 (by decide +kernel) thx_65.2.2.2.2.1 thx_65.2.2.2.2.2 dX7_sell_35 dX7_sell_38 dX7_sell_39 dX7_sell_41 dX7_sell_44 ⟨Nat.le_of_ble_eq_true rfl, Nat.le_of_ble_eq_true rfl, Nat.le_of_ble_eq_true rfl, Nat.le_of_ble_eq_true rfl⟩ ⟨Nat.le_of_ble_eq_true rfl, Nat.le_of_ble_eq_true rfl⟩ w
set_option maxHeartbeats 4000000 in
set_option maxRecDepth 100000 in
theorem m_X7_sell {Y : gWx} {a : Nat}  {p0 : Int32} {p1 : Int32} {post : Int32 → GH → Prop} {px : String → GH → Prop} {g : GH}    (hl : (yl Y).stackTraces = false) (w : wp_X7_sell a p0 p1 g post px) : gMex Y yX7_sell cX7_sell 6 (some .int) rm_X7_sell [.ref a, .int p0, .int p1] g (gQi Y post) px 4 793 := by
  refine gm_ofx rfl (Nat.le_of_ble_eq_true rfl) ?_
  intro X hY hn C hno hQx
  subst hY
  have hQ := Or.inr (a := gRet X (gQi (xY X) post) 4 793) hQx
  have C : gC X cX7_sell RX7 (some .int) rm_X7_sell := C
  show gX X 0 0 0 [(0, .ref a), (1, .int p0), (2, .int p1)] [] g
  unfold wp_X7_sell at w
  obtain ⟨o2, e3, w⟩ := w
  refine r_aload_n C 0 dX7_sell_0 rfl (r_iload_n C 1 dX7_sell_1 rfl (r_gxr (r_ruxV C dX7_sell_2 (m_X7_checkedEdition hl w) mt_X7_checkedEdition tw888 tw890 tw25 gcl_8.1 e3 rfl (stk := []) rfl (Nat.le_of_ble_eq_true rfl) ⟨rfl, rfl, ⟨Nat.le_of_ble_eq_true rfl, Nat.le_of_ble_eq_true rfl⟩, ⟨Nat.le_of_ble_eq_true rfl, Nat.le_of_ble_eq_true rfl⟩⟩) (fun E h4 hp => by obtain ⟨rfl, hp⟩ := hp; exact r_out C hQx (fun x hx => (hno x hx).elim) ⟨Nat.le_of_ble_eq_true rfl, Nat.le_of_ble_eq_true rfl⟩ hp) ?_))
  intro r1 h4 hp
  obtain ⟨e9, w⟩ := hp
  rw [e9]
  refine r_astore_n C dX7_sell_5 (nlt hn (by decide)) rfl (r_iload_n C 3 dX7_sell_6 rfl (r_gxv (r_ruxS C dX7_sell_7 (m_X7_checkBuyer hl w) mt_X7_checkBuyer tw924 tw925 rfl (stk := []) rfl (Nat.le_of_ble_eq_true rfl) ⟨rfl, rfl, ⟨Nat.le_of_ble_eq_true rfl, Nat.le_of_ble_eq_true rfl⟩, ⟨Nat.le_of_ble_eq_true rfl, Nat.le_of_ble_eq_true rfl⟩⟩) (fun E h5 hp => by obtain ⟨rfl, hp⟩ := hp; exact r_out C hQx (fun x hx => (hno x hx).elim) ⟨Nat.le_of_ble_eq_true rfl, Nat.le_of_ble_eq_true rfl⟩ hp) ?_))
  intro  h5 hp
  obtain ⟨e9, w⟩ := hp
  rw [e9]
  obtain ⟨o6, e7, w⟩ := w
  obtain ⟨o8, e9, w⟩ := w
  refine r_aload_n C 0 dX7_sell_10 rfl (rg_X7_X3_soldCopies C dX7_sell_11 e7 (r_istore C dX7_sell_14 (nlt hn (by decide)) rfl (r_aload_n C 1 dX7_sell_16 rfl (rg_X7_X3_isWithdrawn C dX7_sell_17 e9 (r_if_ne C 35 dX7_sell_20 (by decide) (fun c10 => ?_) (fun c10 => ?_))))))
  · have w := w.1 c10
    exact r_widen (Nat.le_of_ble_eq_true rfl) (Nat.le_of_ble_eq_true rfl) <| r_sub [] rfl (t_X7_sell_35 C hn hQ hQx hl hno _ w)
  · have w := w.2 c10
    obtain ⟨o11, e12, w⟩ := w
    obtain ⟨o13, e14, w⟩ := w
    refine r_iload C 0 dX7_sell_23 rfl (r_aload_n C 1 dX7_sell_25 rfl (rg_X7_X3_copies C dX7_sell_26 e12 (r_goi (r_runV C dX7_sell_29 (m_lsize e14) mt_Jx4a65c_size_8abf5 tw201 tw202 tw203 (ci := 0) rfl e14 rfl (stk := [.int (fI o6 9)]) rfl (Nat.le_of_ble_eq_true rfl) ⟨rfl, rfl, ⟨Nat.le_of_ble_eq_true rfl, Nat.le_of_ble_eq_true rfl⟩, ⟨Nat.le_of_ble_eq_true rfl, Nat.le_of_ble_eq_true rfl⟩⟩) ?_)))
    intro r16 h15 hp
    obtain ⟨e9, e8⟩ := hp
    rw [e9, e8]
    refine r_icmp_lt C 45 dX7_sell_32 (by decide) (fun c17 => ?_) (fun c17 => ?_)
    · have w := w.1 c17
      obtain ⟨o18, e19, w⟩ := w
      obtain ⟨o20, e21, w⟩ := w
      obtain ⟨o22, e23, w⟩ := w
      obtain ⟨i25, w⟩ := w
      refine r_aload_n C 1 dX7_sell_45 rfl (rg_X7_X3_price C dX7_sell_46 e19 (r_bipush C (v := 10) dX7_sell_49 (by decide) (r_idiv C dX7_sell_51 (by decide) (r_istore C dX7_sell_52 (nlt hn (by decide)) rfl (r_aload_n C 2 dX7_sell_54 rfl (rg_X7_X3_copies C dX7_sell_55 e21 (r_iload C 1 dX7_sell_58 rfl (r_gor (r_runV C dX7_sell_60 (m_lget e23 i25) mt_Jx4a65c_get_915e3 tw467 tw468 tw469 (ci := 0) rfl e23 rfl (stk := []) rfl (Nat.le_of_ble_eq_true rfl) ⟨rfl, rfl, ⟨Nat.le_of_ble_eq_true rfl, Nat.le_of_ble_eq_true rfl⟩, ⟨Nat.le_of_ble_eq_true rfl, Nat.le_of_ble_eq_true rfl⟩⟩) ?_))))))))
      intro r26 h24 hp
      obtain ⟨e9, e8⟩ := hp
      rw [e9, e8]
      obtain ⟨o27, e28, w⟩ := w
      obtain ⟨o29, e30, w⟩ := w
      obtain ⟨o31, e32, w⟩ := w
      refine r_cast C gcl_3 dX7_sell_63 tw929 e28 (r_iload_n C 5 dX7_sell_66 rfl (r_aload_n C 2 dX7_sell_67 rfl (rg_X7_X3_price C dX7_sell_68 e30 (r_gov (r_runV C dX7_sell_71 (m_X2_passTo e32 w) mt_X2_passTo tw930 tw931 tw932 gcl_3.1 e32 rfl (stk := []) rfl (Nat.le_of_ble_eq_true rfl) ⟨rfl, rfl, ⟨Nat.le_of_ble_eq_true rfl, Nat.le_of_ble_eq_true rfl⟩, ⟨Nat.le_of_ble_eq_true rfl, Nat.le_of_ble_eq_true rfl⟩⟩) ?_))))
      intro  h35 hp
      obtain ⟨o33, e9, w⟩ := hp
      obtain ⟨g34, rfl⟩ : ∃ z, z = h35 := ⟨_, rfl⟩
      have w := w _ e9
      obtain ⟨o36, e37, w⟩ := w
      obtain ⟨o38, e39, w⟩ := w
      obtain ⟨g40, e41⟩ : ∃ z, z = hu g34 r1 (4, sI o38 9 ((fI o36 9) + 1)) := ⟨_, rfl⟩
      have w := w g40 e41
      obtain ⟨o42, e43, w⟩ := w
      obtain ⟨o44, e45, w⟩ := w
      obtain ⟨i46, w⟩ := w
      obtain ⟨o47, e48, w⟩ := w
      obtain ⟨o49, e50, w⟩ := w
      obtain ⟨i51, w⟩ := w
      obtain ⟨g52, e53⟩ : ∃ z, z = hu g40 a (8, sA o49 9 p1.toNatClampNeg ((fA o44 9 p1.toNatClampNeg) - (fI o47 2))) := ⟨_, rfl⟩
      have w := w g52 e53
      obtain ⟨o54, e55, w⟩ := w
      obtain ⟨o56, e57, w⟩ := w
      obtain ⟨g58, e59⟩ : ∃ z, z = hu g52 a (8, sI o56 10 ((fI o54 10) + ((fI o18 2) / 10))) := ⟨_, rfl⟩
      have w := w g58 e59
      refine r_aload_n C 2 dX7_sell_74 rfl (r_dup C dX7_sell_75 rfl (rg_X7_X3_soldCopies C dX7_sell_76 e37 (r_iconst C (v := 1) dX7_sell_79 (by decide) (r_iadd C dX7_sell_80 (rp_X7_X3_soldCopies C dX7_sell_81 e39 rfl e41 (r_aload_n C 3 dX7_sell_84 rfl (rg_X7_X7_buyerMoney C dX7_sell_85 e43 (r_iload_n C 5 dX7_sell_88 rfl (r_dup2 C dX7_sell_89 rfl rfl (r_iald (ci := 8) (k := 9) C dX7_sell_90 rfl rfl e45 i46 (r_aload_n C 2 dX7_sell_91 rfl (rg_X7_X3_price C dX7_sell_92 e48 (r_isub C dX7_sell_95 (r_iast (ci := 8) (k := 9) C dX7_sell_96 rfl rfl e50 i51 rfl e53 (r_aload_n C 3 dX7_sell_97 rfl (r_dup C dX7_sell_98 rfl (rg_X7_X7_houseMoney C dX7_sell_99 e55 (r_iload C 0 dX7_sell_102 rfl (r_iadd C dX7_sell_104 (rp_X7_X7_houseMoney C dX7_sell_105 e57 rfl e59 (r_aload_n C 3 dX7_sell_108 rfl (r_new C gcl_5 dX7_sell_109 ⟨tw934, tw935, tw84⟩ hsm_5 ⟨Nat.le_of_ble_eq_true rfl, Nat.le_of_ble_eq_true rfl⟩ (fun a60 n63 _ => ?_)))))))))))))))))))))))
      obtain ⟨g61, e62⟩ : ∃ z, z = hu g58 a60 (5, fo0) := ⟨_, rfl⟩
      have w := w a60 n63 g61 e62
      refine gX_eq e62.symm ?_
      obtain ⟨o64, e65, w⟩ := w
      obtain ⟨o66, e67, w⟩ := w
      refine r_dup C dX7_sell_112 rfl (r_iload_n C 4 dX7_sell_113 rfl (r_iconst C (v := (-1)) dX7_sell_114 (by decide) (r_aload_n C 2 dX7_sell_115 rfl (rg_X7_X3_price C dX7_sell_116 e65 (r_iload C 0 dX7_sell_119 rfl (r_isub C dX7_sell_121 (r_gov (r_runI C dX7_sell_122 (m_X4_init e67 w) mt_X4_init tw936 tw937 rfl rfl (stk := [.ref a60, .ref a]) rfl (Nat.le_of_ble_eq_true rfl) ⟨rfl, rfl, ⟨Nat.le_of_ble_eq_true rfl, Nat.le_of_ble_eq_true rfl⟩, ⟨Nat.le_of_ble_eq_true rfl, Nat.le_of_ble_eq_true rfl⟩⟩) ?_)))))))
      intro  h70 hp
      obtain ⟨o68, e9, w⟩ := hp
      obtain ⟨g69, rfl⟩ : ∃ z, z = h70 := ⟨_, rfl⟩
      have w := w _ e9
      obtain ⟨o71, e72, w⟩ := w
      refine r_gov (r_runV C dX7_sell_125 (m_X7_enter w) mt_X7_enter tw953 tw955 tw27 gcl_8.1 e72 rfl (stk := []) rfl (Nat.le_of_ble_eq_true rfl) ⟨rfl, rfl, ⟨Nat.le_of_ble_eq_true rfl, Nat.le_of_ble_eq_true rfl⟩, ⟨Nat.le_of_ble_eq_true rfl, Nat.le_of_ble_eq_true rfl⟩⟩) ?_
      intro  h74 hp
      obtain ⟨g73, rfl⟩ : ∃ z, z = h74 := ⟨_, rfl⟩
      have w := hp
      exact r_iload C 1 dX7_sell_128 rfl (r_iret C hQ dX7_sell_130 rfl (vp_nar_int _) ⟨Nat.le_of_ble_eq_true rfl, Nat.le_of_ble_eq_true rfl⟩ w)
    · have w := w.2 c17
      exact r_widen (Nat.le_of_ble_eq_true rfl) (Nat.le_of_ble_eq_true rfl) <| r_sub [] rfl (t_X7_sell_35 C hn hQ hQx hl hno _ w)
def rm_X7_checkedCopy : Room := { frames := 7, cells := 2, slots := 12, locals := 122 }
theorem mt_X7_checkedCopy : gMt yX7_checkedCopy cX7_checkedCopy 4 (some (.object "CanvasRoom$Copy")) 2 := ⟨tw975, tw59, by decide +kernel, by decide +kernel, by decide +kernel⟩
def wp_X7_checkedCopy_21 (a : Nat) (p0 : Int32) (p1 : Int32) (g : GH) (post : Nat → Prop) (px : String → Prop)   : Prop :=
px "java/lang/IndexOutOfBoundsException"
def wp_X7_checkedCopy (a : Nat) (p0 : Int32) (p1 : Int32) (g : GH)  (post : Nat → Prop) (px : String → Prop) : Prop :=
∃ o2, g a = some (8, o2) ∧
wp_X7_checkedEdition a p0 g (fun r1 =>
∃ o5, g r1 = some (4, o5) ∧
((p1 < 0 → wp_X7_checkedCopy_21 a p0 p1 g post px) ∧ (¬ p1 < 0 → ∃ o8, g (fR o5 8) = some (0, o8) ∧
((p1 < (fI o8 2) → ∃ o13, g (fR o5 8) = some (0, o13) ∧
vp_in p1 (fI o13 2).toNatClampNeg ∧
∃ o18, g (fR o13 p1.toNatClampNeg) = some (3, o18) ∧
post (fR o13 p1.toNatClampNeg)) ∧ (¬ p1 < (fI o8 2) → wp_X7_checkedCopy_21 a p0 p1 g post px))))) px
set_option maxHeartbeats 4000000 in
set_option maxRecDepth 100000 in
theorem t_X7_checkedCopy_21 {X : gCx} {a : Nat}  {p0 : Int32} {p1 : Int32} {post : Nat → Prop} {px : String → Prop} {g : GH}   (C : gC X cX7_checkedCopy RX7 (some (.object "CanvasRoom$Copy")) rm_X7_checkedCopy) (hn : xn X = 4) (hQ : gRet X (gQr (xY X) (fun r9 g9 => g9 = g ∧ post r9)) 2 12 ∨ gRex X (gQr (xY X) (fun r9 g9 => g9 = g ∧ post r9)) (fun E9 g9 => g9 = g ∧ px E9) 2 12) (hQx : gRex X (gQr (xY X) (fun r9 g9 => g9 = g ∧ post r9)) (fun E9 g9 => g9 = g ∧ px E9) 2 12) (hl : (yl (xY X)).stackTraces = false) (hno : ∀ x ∈ (xc X).exceptionTable.toList, False)    : wp_X7_checkedCopy_21 a p0 p1 g post px → gX X 1 6 21 [] [] g := by
  intro  w
  unfold wp_X7_checkedCopy_21 at w
  exact r_throwW (text := "no such copy") C hQx hl (fun x hx => (hno x hx).elim) thx_325.1 thx_325.2.1 thx_325.2.2.1 thx_325.2.2.2.1 (by decide +kernel) thx_325.2.2.2.2.1 thx_325.2.2.2.2.2 dX7_checkedCopy_21 dX7_checkedCopy_24 dX7_checkedCopy_25 dX7_checkedCopy_28 dX7_checkedCopy_31 ⟨Nat.le_of_ble_eq_true rfl, Nat.le_of_ble_eq_true rfl, Nat.le_of_ble_eq_true rfl, Nat.le_of_ble_eq_true rfl⟩ ⟨Nat.le_of_ble_eq_true rfl, Nat.le_of_ble_eq_true rfl⟩ ⟨rfl, w⟩
set_option maxHeartbeats 4000000 in
set_option maxRecDepth 100000 in
theorem m_X7_checkedCopy {Y : gWx} {a : Nat}  {p0 : Int32} {p1 : Int32} {post : Nat → Prop} {px : String → Prop} {g : GH}    (hl : (yl Y).stackTraces = false) (w : wp_X7_checkedCopy a p0 p1 g post px) : gMex Y yX7_checkedCopy cX7_checkedCopy 4 (some (.object "CanvasRoom$Copy")) rm_X7_checkedCopy [.ref a, .int p0, .int p1] g (gQr Y (fun r9 g9 => g9 = g ∧ post r9)) (fun E9 g9 => g9 = g ∧ px E9) 2 12 := by
  refine gm_ofx rfl (Nat.le_of_ble_eq_true rfl) ?_
  intro X hY hn C hno hQx
  subst hY
  have hQ := Or.inr (a := gRet X (gQr (xY X) (fun r9 g9 => g9 = g ∧ post r9)) 2 12) hQx
  have C : gC X cX7_checkedCopy RX7 (some (.object "CanvasRoom$Copy")) rm_X7_checkedCopy := C
  show gX X 0 0 0 [(0, .ref a), (1, .int p0), (2, .int p1)] [] g
  unfold wp_X7_checkedCopy at w
  obtain ⟨o2, e3, w⟩ := w
  refine r_aload_n C 0 dX7_checkedCopy_0 rfl (r_iload_n C 1 dX7_checkedCopy_1 rfl (r_gxr (r_ruxV C dX7_checkedCopy_2 (m_X7_checkedEdition hl w) mt_X7_checkedEdition tw888 tw890 tw25 gcl_8.1 e3 rfl (stk := []) rfl (Nat.le_of_ble_eq_true rfl) ⟨rfl, rfl, ⟨Nat.le_of_ble_eq_true rfl, Nat.le_of_ble_eq_true rfl⟩, ⟨Nat.le_of_ble_eq_true rfl, Nat.le_of_ble_eq_true rfl⟩⟩) (fun E h4 hp => by obtain ⟨rfl, hp⟩ := hp; exact r_out C hQx (fun x hx => (hno x hx).elim) ⟨Nat.le_of_ble_eq_true rfl, Nat.le_of_ble_eq_true rfl⟩ ⟨rfl, hp⟩) ?_))
  intro r1 h4 hp
  obtain ⟨e9, w⟩ := hp
  rw [e9]
  obtain ⟨o5, e6, w⟩ := w
  refine rg_X7_X3_copies C dX7_checkedCopy_5 e6 (r_astore_n C dX7_checkedCopy_8 (nlt hn (by decide)) rfl (r_iload_n C 3 dX7_checkedCopy_9 rfl (r_if_lt C 21 dX7_checkedCopy_10 (by decide) (fun c7 => ?_) (fun c7 => ?_))))
  · have w := w.1 c7
    exact r_widen (Nat.le_of_ble_eq_true rfl) (Nat.le_of_ble_eq_true rfl) <| r_sub [] rfl (t_X7_checkedCopy_21 C hn hQ hQx hl hno w)
  · have w := w.2 c7
    obtain ⟨o8, e9, w⟩ := w
    refine r_iload_n C 3 dX7_checkedCopy_13 rfl (r_aload_n C 0 dX7_checkedCopy_14 rfl (r_goi (r_runV C dX7_checkedCopy_15 (m_lsize e9) mt_Jx4a65c_size_8abf5 tw201 tw202 tw203 (ci := 0) rfl e9 rfl (stk := [.int p1]) rfl (Nat.le_of_ble_eq_true rfl) ⟨rfl, rfl, ⟨Nat.le_of_ble_eq_true rfl, Nat.le_of_ble_eq_true rfl⟩, ⟨Nat.le_of_ble_eq_true rfl, Nat.le_of_ble_eq_true rfl⟩⟩) ?_))
    intro r11 h10 hp
    obtain ⟨e9, e8⟩ := hp
    rw [e9, e8]
    refine r_icmp_lt C 32 dX7_checkedCopy_18 (by decide) (fun c12 => ?_) (fun c12 => ?_)
    · have w := w.1 c12
      obtain ⟨o13, e14, w⟩ := w
      obtain ⟨i16, w⟩ := w
      refine r_aload_n C 0 dX7_checkedCopy_32 rfl (r_iload_n C 3 dX7_checkedCopy_33 rfl (r_gor (r_runV C dX7_checkedCopy_34 (m_lget e14 i16) mt_Jx4a65c_get_915e3 tw467 tw468 tw469 (ci := 0) rfl e14 rfl (stk := []) rfl (Nat.le_of_ble_eq_true rfl) ⟨rfl, rfl, ⟨Nat.le_of_ble_eq_true rfl, Nat.le_of_ble_eq_true rfl⟩, ⟨Nat.le_of_ble_eq_true rfl, Nat.le_of_ble_eq_true rfl⟩⟩) ?_))
      intro r17 h15 hp
      obtain ⟨e9, e8⟩ := hp
      rw [e9, e8]
      obtain ⟨o18, e19, w⟩ := w
      exact r_cast C gcl_3 dX7_checkedCopy_37 tw929 e19 (r_aret C hQ dX7_checkedCopy_40 rfl (Or.inl ⟨_, rfl⟩) ⟨Nat.le_of_ble_eq_true rfl, Nat.le_of_ble_eq_true rfl⟩ ⟨rfl, w⟩)
    · have w := w.2 c12
      exact r_widen (Nat.le_of_ble_eq_true rfl) (Nat.le_of_ble_eq_true rfl) <| r_sub [] rfl (t_X7_checkedCopy_21 C hn hQ hQx hl hno w)
def rm_X7_payBuyer : Room := { frames := 0, cells := 0, slots := 0, locals := 0 }
theorem mt_X7_payBuyer : gMt yX7_payBuyer cX7_payBuyer 3 none 2 := ⟨tw981, tw59, by decide +kernel, by decide +kernel, by decide +kernel⟩
def wp_X7_payBuyer (p0 : Int32) (p1 : Int32) (o : FO) (post : FO → Prop) : Prop :=
((p0 < 0 → post o) ∧ (¬ p0 < 0 → ((8 ≤ p0 → post o) ∧ (¬ 8 ≤ p0 → vp_in p0 8 ∧
vp_in p0 8 ∧
∀ o5, o5 = sA o 9 p0.toNatClampNeg ((fA o 9 p0.toNatClampNeg) + p1) →
post o5))))
set_option maxHeartbeats 4000000 in
set_option maxRecDepth 100000 in
theorem m_X7_payBuyer {Y : gWx} {a : Nat}  {p0 : Int32} {p1 : Int32} {post : FO → Prop} {g : GH}  {o : FO} (hg : g a = some (8, o))    (w : wp_X7_payBuyer p0 p1 o post) : gMet Y yX7_payBuyer cX7_payBuyer 3 none rm_X7_payBuyer [.ref a, .int p0, .int p1] g (gQv Y (fun  g9 => ∃ o9, g9 = hu g a (8, o9) ∧ post  o9)) 0 0 := by
  refine gm_of rfl (Nat.le_of_ble_eq_true rfl) ?_
  intro X hY hn C hnm hQ
  subst hY
  have hQ : gRet X (gQv (xY X) (fun  g9 => ∃ o9, g9 = hu g a (8, o9) ∧ post  o9)) 0 0 ∨ gRex X (gQv (xY X) (fun  g9 => ∃ o9, g9 = hu g a (8, o9) ∧ post  o9)) (fun _ _ => False) 0 0 := Or.inl hQ
  have C : gC X cX7_payBuyer RX7 none rm_X7_payBuyer := C
  refine gX_eq (hu_id hg).symm ?_
  show gX X 0 0 0 [(0, .ref a), (1, .int p0), (2, .int p1)] [] (hu g a (8, o))
  unfold wp_X7_payBuyer at w
  refine r_iload_n C 1 dX7_payBuyer_0 rfl (r_if_lt C 20 dX7_payBuyer_1 (by decide) (fun c1 => ?_) (fun c1 => ?_))
  · have w := w.1 c1
    exact r_vret C hQ dX7_payBuyer_20 rfl ⟨Nat.le_of_ble_eq_true rfl, Nat.le_of_ble_eq_true rfl⟩ ⟨_, rfl, w⟩
  · have w := w.2 c1
    refine r_iload_n C 1 dX7_payBuyer_4 rfl (r_bipush C (v := 8) dX7_payBuyer_5 (by decide) (r_icmp_ge C 20 dX7_payBuyer_7 (by decide) (fun c2 => ?_) (fun c2 => ?_)))
    · have w := w.1 c2
      exact r_vret C hQ dX7_payBuyer_20 rfl ⟨Nat.le_of_ble_eq_true rfl, Nat.le_of_ble_eq_true rfl⟩ ⟨_, rfl, w⟩
    · have w := w.2 c2
      obtain ⟨i3, w⟩ := w
      obtain ⟨i4, w⟩ := w
      obtain ⟨o5, e6⟩ : ∃ z, z = sA o 9 p0.toNatClampNeg ((fA o 9 p0.toNatClampNeg) + p1) := ⟨_, rfl⟩
      have w := w o5 e6
      exact r_aload_n C 0 dX7_payBuyer_10 rfl (rg_X7_X7_buyerMoney C dX7_payBuyer_11 hu_s (r_iload_n C 1 dX7_payBuyer_14 rfl (r_dup2 C dX7_payBuyer_15 rfl rfl (r_iald (ci := 8) (k := 9) C dX7_payBuyer_16 rfl rfl hu_s i3 (r_iload_n C 2 dX7_payBuyer_17 rfl (r_iadd C dX7_payBuyer_18 (r_iast (ci := 8) (k := 9) C dX7_payBuyer_19 rfl rfl hu_s i4 e6 hu_hu.symm (r_vret C hQ dX7_payBuyer_20 rfl ⟨Nat.le_of_ble_eq_true rfl, Nat.le_of_ble_eq_true rfl⟩ ⟨_, rfl, w⟩))))))))
def rm_X7_resell : Room := { frames := 8, cells := 6, slots := 805, locals := 322 }
theorem mt_X7_resell : gMt yX7_resell cX7_resell 7 (some .int) 4 := ⟨tw971, tw59, by decide +kernel, by decide +kernel, by decide +kernel⟩
def wp_X7_resell_38 (a : Nat) (p0 : Int32) (p1 : Int32) (p2 : Int32) (p3 : Int32) (post : Int32 → GH → Prop) (px : String → GH → Prop)  (g : GH) : Prop :=
px "java/lang/IllegalStateException" g
def wp_X7_resell (a : Nat) (p0 : Int32) (p1 : Int32) (p2 : Int32) (p3 : Int32) (g : GH) (post : Int32 → GH → Prop) (px : String → GH → Prop) : Prop :=
∃ o2, g a = some (8, o2) ∧
wp_X7_checkedCopy a p0 p1 g (fun r1 =>
wp_X7_checkBuyer p2 (
wp_X7_checkRange p3 0 100000 (
∃ o7, g r1 = some (3, o7) ∧
((¬ (fI o7 0) = 1 → wp_X7_resell_38 a p0 p1 p2 p3 post px g) ∧ ((fI o7 0) = 1 → ∃ o10, g r1 = some (3, o10) ∧
((¬ (fI o10 1) = p2 → ∃ o13, g r1 = some (3, o13) ∧
∃ o15, g a = some (8, o15) ∧
wp_X7_payBuyer (fI o13 1) (p3 - (p3 / 5)) o15 (fun o17 => ∀ g18, g18 = hu g a (8, o17) →
∃ o20, g18 a = some (8, o20) ∧
wp_X7_payBuyer p2 (-p3) o20 (fun o22 => ∀ g23, g23 = hu g18 a (8, o22) →
∃ o25, g23 r1 = some (3, o25) ∧
wp_X2_passTo p2 p3 o25 (fun o27 => ∀ g28, g28 = hu g23 r1 (3, o27) →
∀ a30, g28 a30 = none → ∀ g31, g31 = hu g28 a30 (5, fo0) →
∃ o34, g31 a30 = some (5, o34) ∧
wp_X4_init p0 ((-1)) (p3 / 5) o34 (fun o36 => ∀ g37, g37 = hu g31 a30 (5, o36) →
∃ o39, g37 a = some (8, o39) ∧
wp_X7_enter a a30 g37 (fun g41 =>
post (p3 / 5) g41)))))) ∧ ((fI o10 1) = p2 → wp_X7_resell_38 a p0 p1 p2 p3 post px g))))) (fun E => px E g)) (fun E => px E g)) (fun E => px E g)
set_option maxHeartbeats 4000000 in
set_option maxRecDepth 100000 in
theorem t_X7_resell_38 {X : gCx} {a : Nat}  {p0 : Int32} {p1 : Int32} {p2 : Int32} {p3 : Int32} {post : Int32 → GH → Prop} {px : String → GH → Prop}    (C : gC X cX7_resell RX7 (some .int) rm_X7_resell) (hn : xn X = 7) (hQ : gRet X (gQi (xY X) post) 6 805 ∨ gRex X (gQi (xY X) post) px 6 805) (hQx : gRex X (gQi (xY X) post) px 6 805) (hl : (yl (xY X)).stackTraces = false) (hno : ∀ x ∈ (xc X).exceptionTable.toList, False)    : ∀ (g : GH), wp_X7_resell_38 a p0 p1 p2 p3 post px g → gX X 4 24 38 [] [] g := by
  intro g w
  unfold wp_X7_resell_38 at w
  exact r_throwW (text := "the copy is not SOLD, or the buyer owns it") C hQx hl (fun x hx => (hno x hx).elim) thx_65.1 thx_65.2.1 thx_65.2.2.1 thx_65.2.2.2.1 (by decide +kernel) thx_65.2.2.2.2.1 thx_65.2.2.2.2.2 dX7_resell_38 dX7_resell_41 dX7_resell_42 dX7_resell_45 dX7_resell_48 ⟨Nat.le_of_ble_eq_true rfl, Nat.le_of_ble_eq_true rfl, Nat.le_of_ble_eq_true rfl, Nat.le_of_ble_eq_true rfl⟩ ⟨Nat.le_of_ble_eq_true rfl, Nat.le_of_ble_eq_true rfl⟩ w
set_option maxHeartbeats 4000000 in
set_option maxRecDepth 100000 in
theorem m_X7_resell {Y : gWx} {a : Nat}  {p0 : Int32} {p1 : Int32} {p2 : Int32} {p3 : Int32} {post : Int32 → GH → Prop} {px : String → GH → Prop} {g : GH}    (hl : (yl Y).stackTraces = false) (w : wp_X7_resell a p0 p1 p2 p3 g post px) : gMex Y yX7_resell cX7_resell 7 (some .int) rm_X7_resell [.ref a, .int p0, .int p1, .int p2, .int p3] g (gQi Y post) px 6 805 := by
  refine gm_ofx rfl (Nat.le_of_ble_eq_true rfl) ?_
  intro X hY hn C hno hQx
  subst hY
  have hQ := Or.inr (a := gRet X (gQi (xY X) post) 6 805) hQx
  have C : gC X cX7_resell RX7 (some .int) rm_X7_resell := C
  show gX X 0 0 0 [(0, .ref a), (1, .int p0), (2, .int p1), (3, .int p2), (4, .int p3)] [] g
  unfold wp_X7_resell at w
  obtain ⟨o2, e3, w⟩ := w
  refine r_aload_n C 0 dX7_resell_0 rfl (r_iload_n C 1 dX7_resell_1 rfl (r_iload_n C 2 dX7_resell_2 rfl (r_gxr (r_ruxV C dX7_resell_3 (m_X7_checkedCopy hl w) mt_X7_checkedCopy tw972 tw974 tw29 gcl_8.1 e3 rfl (stk := []) rfl (Nat.le_of_ble_eq_true rfl) ⟨rfl, rfl, ⟨Nat.le_of_ble_eq_true rfl, Nat.le_of_ble_eq_true rfl⟩, ⟨Nat.le_of_ble_eq_true rfl, Nat.le_of_ble_eq_true rfl⟩⟩) (fun E h4 hp => by obtain ⟨rfl, hp⟩ := hp; exact r_out C hQx (fun x hx => (hno x hx).elim) ⟨Nat.le_of_ble_eq_true rfl, Nat.le_of_ble_eq_true rfl⟩ hp) ?_)))
  intro r1 h4 hp
  obtain ⟨e9, w⟩ := hp
  rw [e9]
  refine r_astore C dX7_resell_6 (nlt hn (by decide)) rfl (r_iload_n C 4 dX7_resell_8 rfl (r_gxv (r_ruxS C dX7_resell_9 (m_X7_checkBuyer hl w) mt_X7_checkBuyer tw924 tw925 rfl (stk := []) rfl (Nat.le_of_ble_eq_true rfl) ⟨rfl, rfl, ⟨Nat.le_of_ble_eq_true rfl, Nat.le_of_ble_eq_true rfl⟩, ⟨Nat.le_of_ble_eq_true rfl, Nat.le_of_ble_eq_true rfl⟩⟩) (fun E h5 hp => by obtain ⟨rfl, hp⟩ := hp; exact r_out C hQx (fun x hx => (hno x hx).elim) ⟨Nat.le_of_ble_eq_true rfl, Nat.le_of_ble_eq_true rfl⟩ hp) ?_))
  intro  h5 hp
  obtain ⟨e9, w⟩ := hp
  rw [e9]
  refine r_iload C 5 dX7_resell_12 rfl (r_iconst C (v := 0) dX7_resell_14 (by decide) (r_ldc C dX7_resell_15 tw725 (r_gxv (r_ruxS C dX7_resell_17 (m_X7_checkRange hl w) mt_X7_checkRange tw301 tw302 rfl (stk := []) rfl (Nat.le_of_ble_eq_true rfl) ⟨rfl, rfl, ⟨Nat.le_of_ble_eq_true rfl, Nat.le_of_ble_eq_true rfl⟩, ⟨Nat.le_of_ble_eq_true rfl, Nat.le_of_ble_eq_true rfl⟩⟩) (fun E h6 hp => by obtain ⟨rfl, hp⟩ := hp; exact r_out C hQx (fun x hx => (hno x hx).elim) ⟨Nat.le_of_ble_eq_true rfl, Nat.le_of_ble_eq_true rfl⟩ hp) ?_)))
  intro  h6 hp
  obtain ⟨e9, w⟩ := hp
  rw [e9]
  obtain ⟨o7, e8, w⟩ := w
  refine r_aload C 0 dX7_resell_20 rfl (rg_X7_X2_state C dX7_resell_22 e8 (r_iconst C (v := 1) dX7_resell_25 (by decide) (r_icmp_ne C 38 dX7_resell_26 (by decide) (fun c9 => ?_) (fun c9 => ?_))))
  · have w := w.1 c9
    exact r_widen (Nat.le_of_ble_eq_true rfl) (Nat.le_of_ble_eq_true rfl) <| r_sub [] rfl (t_X7_resell_38 C hn hQ hQx hl hno _ w)
  · have w := w.2 c9
    obtain ⟨o10, e11, w⟩ := w
    refine r_aload C 0 dX7_resell_29 rfl (rg_X7_X2_owner C dX7_resell_31 e11 (r_iload_n C 4 dX7_resell_34 rfl (r_icmp_ne C 49 dX7_resell_35 (by decide) (fun c12 => ?_) (fun c12 => ?_))))
    · have w := w.1 c12
      obtain ⟨o13, e14, w⟩ := w
      obtain ⟨o15, e16, w⟩ := w
      refine r_iload C 5 dX7_resell_49 rfl (r_iconst C (v := 5) dX7_resell_51 (by decide) (r_idiv C dX7_resell_52 (by decide) (r_istore C dX7_resell_53 (nlt hn (by decide)) rfl (r_aload_n C 2 dX7_resell_55 rfl (r_aload C 1 dX7_resell_56 rfl (rg_X7_X2_owner C dX7_resell_58 e14 (r_iload C 6 dX7_resell_61 rfl (r_iload C 0 dX7_resell_63 rfl (r_isub C dX7_resell_65 (r_gov (r_runV C dX7_resell_66 (m_X7_payBuyer e16 w) mt_X7_payBuyer tw978 tw980 tw30 gcl_8.1 e16 rfl (stk := []) rfl (Nat.le_of_ble_eq_true rfl) ⟨rfl, rfl, ⟨Nat.le_of_ble_eq_true rfl, Nat.le_of_ble_eq_true rfl⟩, ⟨Nat.le_of_ble_eq_true rfl, Nat.le_of_ble_eq_true rfl⟩⟩) ?_))))))))))
      intro  h19 hp
      obtain ⟨o17, e9, w⟩ := hp
      obtain ⟨g18, rfl⟩ : ∃ z, z = h19 := ⟨_, rfl⟩
      have w := w _ e9
      obtain ⟨o20, e21, w⟩ := w
      refine r_aload_n C 2 dX7_resell_69 rfl (r_iload_n C 5 dX7_resell_70 rfl (r_iload C 6 dX7_resell_71 rfl (r_ineg C dX7_resell_73 (r_gov (r_runV C dX7_resell_74 (m_X7_payBuyer e21 w) mt_X7_payBuyer tw978 tw980 tw30 gcl_8.1 e21 rfl (stk := []) rfl (Nat.le_of_ble_eq_true rfl) ⟨rfl, rfl, ⟨Nat.le_of_ble_eq_true rfl, Nat.le_of_ble_eq_true rfl⟩, ⟨Nat.le_of_ble_eq_true rfl, Nat.le_of_ble_eq_true rfl⟩⟩) ?_))))
      intro  h24 hp
      obtain ⟨o22, e9, w⟩ := hp
      obtain ⟨g23, rfl⟩ : ∃ z, z = h24 := ⟨_, rfl⟩
      have w := w _ e9
      obtain ⟨o25, e26, w⟩ := w
      refine r_aload C 1 dX7_resell_77 rfl (r_iload_n C 5 dX7_resell_79 rfl (r_iload C 6 dX7_resell_80 rfl (r_gov (r_runV C dX7_resell_82 (m_X2_passTo e26 w) mt_X2_passTo tw930 tw931 tw932 gcl_3.1 e26 rfl (stk := []) rfl (Nat.le_of_ble_eq_true rfl) ⟨rfl, rfl, ⟨Nat.le_of_ble_eq_true rfl, Nat.le_of_ble_eq_true rfl⟩, ⟨Nat.le_of_ble_eq_true rfl, Nat.le_of_ble_eq_true rfl⟩⟩) ?_)))
      intro  h29 hp
      obtain ⟨o27, e9, w⟩ := hp
      obtain ⟨g28, rfl⟩ : ∃ z, z = h29 := ⟨_, rfl⟩
      have w := w _ e9
      refine r_aload_n C 2 dX7_resell_85 rfl (r_new C gcl_5 dX7_resell_86 ⟨tw934, tw935, tw84⟩ hsm_5 ⟨Nat.le_of_ble_eq_true rfl, Nat.le_of_ble_eq_true rfl⟩ (fun a30 n33 _ => ?_))
      obtain ⟨g31, e32⟩ : ∃ z, z = hu g28 a30 (5, fo0) := ⟨_, rfl⟩
      have w := w a30 n33 g31 e32
      refine gX_eq e32.symm ?_
      obtain ⟨o34, e35, w⟩ := w
      refine r_dup C dX7_resell_89 rfl (r_iload_n C 3 dX7_resell_90 rfl (r_iconst C (v := (-1)) dX7_resell_91 (by decide) (r_iload C 0 dX7_resell_92 rfl (r_gov (r_runI C dX7_resell_94 (m_X4_init e35 w) mt_X4_init tw936 tw937 rfl rfl (stk := [.ref a30, .ref a]) rfl (Nat.le_of_ble_eq_true rfl) ⟨rfl, rfl, ⟨Nat.le_of_ble_eq_true rfl, Nat.le_of_ble_eq_true rfl⟩, ⟨Nat.le_of_ble_eq_true rfl, Nat.le_of_ble_eq_true rfl⟩⟩) ?_))))
      intro  h38 hp
      obtain ⟨o36, e9, w⟩ := hp
      obtain ⟨g37, rfl⟩ : ∃ z, z = h38 := ⟨_, rfl⟩
      have w := w _ e9
      obtain ⟨o39, e40, w⟩ := w
      refine r_gov (r_runV C dX7_resell_97 (m_X7_enter w) mt_X7_enter tw953 tw955 tw27 gcl_8.1 e40 rfl (stk := []) rfl (Nat.le_of_ble_eq_true rfl) ⟨rfl, rfl, ⟨Nat.le_of_ble_eq_true rfl, Nat.le_of_ble_eq_true rfl⟩, ⟨Nat.le_of_ble_eq_true rfl, Nat.le_of_ble_eq_true rfl⟩⟩) ?_
      intro  h42 hp
      obtain ⟨g41, rfl⟩ : ∃ z, z = h42 := ⟨_, rfl⟩
      have w := hp
      exact r_iload C 0 dX7_resell_100 rfl (r_iret C hQ dX7_resell_102 rfl (vp_nar_int _) ⟨Nat.le_of_ble_eq_true rfl, Nat.le_of_ble_eq_true rfl⟩ w)
    · have w := w.2 c12
      exact r_widen (Nat.le_of_ble_eq_true rfl) (Nat.le_of_ble_eq_true rfl) <| r_sub [] rfl (t_X7_resell_38 C hn hQ hQx hl hno _ w)
def rm_X7_columnSet : Room := { frames := 0, cells := 0, slots := 0, locals := 0 }
theorem mt_X7_columnSet : gMt yX7_columnSet cX7_columnSet 2 (some .int) 2 := ⟨tw759, tw59, by decide +kernel, by decide +kernel, by decide +kernel⟩
def wp_X7_columnSet (p0 : Int32) (p1 : Int32)  (post : Int32 → Prop) : Prop :=
post (((1 <<< (p1 &&& 31)) - 1) <<< (p0 &&& 31))
set_option maxHeartbeats 4000000 in
set_option maxRecDepth 100000 in
theorem m_X7_columnSet {Y : gWx}  {p0 : Int32} {p1 : Int32} {post : Int32 → Prop} {g : GH}     (w : wp_X7_columnSet p0 p1 post) : gMet Y yX7_columnSet cX7_columnSet 2 (some .int) rm_X7_columnSet [.int p0, .int p1] g (gQi Y (fun r9 g9 => g9 = g ∧ post r9)) 0 0 := by
  refine gm_of rfl (Nat.le_of_ble_eq_true rfl) ?_
  intro X hY hn C hnm hQ
  subst hY
  have hQ : gRet X (gQi (xY X) (fun r9 g9 => g9 = g ∧ post r9)) 0 0 ∨ gRex X (gQi (xY X) (fun r9 g9 => g9 = g ∧ post r9)) (fun _ _ => False) 0 0 := Or.inl hQ
  have C : gC X cX7_columnSet RX7 (some .int) rm_X7_columnSet := C
  show gX X 0 0 0 [(0, .int p0), (1, .int p1)] [] g
  unfold wp_X7_columnSet at w
  exact r_iconst C (v := 1) dX7_columnSet_0 (by decide) (r_iload_n C 1 dX7_columnSet_1 rfl (r_ishl C dX7_columnSet_2 (r_iconst C (v := 1) dX7_columnSet_3 (by decide) (r_isub C dX7_columnSet_4 (r_iload_n C 0 dX7_columnSet_5 rfl (r_ishl C dX7_columnSet_6 (r_iret C hQ dX7_columnSet_7 rfl (vp_nar_int _) ⟨Nat.le_of_ble_eq_true rfl, Nat.le_of_ble_eq_true rfl⟩ ⟨rfl, w⟩)))))))
def rm_X1_columnsCovered : Room := { frames := 1, cells := 0, slots := 0, locals := 40 }
theorem mt_X1_columnsCovered : gMt yX1_columnsCovered cX1_columnsCovered 5 (some .int) 2 := ⟨tw767, tw63, by decide +kernel, by decide +kernel, by decide +kernel⟩
def wp_X1_columnsCovered (p0 : Int32) (p1 : Int32) (o : FO)  (post : Int32 → Prop) : Prop :=
vp_in p0 40 ∧
((p1 < (fA o 1 p0.toNatClampNeg) → post 0) ∧ (¬ p1 < (fA o 1 p0.toNatClampNeg) → vp_in p0 40 ∧
vp_in p0 40 ∧
((p1 < ((fA o 1 p0.toNatClampNeg) + (fA o 3 p0.toNatClampNeg)) → vp_in p0 40 ∧
vp_in p0 40 ∧
vp_in p0 40 ∧
(((if 24 < (fA o 0 p0.toNatClampNeg) + (fA o 2 p0.toNatClampNeg) then 24 else (fA o 0 p0.toNatClampNeg) + (fA o 2 p0.toNatClampNeg)) ≤ (if fA o 0 p0.toNatClampNeg < 0 then 0 else fA o 0 p0.toNatClampNeg) → post 0) ∧ (¬ (if 24 < (fA o 0 p0.toNatClampNeg) + (fA o 2 p0.toNatClampNeg) then 24 else (fA o 0 p0.toNatClampNeg) + (fA o 2 p0.toNatClampNeg)) ≤ (if fA o 0 p0.toNatClampNeg < 0 then 0 else fA o 0 p0.toNatClampNeg) → wp_X7_columnSet (if fA o 0 p0.toNatClampNeg < 0 then 0 else fA o 0 p0.toNatClampNeg) ((if 24 < (fA o 0 p0.toNatClampNeg) + (fA o 2 p0.toNatClampNeg) then 24 else (fA o 0 p0.toNatClampNeg) + (fA o 2 p0.toNatClampNeg)) - (if fA o 0 p0.toNatClampNeg < 0 then 0 else fA o 0 p0.toNatClampNeg)) (fun r10 =>
post r10)))) ∧ (¬ p1 < ((fA o 1 p0.toNatClampNeg) + (fA o 3 p0.toNatClampNeg)) → post 0))))
set_option maxHeartbeats 4000000 in
set_option maxRecDepth 100000 in
theorem m_X1_columnsCovered {Y : gWx} {a : Nat}  {p0 : Int32} {p1 : Int32} {post : Int32 → Prop} {g : GH} {o : FO} (hg : g a = some (2, o))    (w : wp_X1_columnsCovered p0 p1 o post) : gMet Y yX1_columnsCovered cX1_columnsCovered 5 (some .int) rm_X1_columnsCovered [.ref a, .int p0, .int p1] g (gQi Y (fun r9 g9 => g9 = g ∧ post r9)) 0 0 := by
  refine gm_of rfl (Nat.le_of_ble_eq_true rfl) ?_
  intro X hY hn C hnm hQ
  subst hY
  have hQ : gRet X (gQi (xY X) (fun r9 g9 => g9 = g ∧ post r9)) 0 0 ∨ gRex X (gQi (xY X) (fun r9 g9 => g9 = g ∧ post r9)) (fun _ _ => False) 0 0 := Or.inl hQ
  have C : gC X cX1_columnsCovered RX1 (some .int) rm_X1_columnsCovered := C
  show gX X 0 0 0 [(0, .ref a), (1, .int p0), (2, .int p1)] [] g
  unfold wp_X1_columnsCovered at w
  obtain ⟨i1, w⟩ := w
  refine r_iload_n C 2 dX1_columnsCovered_0 rfl (r_aload_n C 0 dX1_columnsCovered_1 rfl (rg_X1_X1_rows C dX1_columnsCovered_2 hg (r_iload_n C 1 dX1_columnsCovered_5 rfl (r_iald (ci := 2) (k := 1) C dX1_columnsCovered_6 rfl rfl hg i1 (r_icmp_lt C 27 dX1_columnsCovered_7 (by decide) (fun c2 => ?_) (fun c2 => ?_))))))
  · have w := w.1 c2
    exact r_iconst C (v := 0) dX1_columnsCovered_27 (by decide) (r_iret C hQ dX1_columnsCovered_28 rfl (vp_nar_int _) ⟨Nat.le_of_ble_eq_true rfl, Nat.le_of_ble_eq_true rfl⟩ ⟨rfl, w⟩)
  · have w := w.2 c2
    obtain ⟨i3, w⟩ := w
    obtain ⟨i4, w⟩ := w
    refine r_iload_n C 2 dX1_columnsCovered_10 rfl (r_aload_n C 0 dX1_columnsCovered_11 rfl (rg_X1_X1_rows C dX1_columnsCovered_12 hg (r_iload_n C 1 dX1_columnsCovered_15 rfl (r_iald (ci := 2) (k := 1) C dX1_columnsCovered_16 rfl rfl hg i3 (r_aload_n C 0 dX1_columnsCovered_17 rfl (rg_X1_X1_heights C dX1_columnsCovered_18 hg (r_iload_n C 1 dX1_columnsCovered_21 rfl (r_iald (ci := 2) (k := 3) C dX1_columnsCovered_22 rfl rfl hg i4 (r_iadd C dX1_columnsCovered_23 (r_icmp_lt C 29 dX1_columnsCovered_24 (by decide) (fun c5 => ?_) (fun c5 => ?_)))))))))))
    · have w := w.1 c5
      obtain ⟨i6, w⟩ := w
      obtain ⟨i7, w⟩ := w
      obtain ⟨i8, w⟩ := w
      refine r_aload_n C 0 dX1_columnsCovered_29 rfl (rg_X1_X1_columns C dX1_columnsCovered_30 hg (r_iload_n C 1 dX1_columnsCovered_33 rfl (r_iald (ci := 2) (k := 0) C dX1_columnsCovered_34 rfl rfl hg i6 (r_iconst C (v := 0) dX1_columnsCovered_35 (by decide) (r_mmax C dX1_columnsCovered_36 tw768 tw387 tw73 tw388 ⟨Nat.le_of_ble_eq_true rfl, Nat.le_of_ble_eq_true rfl, Nat.le_of_ble_eq_true rfl, Nat.le_of_ble_eq_true rfl⟩ (r_istore_n C dX1_columnsCovered_39 (nlt hn (by decide)) rfl (r_aload_n C 1 dX1_columnsCovered_40 rfl (rg_X1_X1_columns C dX1_columnsCovered_41 hg (r_iload_n C 2 dX1_columnsCovered_44 rfl (r_iald (ci := 2) (k := 0) C dX1_columnsCovered_45 rfl rfl hg i7 (r_aload_n C 1 dX1_columnsCovered_46 rfl (rg_X1_X1_widths C dX1_columnsCovered_47 hg (r_iload_n C 2 dX1_columnsCovered_50 rfl (r_iald (ci := 2) (k := 2) C dX1_columnsCovered_51 rfl rfl hg i8 (r_iadd C dX1_columnsCovered_52 (r_bipush C (v := 24) dX1_columnsCovered_53 (by decide) (r_mmin C dX1_columnsCovered_55 tw769 tw420 tw73 tw421 ⟨Nat.le_of_ble_eq_true rfl, Nat.le_of_ble_eq_true rfl, Nat.le_of_ble_eq_true rfl, Nat.le_of_ble_eq_true rfl⟩ (r_istore C dX1_columnsCovered_58 (nlt hn (by decide)) rfl (r_iload_n C 1 dX1_columnsCovered_60 rfl (r_iload C 0 dX1_columnsCovered_61 rfl (r_icmp_ge C 77 dX1_columnsCovered_63 (by decide) (fun c9 => ?_) (fun c9 => ?_))))))))))))))))))))))
      · have w := w.1 c9
        exact r_iconst C (v := 0) dX1_columnsCovered_77 (by decide) (r_iret C hQ dX1_columnsCovered_78 rfl (vp_nar_int _) ⟨Nat.le_of_ble_eq_true rfl, Nat.le_of_ble_eq_true rfl⟩ ⟨rfl, w⟩)
      · have w := w.2 c9
        refine r_iload_n C 1 dX1_columnsCovered_66 rfl (r_iload C 0 dX1_columnsCovered_67 rfl (r_iload_n C 1 dX1_columnsCovered_69 rfl (r_isub C dX1_columnsCovered_70 (r_goi (r_runSN C dX1_columnsCovered_71 (m_X7_columnSet w) mt_X7_columnSet tw770 tw758 rfl (stk := []) rfl (Nat.le_of_ble_eq_true rfl) ⟨rfl, rfl, ⟨Nat.le_of_ble_eq_true rfl, Nat.le_of_ble_eq_true rfl⟩, ⟨Nat.le_of_ble_eq_true rfl, Nat.le_of_ble_eq_true rfl⟩⟩) ?_))))
        intro r10 h11 hp
        obtain ⟨rfl, w⟩ := hp
        exact r_goto C 78 dX1_columnsCovered_74 (by decide) (r_iret C hQ dX1_columnsCovered_78 rfl (vp_nar_int _) ⟨Nat.le_of_ble_eq_true rfl, Nat.le_of_ble_eq_true rfl⟩ ⟨rfl, w⟩)
    · have w := w.2 c5
      exact r_iconst C (v := 0) dX1_columnsCovered_27 (by decide) (r_iret C hQ dX1_columnsCovered_28 rfl (vp_nar_int _) ⟨Nat.le_of_ble_eq_true rfl, Nat.le_of_ble_eq_true rfl⟩ ⟨rfl, w⟩)
def rm_X1_columnsShown : Room := { frames := 3, cells := 0, slots := 0, locals := 64 }
theorem mt_X1_columnsShown : gMt yX1_columnsShown cX1_columnsShown 7 (some .int) 3 := ⟨tw763, tw63, by decide +kernel, by decide +kernel, by decide +kernel⟩
def wp_X1_columnsShown_74 (p0 : Int32) (p1 : Int32) (p2 : Int64) (o : FO) (post : Int32 → Prop) (k22 : Int32 → Int32 → Prop) (x5 : Int32) (x6 : Int32)  : Prop :=
k22 x5 (x6 + 1)
def wp_X1_columnsShown_22 (p0 : Int32) (p1 : Int32) (p2 : Int64) (o : FO) (post : Int32 → Prop) : Nat → Int32 → Int32 → Prop
  | 0, _, _ => False
  | n + 1, x5, x6 =>
    ((40 ≤ x6 → post x5) ∧ (¬ 40 ≤ x6 → ((x5 = 0 → post x5) ∧ (¬ x5 = 0 → wp_X1_isShowing x6 p2 o (fun r8 =>
    ((r8 = 0 → wp_X1_columnsShown_74 p0 p1 p2 o post (fun x5 x6 => wp_X1_columnsShown_22 p0 p1 p2 o post n x5 x6) x5 x6) ∧ (¬ r8 = 0 → vp_in x6 40 ∧
    vp_in p0 40 ∧
    (((fA o 5 x6.toNatClampNeg) ≤ (fA o 5 p0.toNatClampNeg) → wp_X1_columnsShown_74 p0 p1 p2 o post (fun x5 x6 => wp_X1_columnsShown_22 p0 p1 p2 o post n x5 x6) x5 x6) ∧ (¬ (fA o 5 x6.toNatClampNeg) ≤ (fA o 5 p0.toNatClampNeg) → wp_X1_columnsCovered x6 p1 o (fun r14 =>
    wp_X1_columnsShown_74 p0 p1 p2 o post (fun x5 x6 => wp_X1_columnsShown_22 p0 p1 p2 o post n x5 x6) (x5 &&& (r14 ^^^ ((-1)))) x6))))))))))
def wp_X1_columnsShown (p0 : Int32) (p1 : Int32) (p2 : Int64) (o : FO)  (post : Int32 → Prop) : Prop :=
wp_X1_isShowing p0 p2 o (fun r1 =>
((¬ r1 = 0 → wp_X1_columnsCovered p0 p1 o (fun r4 =>
wp_X1_columnsShown_22 p0 p1 p2 o post 1000 r4 0)) ∧ (r1 = 0 → post 0)))
set_option maxHeartbeats 4000000 in
set_option maxRecDepth 100000 in
theorem t_X1_columnsShown_74 {X : gCx} {a : Nat}  {p0 : Int32} {p1 : Int32} {p2 : Int64} {post : Int32 → Prop} {g : GH} {o : FO} {k22 : Int32 → Int32 → Prop} (C : gC X cX1_columnsShown RX1 (some .int) rm_X1_columnsShown) (hn : xn X = 7) (hQ : gRet X (gQi (xY X) (fun r9 g9 => g9 = g ∧ post r9)) 0 0 ∨ gRex X (gQi (xY X) (fun r9 g9 => g9 = g ∧ post r9)) (fun _ _ => False) 0 0) (hg : g a = some (2, o))   (hk22 : ∀ (x5 : Int32) (x6 : Int32), k22 x5 x6 → gX X 0 0 22 [(0, .ref a), (1, .int p0), (2, .int p1), (3, .long p2), (5, .int x5), (6, .int x6)] [] g) : ∀ (x5 : Int32) (x6 : Int32), wp_X1_columnsShown_74 p0 p1 p2 o post k22 x5 x6 → gX X 0 0 74 [(0, .ref a), (1, .int p0), (2, .int p1), (3, .long p2), (5, .int x5), (6, .int x6)] [] g := by
  intro x5 x6 w
  unfold wp_X1_columnsShown_74 at w
  exact r_iinc C (v := x6 + 1) 5 dX1_columnsShown_74 rfl rfl (nlt hn (by decide)) rfl (r_goto C 22 dX1_columnsShown_77 (by decide) (r_sub [1, 2, 3, 4, 5, 0] rfl (hk22 _ _ w)))
set_option maxHeartbeats 4000000 in
set_option maxRecDepth 100000 in
theorem t_X1_columnsShown_22 {X : gCx} {a : Nat}  {p0 : Int32} {p1 : Int32} {p2 : Int64} {post : Int32 → Prop} {g : GH} {o : FO}  (C : gC X cX1_columnsShown RX1 (some .int) rm_X1_columnsShown) (hn : xn X = 7) (hQ : gRet X (gQi (xY X) (fun r9 g9 => g9 = g ∧ post r9)) 0 0 ∨ gRex X (gQi (xY X) (fun r9 g9 => g9 = g ∧ post r9)) (fun _ _ => False) 0 0) (hg : g a = some (2, o))    : ∀ (n : Nat) (x5 : Int32) (x6 : Int32), wp_X1_columnsShown_22 p0 p1 p2 o post n x5 x6 → gX X 0 0 22 [(0, .ref a), (1, .int p0), (2, .int p1), (3, .long p2), (5, .int x5), (6, .int x6)] [] g := by
  intro n
  induction n with
  | zero => intro x5 x6 w; exact w.elim
  | succ n ih =>
    intro x5 x6 w
    unfold wp_X1_columnsShown_22 at w
    refine r_iload C 5 dX1_columnsShown_22 rfl (r_bipush C (v := 40) dX1_columnsShown_24 (by decide) (r_icmp_ge C 80 dX1_columnsShown_26 (by decide) (fun c6 => ?_) (fun c6 => ?_)))
    · have w := w.1 c6
      exact r_iload C 4 dX1_columnsShown_80 rfl (r_iret C hQ dX1_columnsShown_82 rfl (vp_nar_int _) ⟨Nat.le_of_ble_eq_true rfl, Nat.le_of_ble_eq_true rfl⟩ ⟨rfl, w⟩)
    · have w := w.2 c6
      refine r_iload C 4 dX1_columnsShown_29 rfl (r_if_eq C 80 dX1_columnsShown_31 (by decide) (fun c7 => ?_) (fun c7 => ?_))
      · have w := w.1 c7
        exact r_iload C 4 dX1_columnsShown_80 rfl (r_iret C hQ dX1_columnsShown_82 rfl (vp_nar_int _) ⟨Nat.le_of_ble_eq_true rfl, Nat.le_of_ble_eq_true rfl⟩ ⟨rfl, w⟩)
      · have w := w.2 c7
        refine r_aload_n C 0 dX1_columnsShown_34 rfl (r_iload C 5 dX1_columnsShown_35 rfl (r_lload_n C 3 dX1_columnsShown_37 rfl (r_goi (r_runV C dX1_columnsShown_38 (m_X1_isShowing hg w) mt_X1_isShowing tw703 tw705 tw20 gcl_2.1 hg rfl (stk := []) rfl (Nat.le_of_ble_eq_true rfl) ⟨rfl, rfl, ⟨Nat.le_of_ble_eq_true rfl, Nat.le_of_ble_eq_true rfl⟩, ⟨Nat.le_of_ble_eq_true rfl, Nat.le_of_ble_eq_true rfl⟩⟩) ?_)))
        intro r8 h9 hp
        obtain ⟨rfl, w⟩ := hp
        refine r_if_eq C 74 dX1_columnsShown_41 (by decide) (fun c10 => ?_) (fun c10 => ?_)
        · have w := w.1 c10
          exact r_sub [0, 1, 2, 3, 4, 5] rfl (t_X1_columnsShown_74 C hn hQ hg ih _ _ w)
        · have w := w.2 c10
          obtain ⟨i11, w⟩ := w
          obtain ⟨i12, w⟩ := w
          refine r_aload_n C 0 dX1_columnsShown_44 rfl (rg_X1_X1_layers C dX1_columnsShown_45 hg (r_iload C 5 dX1_columnsShown_48 rfl (r_iald (ci := 2) (k := 5) C dX1_columnsShown_50 rfl rfl hg i11 (r_aload_n C 0 dX1_columnsShown_51 rfl (rg_X1_X1_layers C dX1_columnsShown_52 hg (r_iload_n C 1 dX1_columnsShown_55 rfl (r_iald (ci := 2) (k := 5) C dX1_columnsShown_56 rfl rfl hg i12 (r_icmp_le C 74 dX1_columnsShown_57 (by decide) (fun c13 => ?_) (fun c13 => ?_)))))))))
          · have w := w.1 c13
            exact r_sub [0, 1, 2, 3, 4, 5] rfl (t_X1_columnsShown_74 C hn hQ hg ih _ _ w)
          · have w := w.2 c13
            refine r_iload C 4 dX1_columnsShown_60 rfl (r_aload_n C 0 dX1_columnsShown_62 rfl (r_iload C 5 dX1_columnsShown_63 rfl (r_iload_n C 2 dX1_columnsShown_65 rfl (r_goi (r_runV C dX1_columnsShown_66 (m_X1_columnsCovered hg w) mt_X1_columnsCovered tw764 tw766 tw22 gcl_2.1 hg rfl (stk := [.int x5]) rfl (Nat.le_of_ble_eq_true rfl) ⟨rfl, rfl, ⟨Nat.le_of_ble_eq_true rfl, Nat.le_of_ble_eq_true rfl⟩, ⟨Nat.le_of_ble_eq_true rfl, Nat.le_of_ble_eq_true rfl⟩⟩) ?_))))
            intro r14 h15 hp
            obtain ⟨rfl, w⟩ := hp
            exact r_iconst C (v := (-1)) dX1_columnsShown_69 (by decide) (r_ixor C dX1_columnsShown_70 (r_iand C dX1_columnsShown_71 (r_istore C dX1_columnsShown_72 (nlt hn (by decide)) rfl (r_sub [1, 2, 3, 4, 0, 5] rfl (t_X1_columnsShown_74 C hn hQ hg ih _ _ w)))))
set_option maxHeartbeats 4000000 in
set_option maxRecDepth 100000 in
theorem m_X1_columnsShown {Y : gWx} {a : Nat}  {p0 : Int32} {p1 : Int32} {p2 : Int64} {post : Int32 → Prop} {g : GH} {o : FO} (hg : g a = some (2, o))    (w : wp_X1_columnsShown p0 p1 p2 o post) : gMet Y yX1_columnsShown cX1_columnsShown 7 (some .int) rm_X1_columnsShown [.ref a, .int p0, .int p1, .long p2] g (gQi Y (fun r9 g9 => g9 = g ∧ post r9)) 0 0 := by
  refine gm_of rfl (Nat.le_of_ble_eq_true rfl) ?_
  intro X hY hn C hnm hQ
  subst hY
  have hQ : gRet X (gQi (xY X) (fun r9 g9 => g9 = g ∧ post r9)) 0 0 ∨ gRex X (gQi (xY X) (fun r9 g9 => g9 = g ∧ post r9)) (fun _ _ => False) 0 0 := Or.inl hQ
  have C : gC X cX1_columnsShown RX1 (some .int) rm_X1_columnsShown := C
  show gX X 0 0 0 [(0, .ref a), (1, .int p0), (2, .int p1), (3, .long p2)] [] g
  unfold wp_X1_columnsShown at w
  refine r_aload_n C 0 dX1_columnsShown_0 rfl (r_iload_n C 1 dX1_columnsShown_1 rfl (r_lload_n C 3 dX1_columnsShown_2 rfl (r_goi (r_runV C dX1_columnsShown_3 (m_X1_isShowing hg w) mt_X1_isShowing tw703 tw705 tw20 gcl_2.1 hg rfl (stk := []) rfl (Nat.le_of_ble_eq_true rfl) ⟨rfl, rfl, ⟨Nat.le_of_ble_eq_true rfl, Nat.le_of_ble_eq_true rfl⟩, ⟨Nat.le_of_ble_eq_true rfl, Nat.le_of_ble_eq_true rfl⟩⟩) ?_)))
  intro r1 h2 hp
  obtain ⟨rfl, w⟩ := hp
  refine r_if_ne C 11 dX1_columnsShown_6 (by decide) (fun c3 => ?_) (fun c3 => ?_)
  · have w := w.1 c3
    refine r_aload_n C 0 dX1_columnsShown_11 rfl (r_iload_n C 1 dX1_columnsShown_12 rfl (r_iload_n C 2 dX1_columnsShown_13 rfl (r_goi (r_runV C dX1_columnsShown_14 (m_X1_columnsCovered hg w) mt_X1_columnsCovered tw764 tw766 tw22 gcl_2.1 hg rfl (stk := []) rfl (Nat.le_of_ble_eq_true rfl) ⟨rfl, rfl, ⟨Nat.le_of_ble_eq_true rfl, Nat.le_of_ble_eq_true rfl⟩, ⟨Nat.le_of_ble_eq_true rfl, Nat.le_of_ble_eq_true rfl⟩⟩) ?_)))
    intro r4 h5 hp
    obtain ⟨rfl, w⟩ := hp
    exact r_istore C dX1_columnsShown_17 (nlt hn (by decide)) rfl (r_iconst C (v := 0) dX1_columnsShown_19 (by decide) (r_istore C dX1_columnsShown_20 (nlt hn (by decide)) rfl (r_sub [2, 3, 4, 5, 1, 0] rfl (t_X1_columnsShown_22 C hn hQ hg 1000 _ _ w))))
  · have w := w.2 c3
    exact r_iconst C (v := 0) dX1_columnsShown_9 (by decide) (r_iret C hQ dX1_columnsShown_10 rfl (vp_nar_int _) ⟨Nat.le_of_ble_eq_true rfl, Nat.le_of_ble_eq_true rfl⟩ ⟨rfl, w⟩)
