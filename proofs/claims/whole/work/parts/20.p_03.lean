def p_T_refundAll_L2 (l0 : xN) (l1 : xN) (K2_50 : xH → Prop) (Q : xH → Prop) : Nat → Int32 → xH → Prop
  | 0, _, _ => False
  | f + 1, l2, h => (kd l0.1 = (1, 9)) ∧ (((hI h l0 11) ≤ l2 → K2_50 h) ∧ (¬ (hI h l0 11) ≤ l2 → (kd (hR h l0 2).1 = (5, 8)) ∧ (vp_in l2 (hS h (hR h l0 2) - 1)) ∧ (kd (hR h (hR h l0 2) l2.toNatClampNeg).1 = (1, 8)) ∧ (2 ≤ (hR h (hR h (hR h l0 2) l2.toNatClampNeg) 0).1) ∧ (2 ≤ l1.1) ∧ ((¬ (hR h (hR h (hR h l0 2) l2.toNatClampNeg) 0) = l1 → ∀ v9 : Int32, v9 = l2 + (1 : Int32) → (p_T_refundAll_L2 l0 l1 K2_50 Q f) v9 h) ∧ ((hR h (hR h (hR h l0 2) l2.toNatClampNeg) 0) = l1 → (vp_in l2 (hS h (hR h l0 2) - 1)) ∧ ((¬ (hI h (hR h (hR h l0 2) l2.toNatClampNeg) 6) = 0 → ∀ v13 : Int32, v13 = l2 + (1 : Int32) → (p_T_refundAll_L2 l0 l1 K2_50 Q f) v13 h) ∧ ((hI h (hR h (hR h l0 2) l2.toNatClampNeg) 6) = 0 → (vp_in l2 (hS h (hR h l0 2) - 1)) ∧ p_Ti_refund (hR h (hR h l0 2) l2.toNatClampNeg) h (fun h16 : xH => ∀ v17 : Int32, v17 = l2 + (1 : Int32) → (p_T_refundAll_L2 l0 l1 K2_50 Q f) v17 h16)))))))
set_option maxRecDepth 100000 in
set_option maxHeartbeats 4000000 in
theorem t_T_refundAll_L2 (l0 : xN) (l1 : xN) (K2_50 : xH → Prop) (Q : xH → Prop) (hK2_50 : ∀ (h : xH), K2_50 h → WP M_T_refundAll 50 [] [] h 0 (qv Q)) : ∀ (f : Nat) (l2 : Int32) (h : xH), p_T_refundAll_L2 l0 l1 K2_50 Q f l2 h → WP M_T_refundAll 2 [(0, xr l0), (1, xr l1), (2, xi l2)] [] h 0 (qv Q) := by
  intro f
  induction f with
  | zero => exact fun _ _ H => H.elim
  | succ f hB2 =>
    intro l2 h H
    unfold p_T_refundAll_L2 at H
    refine wp_iload_n 2 rfl rfl dX10_refundAll_2 ?_
    refine wp_aload_n 0 rfl rfl dX10_refundAll_3 ?_
    obtain ⟨q1, H⟩ := H
    refine wp_geti coX10 11 (Nat.le_of_ble_eq_true rfl) fl_X10_104 rfl q1 dX10_refundAll_4 ?_
    refine WP.at 7 rfl ?_
    refine wp_icmp_ge 50 (by decide) dX10_refundAll_7 (fun c2 => ?_) (fun c2 => ?_)
    · replace H := H.1 c2
      exact WP.pick [] rfl (hK2_50 _ H)
    · replace H := H.2 c2
      refine wp_aload_n 0 rfl rfl dX10_refundAll_10 ?_
      refine wp_getr coX10 2 (Nat.le_of_ble_eq_true rfl) fl_X10_23 rfl q1 dX10_refundAll_11 ?_
      refine wp_iload_n 2 rfl rfl dX10_refundAll_14 ?_
      obtain ⟨q3, H⟩ := H
      obtain ⟨q4, H⟩ := H
      refine wp_aaload q3 q4 dX10_refundAll_15 ?_
      obtain ⟨q5, H⟩ := H
      refine wp_getr coX9 0 (Nat.le_of_ble_eq_true rfl) fl_X10_191 rfl q5 dX10_refundAll_16 ?_
      refine wp_aload_n 1 rfl rfl dX10_refundAll_19 ?_
      refine WP.at 20 rfl ?_
      obtain ⟨q6, H⟩ := H
      obtain ⟨q7, H⟩ := H
      refine wp_acmp_ne q6 q7 44 (by decide) dX10_refundAll_20 (fun c8 => ?_) (fun c8 => ?_)
      · replace H := H.1 c8
        refine wp_iincN (1 : Int32) (by decide) rfl (Nat.le_of_ble_eq_true rfl) dX10_refundAll_44 (ls' := fun v9 => [(2, xi v9), (0, xr l0), (1, xr l1)]) (fun _ => rfl) (fun v9 e10 => ?_)
        replace H := H v9 e10
        refine WP.at 47 rfl ?_
        refine wp_goto 2 (by decide) dX10_refundAll_47 ?_
        exact WP.pick [1, 2, 0] rfl (hB2 v9 _ H)
      · replace H := H.2 c8
        refine wp_aload_n 0 rfl rfl dX10_refundAll_23 ?_
        refine wp_getr coX10 2 (Nat.le_of_ble_eq_true rfl) fl_X10_23 rfl q1 dX10_refundAll_24 ?_
        refine wp_iload_n 2 rfl rfl dX10_refundAll_27 ?_
        obtain ⟨q11, H⟩ := H
        refine wp_aaload q3 q11 dX10_refundAll_28 ?_
        refine wp_geti coX9 6 (Nat.le_of_ble_eq_true rfl) fl_X10_107 rfl q5 dX10_refundAll_29 ?_
        refine WP.at 32 rfl ?_
        refine wp_if_ne 44 (by decide) dX10_refundAll_32 (fun c12 => ?_) (fun c12 => ?_)
        · replace H := H.1 c12
          refine wp_iincN (1 : Int32) (by decide) rfl (Nat.le_of_ble_eq_true rfl) dX10_refundAll_44 (ls' := fun v13 => [(2, xi v13), (0, xr l0), (1, xr l1)]) (fun _ => rfl) (fun v13 e14 => ?_)
          replace H := H v13 e14
          refine WP.at 47 rfl ?_
          refine wp_goto 2 (by decide) dX10_refundAll_47 ?_
          exact WP.pick [1, 2, 0] rfl (hB2 v13 _ H)
        · replace H := H.2 c12
          refine wp_aload_n 0 rfl rfl dX10_refundAll_35 ?_
          refine wp_getr coX10 2 (Nat.le_of_ble_eq_true rfl) fl_X10_23 rfl q1 dX10_refundAll_36 ?_
          refine wp_iload_n 2 rfl rfl dX10_refundAll_39 ?_
          obtain ⟨q15, H⟩ := H
          refine wp_aaload q3 q15 dX10_refundAll_40 ?_
          refine WP.at 41 rfl ?_
          refine wp_cVv (M2 := M_Ti_refund) coX9 (hR h (hR h l0 2) l2.toNatClampNeg) q5 [] rfl lv_X10_431 mo_Ti_refund (Nat.le_of_ble_eq_true rfl) ⟨(Nat.le_of_ble_eq_true rfl), (Nat.le_of_ble_eq_true rfl)⟩ (Nat.le_of_ble_eq_true rfl) (Nat.le_of_ble_eq_true rfl) dX10_refundAll_41 (t_Ti_refund (hR h (hR h l0 2) l2.toNatClampNeg) _ _ H) (fun h16 H => ?_)
          refine wp_iincN (1 : Int32) (by decide) rfl (Nat.le_of_ble_eq_true rfl) dX10_refundAll_44 (ls' := fun v17 => [(2, xi v17), (0, xr l0), (1, xr l1)]) (fun _ => rfl) (fun v17 e18 => ?_)
          replace H := H v17 e18
          refine WP.at 47 rfl ?_
          refine wp_goto 2 (by decide) dX10_refundAll_47 ?_
          exact WP.pick [1, 2, 0] rfl (hB2 v17 _ H)
def p_T_refundAll (l0 : xN) (l1 : xN) (h : xH) (Q : xH → Prop) : Prop := (∃ f20, p_T_refundAll_L2 l0 l1 (fun (h19 : xH) => Q h19) Q f20 (0 : Int32) h)
set_option maxRecDepth 100000 in
set_option maxHeartbeats 4000000 in
theorem t_T_refundAll (l0 : xN) (l1 : xN) (h : xH) (Q : xH → Prop) (H : p_T_refundAll l0 l1 h Q) : WP M_T_refundAll 0 [(0, xr l0), (1, xr l1)] [] h 0 (qv Q) := by
  unfold p_T_refundAll at H
  refine wp_iconst (0 : Int32) (by decide) dX10_refundAll_0 ?_
  refine wp_istore_n 2 rfl (Nat.le_of_ble_eq_true rfl) dX10_refundAll_1 (ls' := [(2, xi (0 : Int32)), (0, xr l0), (1, xr l1)]) rfl ?_
  refine WP.at 2 rfl ?_
  obtain ⟨f20, H⟩ := H
  refine WP.pick [1, 2, 0] rfl (t_T_refundAll_L2 l0 l1 _ Q ?_ f20 (0 : Int32) _ H)
  · intro h19 H
    exact wp_vret trivial dX10_refundAll_50 H
def p_Se_enterInto_L2 (l0 : xN) (l1 : xN) (K2_33 : xH → Prop) (Q : xH → Prop) : Nat → Int32 → xH → Prop
  | 0, _, _ => False
  | f + 1, l2, h => (kd l0.1 = (1, 6)) ∧ (((hI h l0 2) ≤ l2 → K2_33 h) ∧ (¬ (hI h l0 2) ≤ l2 → (kd l1.1 = (1, 3)) ∧ (kd (hR h l0 0).1 = (2, 0)) ∧ (vp_in l2 (hS h (hR h l0 0) - 1)) ∧ (kd (hR h l0 1).1 = (2, 0)) ∧ (vp_in l2 (hS h (hR h l0 1) - 1)) ∧ (kd (hR h l1 7).1 = (2, 0)) ∧ (vp_in (hI h (hR h l0 0) l2.toNatClampNeg) (hS h (hR h l1 7) - 1)) ∧ ∀ h10 : xH, h10 = sI h (hR h l1 7) (hI h (hR h l0 0) l2.toNatClampNeg).toNatClampNeg (hI h (hR h l0 1) l2.toNatClampNeg) → ∀ v12 : Int32, v12 = l2 + (1 : Int32) → (p_Se_enterInto_L2 l0 l1 K2_33 Q f) v12 h10))
set_option maxRecDepth 100000 in
set_option maxHeartbeats 4000000 in
theorem t_Se_enterInto_L2 (l0 : xN) (l1 : xN) (K2_33 : xH → Prop) (Q : xH → Prop) (hK2_33 : ∀ (h : xH), K2_33 h → WP M_Se_enterInto 33 [(0, xr l0), (1, xr l1)] [] h 0 (qv Q)) : ∀ (f : Nat) (l2 : Int32) (h : xH), p_Se_enterInto_L2 l0 l1 K2_33 Q f l2 h → WP M_Se_enterInto 2 [(0, xr l0), (1, xr l1), (2, xi l2)] [] h 0 (qv Q) := by
  intro f
  induction f with
  | zero => exact fun _ _ H => H.elim
  | succ f hB2 =>
    intro l2 h H
    unfold p_Se_enterInto_L2 at H
    refine wp_iload_n 2 rfl rfl dX7_enterInto_2 ?_
    refine wp_aload_n 0 rfl rfl dX7_enterInto_3 ?_
    obtain ⟨q1, H⟩ := H
    refine wp_geti coX7 2 (Nat.le_of_ble_eq_true rfl) fl_X7_18 rfl q1 dX7_enterInto_4 ?_
    refine WP.at 7 rfl ?_
    refine wp_icmp_ge 33 (by decide) dX7_enterInto_7 (fun c2 => ?_) (fun c2 => ?_)
    · replace H := H.1 c2
      exact WP.pick [0, 1] rfl (hK2_33 _ H)
    · replace H := H.2 c2
      refine wp_aload_n 1 rfl rfl dX7_enterInto_10 ?_
      obtain ⟨q3, H⟩ := H
      refine wp_getr coX4 7 (Nat.le_of_ble_eq_true rfl) fl_X7_125 rfl q3 dX7_enterInto_11 ?_
      refine wp_aload_n 0 rfl rfl dX7_enterInto_14 ?_
      refine wp_getr coX7 0 (Nat.le_of_ble_eq_true rfl) fl_X7_9 rfl q1 dX7_enterInto_15 ?_
      refine wp_iload_n 2 rfl rfl dX7_enterInto_18 ?_
      obtain ⟨q4, H⟩ := H
      obtain ⟨q5, H⟩ := H
      refine wp_iaload q4 q5 dX7_enterInto_19 ?_
      refine wp_aload_n 0 rfl rfl dX7_enterInto_20 ?_
      refine WP.at 21 rfl ?_
      refine wp_getr coX7 1 (Nat.le_of_ble_eq_true rfl) fl_X7_15 rfl q1 dX7_enterInto_21 ?_
      refine wp_iload_n 2 rfl rfl dX7_enterInto_24 ?_
      obtain ⟨q6, H⟩ := H
      obtain ⟨q7, H⟩ := H
      refine wp_iaload q6 q7 dX7_enterInto_25 ?_
      obtain ⟨q8, H⟩ := H
      obtain ⟨q9, H⟩ := H
      refine wp_iastore q8 q9 dX7_enterInto_26 ?_
      refine wp_nh (fun h10 e11 => ?_)
      replace H := H h10 e11
      refine wp_iincN (1 : Int32) (by decide) rfl (Nat.le_of_ble_eq_true rfl) dX7_enterInto_27 (ls' := fun v12 => [(2, xi v12), (0, xr l0), (1, xr l1)]) (fun _ => rfl) (fun v12 e13 => ?_)
      replace H := H v12 e13
      refine WP.at 30 rfl ?_
      refine wp_goto 2 (by decide) dX7_enterInto_30 ?_
      exact WP.pick [1, 2, 0] rfl (hB2 v12 _ H)
def p_Se_enterInto (l0 : xN) (l1 : xN) (h : xH) (Q : xH → Prop) : Prop := (∃ f41, p_Se_enterInto_L2 l0 l1 (fun (h14 : xH) => (kd l1.1 = (1, 3)) ∧ (kd l0.1 = (1, 6)) ∧ (kd (hR h14 l1 8).1 = (2, 0)) ∧ (vp_in (3 : Int32) (hS h14 (hR h14 l1 8) - 1)) ∧ ∀ h19 : xH, h19 = sI h14 (hR h14 l1 8) (3 : Int32).toNatClampNeg (hI h14 l0 4) → (kd (hR h19 l1 8).1 = (2, 0)) ∧ (vp_in (5 : Int32) (hS h19 (hR h19 l1 8) - 1)) ∧ ∀ h23 : xH, h23 = sI h19 (hR h19 l1 8) (5 : Int32).toNatClampNeg (hI h19 l0 5) → (kd (hR h23 l1 8).1 = (2, 0)) ∧ (vp_in (6 : Int32) (hS h23 (hR h23 l1 8) - 1)) ∧ ∀ h27 : xH, h27 = sI h23 (hR h23 l1 8) (6 : Int32).toNatClampNeg (hI h23 l0 6) → (kd (hR h27 l1 8).1 = (2, 0)) ∧ (vp_in (7 : Int32) (hS h27 (hR h27 l1 8) - 1)) ∧ ∀ h31 : xH, h31 = sI h27 (hR h27 l1 8) (7 : Int32).toNatClampNeg (hI h27 l0 7) → (kd (hR h31 l1 8).1 = (2, 0)) ∧ (vp_in (8 : Int32) (hS h31 (hR h31 l1 8) - 1)) ∧ ∀ h35 : xH, h35 = sI h31 (hR h31 l1 8) (8 : Int32).toNatClampNeg (hI h31 l0 8) → (kd (hR h35 l1 8).1 = (2, 0)) ∧ (vp_in (10 : Int32) (hS h35 (hR h35 l1 8) - 1)) ∧ ∀ h39 : xH, h39 = sI h35 (hR h35 l1 8) (10 : Int32).toNatClampNeg (1 : Int32) → Q h39) Q f41 (0 : Int32) h)
set_option maxRecDepth 100000 in
set_option maxHeartbeats 4000000 in
theorem t_Se_enterInto (l0 : xN) (l1 : xN) (h : xH) (Q : xH → Prop) (H : p_Se_enterInto l0 l1 h Q) : WP M_Se_enterInto 0 [(0, xr l0), (1, xr l1)] [] h 0 (qv Q) := by
  unfold p_Se_enterInto at H
  refine wp_iconst (0 : Int32) (by decide) dX7_enterInto_0 ?_
  refine wp_istore_n 2 rfl (Nat.le_of_ble_eq_true rfl) dX7_enterInto_1 (ls' := [(2, xi (0 : Int32)), (0, xr l0), (1, xr l1)]) rfl ?_
  refine WP.at 2 rfl ?_
  obtain ⟨f41, H⟩ := H
  refine WP.pick [1, 2, 0] rfl (t_Se_enterInto_L2 l0 l1 _ Q ?_ f41 (0 : Int32) _ H)
  · intro h14 H
    refine wp_aload_n 1 rfl rfl dX7_enterInto_33 ?_
    obtain ⟨q15, H⟩ := H
    refine wp_getr coX4 8 (Nat.le_of_ble_eq_true rfl) fl_X7_59 rfl q15 dX7_enterInto_34 ?_
    refine wp_iconst (3 : Int32) (by decide) dX7_enterInto_37 ?_
    refine wp_aload_n 0 rfl rfl dX7_enterInto_38 ?_
    obtain ⟨q16, H⟩ := H
    refine wp_geti coX7 4 (Nat.le_of_ble_eq_true rfl) fl_X7_22 rfl q16 dX7_enterInto_39 ?_
    obtain ⟨q17, H⟩ := H
    obtain ⟨q18, H⟩ := H
    refine wp_iastore q17 q18 dX7_enterInto_42 ?_
    refine wp_nh (fun h19 e20 => ?_)
    replace H := H h19 e20
    refine wp_aload_n 1 rfl rfl dX7_enterInto_43 ?_
    refine WP.at 44 rfl ?_
    refine wp_getr coX4 8 (Nat.le_of_ble_eq_true rfl) fl_X7_59 rfl q15 dX7_enterInto_44 ?_
    refine wp_iconst (5 : Int32) (by decide) dX7_enterInto_47 ?_
    refine wp_aload_n 0 rfl rfl dX7_enterInto_48 ?_
    refine wp_geti coX7 5 (Nat.le_of_ble_eq_true rfl) fl_X7_25 rfl q16 dX7_enterInto_49 ?_
    obtain ⟨q21, H⟩ := H
    obtain ⟨q22, H⟩ := H
    refine wp_iastore q21 q22 dX7_enterInto_52 ?_
    refine wp_nh (fun h23 e24 => ?_)
    replace H := H h23 e24
    refine wp_aload_n 1 rfl rfl dX7_enterInto_53 ?_
    refine wp_getr coX4 8 (Nat.le_of_ble_eq_true rfl) fl_X7_59 rfl q15 dX7_enterInto_54 ?_
    refine wp_bipush (6 : Int32) (by decide) dX7_enterInto_57 ?_
    refine WP.at 59 rfl ?_
    refine wp_aload_n 0 rfl rfl dX7_enterInto_59 ?_
    refine wp_geti coX7 6 (Nat.le_of_ble_eq_true rfl) fl_X7_28 rfl q16 dX7_enterInto_60 ?_
    obtain ⟨q25, H⟩ := H
    obtain ⟨q26, H⟩ := H
    refine wp_iastore q25 q26 dX7_enterInto_63 ?_
    refine wp_nh (fun h27 e28 => ?_)
    replace H := H h27 e28
    refine wp_aload_n 1 rfl rfl dX7_enterInto_64 ?_
    refine wp_getr coX4 8 (Nat.le_of_ble_eq_true rfl) fl_X7_59 rfl q15 dX7_enterInto_65 ?_
    refine wp_bipush (7 : Int32) (by decide) dX7_enterInto_68 ?_
    refine wp_aload_n 0 rfl rfl dX7_enterInto_70 ?_
    refine wp_geti coX7 7 (Nat.le_of_ble_eq_true rfl) fl_X7_31 rfl q16 dX7_enterInto_71 ?_
    refine WP.at 74 rfl ?_
    obtain ⟨q29, H⟩ := H
    obtain ⟨q30, H⟩ := H
    refine wp_iastore q29 q30 dX7_enterInto_74 ?_
    refine wp_nh (fun h31 e32 => ?_)
    replace H := H h31 e32
    refine wp_aload_n 1 rfl rfl dX7_enterInto_75 ?_
    refine wp_getr coX4 8 (Nat.le_of_ble_eq_true rfl) fl_X7_59 rfl q15 dX7_enterInto_76 ?_
    refine wp_bipush (8 : Int32) (by decide) dX7_enterInto_79 ?_
    refine wp_aload_n 0 rfl rfl dX7_enterInto_81 ?_
    refine wp_geti coX7 8 (Nat.le_of_ble_eq_true rfl) fl_X7_34 rfl q16 dX7_enterInto_82 ?_
    obtain ⟨q33, H⟩ := H
    obtain ⟨q34, H⟩ := H
    refine wp_iastore q33 q34 dX7_enterInto_85 ?_
    refine wp_nh (fun h35 e36 => ?_)
    replace H := H h35 e36
    refine wp_aload_n 1 rfl rfl dX7_enterInto_86 ?_
    refine WP.at 87 rfl ?_
    refine wp_getr coX4 8 (Nat.le_of_ble_eq_true rfl) fl_X7_59 rfl q15 dX7_enterInto_87 ?_
    refine wp_bipush (10 : Int32) (by decide) dX7_enterInto_90 ?_
    refine wp_iconst (1 : Int32) (by decide) dX7_enterInto_92 ?_
    obtain ⟨q37, H⟩ := H
    obtain ⟨q38, H⟩ := H
    refine wp_iastore q37 q38 dX7_enterInto_93 ?_
    refine wp_nh (fun h39 e40 => ?_)
    replace H := H h39 e40
    exact wp_vret trivial dX7_enterInto_94 H
def p_T_carryOn_L16 (l0 : xN) (l2 : Int32) (K16_72 : xH → Prop) (Q : xH → Prop) : Nat → Int32 → xH → Prop
  | 0, _, _ => False
  | f + 1, l3, h => (kd l0.1 = (1, 9)) ∧ (((hI h l0 10) ≤ l3 → K16_72 h) ∧ (¬ (hI h l0 10) ≤ l3 → p_T_poolNumber l3 (3 : Int32) h (fun (v11 : Int32) (h10 : xH) => (kd (hR h l0 1).1 = (5, 3)) ∧ (vp_in v11 (hS h10 (hR h l0 1) - 1)) ∧ ∀ v14 : xN, v14 = hR h10 (hR h l0 1) v11.toNatClampNeg → ((v14.1 = 0 → ∀ v17 : Int32, v17 = l3 + (1 : Int32) → (p_T_carryOn_L16 l0 l2 K16_72 Q f) v17 h10) ∧ (¬ v14.1 = 0 → (kd (hR h10 l0 0).1 = (5, 4)) ∧ (vp_in l3 (hS h10 (hR h10 l0 0) - 1)) ∧ (kd (hR h10 (hR h10 l0 0) l3.toNatClampNeg).1 = (1, 4)) ∧ (((hI h10 (hR h10 (hR h10 l0 0) l3.toNatClampNeg) 7) = (2 : Int32) → ∀ v23 : Int32, v23 = l3 + (1 : Int32) → (p_T_carryOn_L16 l0 l2 K16_72 Q f) v23 h10) ∧ (¬ (hI h10 (hR h10 (hR h10 l0 0) l3.toNatClampNeg) 7) = (2 : Int32) → (kd v14.1 = (1, 3)) ∧ (kd (hR h10 v14 8).1 = (2, 0)) ∧ (vp_in (4 : Int32) (hS h10 (hR h10 v14 8) - 1)) ∧ (vp_in (4 : Int32) (hS h10 (hR h10 v14 8) - 1)) ∧ ∀ h29 : xH, h29 = sI h10 (hR h10 v14 8) (4 : Int32).toNatClampNeg ((hI h10 (hR h10 v14 8) (4 : Int32).toNatClampNeg) + l2) → Q h29)))))))
set_option maxRecDepth 100000 in
set_option maxHeartbeats 4000000 in
theorem t_T_carryOn_L16 (l0 : xN) (l2 : Int32) (K16_72 : xH → Prop) (Q : xH → Prop) (hK16_72 : ∀ (h : xH), K16_72 h → WP M_T_carryOn 72 [(0, xr l0), (2, xi l2)] [] h 0 (qv Q)) : ∀ (f : Nat) (l3 : Int32) (h : xH), p_T_carryOn_L16 l0 l2 K16_72 Q f l3 h → WP M_T_carryOn 16 [(0, xr l0), (2, xi l2), (3, xi l3)] [] h 0 (qv Q) := by
  intro f
  induction f with
  | zero => exact fun _ _ H => H.elim
  | succ f hB16 =>
    intro l3 h H
    unfold p_T_carryOn_L16 at H
    refine wp_iload_n 3 rfl rfl dX10_carryOn_16 ?_
    refine wp_aload_n 0 rfl rfl dX10_carryOn_17 ?_
    obtain ⟨q8, H⟩ := H
    refine wp_geti coX10 10 (Nat.le_of_ble_eq_true rfl) fl_X10_69 rfl q8 dX10_carryOn_18 ?_
    refine WP.at 21 rfl ?_
    refine wp_icmp_ge 72 (by decide) dX10_carryOn_21 (fun c9 => ?_) (fun c9 => ?_)
    · replace H := H.1 c9
      exact WP.pick [0, 1] rfl (hK16_72 _ H)
    · replace H := H.2 c9
      refine wp_aload_n 0 rfl rfl dX10_carryOn_24 ?_
      refine wp_getr coX10 1 (Nat.le_of_ble_eq_true rfl) fl_X10_17 rfl q8 dX10_carryOn_25 ?_
      refine wp_iload_n 3 rfl rfl dX10_carryOn_28 ?_
      refine wp_iconst (3 : Int32) (by decide) dX10_carryOn_29 ?_
      refine WP.at 30 rfl ?_
      refine wp_cSi (M2 := M_T_poolNumber) [xi l3, xi (3 : Int32)] rfl ls_X10_84 mo_T_poolNumber (Nat.le_of_ble_eq_true rfl) ⟨(Nat.le_of_ble_eq_true rfl), (Nat.le_of_ble_eq_true rfl)⟩ (Nat.le_of_ble_eq_true rfl) (Nat.le_of_ble_eq_true rfl) dX10_carryOn_30 (t_T_poolNumber l3 (3 : Int32) _ _ H) (fun v11 h10 H => ?_)
      obtain ⟨q12, H⟩ := H
      obtain ⟨q13, H⟩ := H
      refine wp_aaload q12 q13 dX10_carryOn_33 ?_
      refine wp_nmr (fun v14 e15 => ?_)
      replace H := H v14 e15
      refine wp_astore (Nat.le_of_ble_eq_true rfl) dX10_carryOn_34 (ls' := [(4, xr v14), (0, xr l0), (2, xi l2), (3, xi l3)]) rfl ?_
      refine WP.at 36 rfl ?_
      refine wp_aload rfl dX10_carryOn_36 ?_
      refine WP.at 38 rfl ?_
      refine wp_ifnull 66 (by decide) dX10_carryOn_38 (fun c16 => ?_) (fun c16 => ?_)
      · replace H := H.1 c16
        refine wp_iincN (1 : Int32) (by decide) rfl (Nat.le_of_ble_eq_true rfl) dX10_carryOn_66 (ls' := fun v17 => [(3, xi v17), (4, xr v14), (0, xr l0), (2, xi l2)]) (fun _ => rfl) (fun v17 e18 => ?_)
        replace H := H v17 e18
        refine WP.at 69 rfl ?_
        refine wp_goto 16 (by decide) dX10_carryOn_69 ?_
        exact WP.pick [2, 3, 0] rfl (hB16 v17 _ H)
      · replace H := H.2 c16
        refine wp_aload_n 0 rfl rfl dX10_carryOn_41 ?_
        refine wp_getr coX10 0 (Nat.le_of_ble_eq_true rfl) fl_X10_11 rfl q8 dX10_carryOn_42 ?_
        refine wp_iload_n 3 rfl rfl dX10_carryOn_45 ?_
        obtain ⟨q19, H⟩ := H
        obtain ⟨q20, H⟩ := H
        refine wp_aaload q19 q20 dX10_carryOn_46 ?_
        obtain ⟨q21, H⟩ := H
        refine wp_geti coX5 7 (Nat.le_of_ble_eq_true rfl) fl_X10_88 rfl q21 dX10_carryOn_47 ?_
        refine wp_iconst (2 : Int32) (by decide) dX10_carryOn_50 ?_
        refine WP.at 51 rfl ?_
        refine wp_icmp_eq 66 (by decide) dX10_carryOn_51 (fun c22 => ?_) (fun c22 => ?_)
        · replace H := H.1 c22
          refine wp_iincN (1 : Int32) (by decide) rfl (Nat.le_of_ble_eq_true rfl) dX10_carryOn_66 (ls' := fun v23 => [(3, xi v23), (4, xr v14), (0, xr l0), (2, xi l2)]) (fun _ => rfl) (fun v23 e24 => ?_)
          replace H := H v23 e24
          refine WP.at 69 rfl ?_
          refine wp_goto 16 (by decide) dX10_carryOn_69 ?_
          exact WP.pick [2, 3, 0] rfl (hB16 v23 _ H)
        · replace H := H.2 c22
          refine wp_aload rfl dX10_carryOn_54 ?_
          obtain ⟨q25, H⟩ := H
          refine wp_getr coX4 8 (Nat.le_of_ble_eq_true rfl) fl_X10_259 rfl q25 dX10_carryOn_56 ?_
          refine wp_iconst (4 : Int32) (by decide) dX10_carryOn_59 ?_
          refine wp_dup2 rfl rfl dX10_carryOn_60 ?_
          obtain ⟨q26, H⟩ := H
          obtain ⟨q27, H⟩ := H
          refine wp_iaload q26 q27 dX10_carryOn_61 ?_
          refine wp_iload_n 2 rfl rfl dX10_carryOn_62 ?_
          refine wp_iadd dX10_carryOn_63 ?_
          refine WP.at 64 rfl ?_
          obtain ⟨q28, H⟩ := H
          refine wp_iastore q26 q28 dX10_carryOn_64 ?_
          refine wp_nh (fun h29 e30 => ?_)
          replace H := H h29 e30
          exact wp_vret trivial dX10_carryOn_65 H
def p_T_carryOn (l0 : xN) (l1 : xN) (h : xH) (Q : xH → Prop) : Prop := (kd l1.1 = (1, 3)) ∧ (kd (hR h l1 8).1 = (2, 0)) ∧ (vp_in (5 : Int32) (hS h (hR h l1 8) - 1)) ∧ ∀ v4 : Int32, v4 = hI h (hR h l1 8) (5 : Int32).toNatClampNeg → ∀ v6 : Int32, v6 = ((hI h l1 0) / (4 : Int32)) + (1 : Int32) → (∃ f35, p_T_carryOn_L16 l0 v4 (fun (h31 : xH) => (kd l0.1 = (1, 9)) ∧ ∀ h33 : xH, h33 = sI h31 l0 12 ((hI h31 l0 12) + v4) → Q h33) Q f35 v6 h)
set_option maxRecDepth 100000 in
set_option maxHeartbeats 4000000 in
theorem t_T_carryOn (l0 : xN) (l1 : xN) (h : xH) (Q : xH → Prop) (H : p_T_carryOn l0 l1 h Q) : WP M_T_carryOn 0 [(0, xr l0), (1, xr l1)] [] h 0 (qv Q) := by
  unfold p_T_carryOn at H
  refine wp_aload_n 1 rfl rfl dX10_carryOn_0 ?_
  obtain ⟨q1, H⟩ := H
  refine wp_getr coX4 8 (Nat.le_of_ble_eq_true rfl) fl_X10_259 rfl q1 dX10_carryOn_1 ?_
  refine wp_iconst (5 : Int32) (by decide) dX10_carryOn_4 ?_
  obtain ⟨q2, H⟩ := H
  obtain ⟨q3, H⟩ := H
  refine wp_iaload q2 q3 dX10_carryOn_5 ?_
  refine wp_nm (fun v4 e5 => ?_)
  replace H := H v4 e5
  refine wp_istore_n 2 rfl (Nat.le_of_ble_eq_true rfl) dX10_carryOn_6 (ls' := [(2, xi v4), (0, xr l0), (1, xr l1)]) rfl ?_
  refine wp_aload_n 1 rfl rfl dX10_carryOn_7 ?_
  refine wp_geti coX4 0 (Nat.le_of_ble_eq_true rfl) fl_X10_209 rfl q1 dX10_carryOn_8 ?_
  refine WP.at 11 rfl ?_
  refine wp_iconst (4 : Int32) (by decide) dX10_carryOn_11 ?_
  refine wp_idiv (by decide) dX10_carryOn_12 ?_
  refine wp_iconst (1 : Int32) (by decide) dX10_carryOn_13 ?_
  refine wp_iadd dX10_carryOn_14 ?_
  refine wp_nm (fun v6 e7 => ?_)
  replace H := H v6 e7
  refine wp_istore_n 3 rfl (Nat.le_of_ble_eq_true rfl) dX10_carryOn_15 (ls' := [(3, xi v6), (2, xi v4), (0, xr l0), (1, xr l1)]) rfl ?_
  refine WP.at 16 rfl ?_
  obtain ⟨f35, H⟩ := H
  refine WP.pick [2, 1, 0] rfl (t_T_carryOn_L16 l0 v4 _ Q ?_ f35 v6 _ H)
  · intro h31 H
    refine wp_aload_n 0 rfl rfl dX10_carryOn_72 ?_
    refine wp_dup rfl dX10_carryOn_73 ?_
    obtain ⟨q32, H⟩ := H
    refine wp_geti coX10 12 (Nat.le_of_ble_eq_true rfl) fl_X10_262 rfl q32 dX10_carryOn_74 ?_
    refine wp_iload_n 2 rfl rfl dX10_carryOn_77 ?_
    refine wp_iadd dX10_carryOn_78 ?_
    refine wp_puti coX10 12 (Nat.le_of_ble_eq_true rfl) fl_X10_262 rfl rfl ⟨rfl, rfl⟩ q32 dX10_carryOn_79 ?_
    refine wp_nh (fun h33 e34 => ?_)
    replace H := H h33 e34
    exact wp_vret trivial dX10_carryOn_82 H
def p_T_settleIfRipe_j72 (l0 : xN) (l1 : xN) (h : xH) (Q : Int32 → xH → Prop) : Prop := (kd l0.1 = (1, 9)) ∧ (kd (hR h l0 7).1 = (1, 6)) ∧ p_Se_enterInto (hR h l0 7) l1 h (fun h17 : xH => p_T_carryOn l0 l1 h17 (fun h18 : xH => Q (1 : Int32) h18))
set_option maxRecDepth 100000 in
set_option maxHeartbeats 4000000 in
theorem t_T_settleIfRipe_j72 (l0 : xN) (l1 : xN) (h : xH) (Q : Int32 → xH → Prop) (H : p_T_settleIfRipe_j72 l0 l1 h Q) : WP M_T_settleIfRipe 72 [(0, xr l0), (1, xr l1)] [] h 0 (qi Q) := by
  unfold p_T_settleIfRipe_j72 at H
  refine wp_aload_n 0 rfl rfl dX10_settleIfRipe_72 ?_
  obtain ⟨q15, H⟩ := H
  refine wp_getr coX10 7 (Nat.le_of_ble_eq_true rfl) fl_X10_56 rfl q15 dX10_settleIfRipe_73 ?_
  refine wp_aload_n 1 rfl rfl dX10_settleIfRipe_76 ?_
  refine WP.at 77 rfl ?_
  obtain ⟨q16, H⟩ := H
  refine wp_cVv (M2 := M_Se_enterInto) coX7 (hR h l0 7) q16 [xr l1] rfl lv_X10_425 mo_Se_enterInto (Nat.le_of_ble_eq_true rfl) ⟨(Nat.le_of_ble_eq_true rfl), (Nat.le_of_ble_eq_true rfl)⟩ (Nat.le_of_ble_eq_true rfl) (Nat.le_of_ble_eq_true rfl) dX10_settleIfRipe_77 (t_Se_enterInto (hR h l0 7) l1 _ _ H) (fun h17 H => ?_)
  refine wp_aload_n 0 rfl rfl dX10_settleIfRipe_80 ?_
  refine wp_aload_n 1 rfl rfl dX10_settleIfRipe_81 ?_
  refine WP.at 82 rfl ?_
  refine wp_cVv (M2 := M_T_carryOn) coX10 l0 q15 [xr l1] rfl lv_X10_428 mo_T_carryOn (Nat.le_of_ble_eq_true rfl) ⟨(Nat.le_of_ble_eq_true rfl), (Nat.le_of_ble_eq_true rfl)⟩ (Nat.le_of_ble_eq_true rfl) (Nat.le_of_ble_eq_true rfl) dX10_settleIfRipe_82 (t_T_carryOn l0 l1 _ _ H) (fun h18 H => ?_)
  refine WP.at 85 rfl ?_
  refine wp_iconst (1 : Int32) (by decide) dX10_settleIfRipe_85 ?_
  exact wp_iret trivial dX10_settleIfRipe_86 H
def p_T_settleIfRipe (l0 : xN) (l1 : xN) (h : xH) (Q : Int32 → xH → Prop) : Prop := ((l1.1 = 0 → Q (0 : Int32) h) ∧ (¬ l1.1 = 0 → (kd l1.1 = (1, 3)) ∧ p_Po_isSettled l1 h (fun (v4 : Int32) (h3 : xH) => ((¬ v4 = 0 → Q (0 : Int32) h3) ∧ (v4 = 0 → (kd (hR h3 l1 2).1 = (1, 4)) ∧ ((¬ (hI h3 (hR h3 l1 2) 7) = (2 : Int32) → Q (0 : Int32) h3) ∧ ((hI h3 (hR h3 l1 2) 7) = (2 : Int32) → (kd (hR h3 l1 3).1 = (1, 4)) ∧ (((hI h3 (hR h3 l1 3) 7) = (2 : Int32) → (kd l0.1 = (1, 9)) ∧ (kd (hR h3 l0 7).1 = (1, 6)) ∧ p_Se_reckon (hR h3 l0 7) l1 (hR h3 (hR h3 l1 2) 3) (hR h3 (hR h3 l1 3) 3) h3 (fun h12 : xH => (kd (hR h12 l0 7).1 = (1, 6)) ∧ (((hI h12 (hR h12 l0 7) 3) = 0 → p_T_settleIfRipe_j72 l0 l1 h12 Q) ∧ (¬ (hI h12 (hR h12 l0 7) 3) = 0 → p_T_refundAll l0 l1 h12 (fun h19 : xH => p_T_settleIfRipe_j72 l0 l1 h19 Q))))) ∧ (¬ (hI h3 (hR h3 l1 3) 7) = (2 : Int32) → Q (0 : Int32) h3)))))))))
set_option maxRecDepth 100000 in
set_option maxHeartbeats 4000000 in
theorem t_T_settleIfRipe (l0 : xN) (l1 : xN) (h : xH) (Q : Int32 → xH → Prop) (H : p_T_settleIfRipe l0 l1 h Q) : WP M_T_settleIfRipe 0 [(0, xr l0), (1, xr l1)] [] h 0 (qi Q) := by
  unfold p_T_settleIfRipe at H
  refine wp_aload_n 1 rfl rfl dX10_settleIfRipe_0 ?_
  refine WP.at 1 rfl ?_
  refine wp_ifnull 33 (by decide) dX10_settleIfRipe_1 (fun c1 => ?_) (fun c1 => ?_)
  · replace H := H.1 c1
    refine wp_iconst (0 : Int32) (by decide) dX10_settleIfRipe_33 ?_
    exact wp_iret trivial dX10_settleIfRipe_34 H
  · replace H := H.2 c1
    refine wp_aload_n 1 rfl rfl dX10_settleIfRipe_4 ?_
    refine WP.at 5 rfl ?_
    obtain ⟨q2, H⟩ := H
    refine wp_cVi (M2 := M_Po_isSettled) coX4 l1 q2 [] rfl lv_X10_236 mo_Po_isSettled (Nat.le_of_ble_eq_true rfl) ⟨(Nat.le_of_ble_eq_true rfl), (Nat.le_of_ble_eq_true rfl)⟩ (Nat.le_of_ble_eq_true rfl) (Nat.le_of_ble_eq_true rfl) dX10_settleIfRipe_5 (t_Po_isSettled l1 _ _ H) (fun v4 h3 H => ?_)
    refine WP.at 8 rfl ?_
    refine wp_if_ne 33 (by decide) dX10_settleIfRipe_8 (fun c5 => ?_) (fun c5 => ?_)
    · replace H := H.1 c5
      refine wp_iconst (0 : Int32) (by decide) dX10_settleIfRipe_33 ?_
      exact wp_iret trivial dX10_settleIfRipe_34 H
    · replace H := H.2 c5
      refine wp_aload_n 1 rfl rfl dX10_settleIfRipe_11 ?_
      refine wp_getr coX4 2 (Nat.le_of_ble_eq_true rfl) fl_X10_173 rfl q2 dX10_settleIfRipe_12 ?_
      obtain ⟨q6, H⟩ := H
      refine wp_geti coX5 7 (Nat.le_of_ble_eq_true rfl) fl_X10_88 rfl q6 dX10_settleIfRipe_15 ?_
      refine wp_iconst (2 : Int32) (by decide) dX10_settleIfRipe_18 ?_
      refine WP.at 19 rfl ?_
      refine wp_icmp_ne 33 (by decide) dX10_settleIfRipe_19 (fun c7 => ?_) (fun c7 => ?_)
      · replace H := H.1 c7
        refine wp_iconst (0 : Int32) (by decide) dX10_settleIfRipe_33 ?_
        exact wp_iret trivial dX10_settleIfRipe_34 H
      · replace H := H.2 c7
        refine wp_aload_n 1 rfl rfl dX10_settleIfRipe_22 ?_
        refine wp_getr coX4 3 (Nat.le_of_ble_eq_true rfl) fl_X10_177 rfl q2 dX10_settleIfRipe_23 ?_
        obtain ⟨q8, H⟩ := H
        refine wp_geti coX5 7 (Nat.le_of_ble_eq_true rfl) fl_X10_88 rfl q8 dX10_settleIfRipe_26 ?_
        refine wp_iconst (2 : Int32) (by decide) dX10_settleIfRipe_29 ?_
        refine WP.at 30 rfl ?_
        refine wp_icmp_eq 35 (by decide) dX10_settleIfRipe_30 (fun c9 => ?_) (fun c9 => ?_)
        · replace H := H.1 c9
          refine wp_aload_n 0 rfl rfl dX10_settleIfRipe_35 ?_
          obtain ⟨q10, H⟩ := H
          refine wp_getr coX10 7 (Nat.le_of_ble_eq_true rfl) fl_X10_56 rfl q10 dX10_settleIfRipe_36 ?_
          refine wp_aload_n 1 rfl rfl dX10_settleIfRipe_39 ?_
          refine wp_aload_n 1 rfl rfl dX10_settleIfRipe_40 ?_
          refine wp_getr coX4 2 (Nat.le_of_ble_eq_true rfl) fl_X10_173 rfl q2 dX10_settleIfRipe_41 ?_
          refine wp_getr coX5 3 (Nat.le_of_ble_eq_true rfl) fl_X10_125 rfl q6 dX10_settleIfRipe_44 ?_
          refine wp_aload_n 1 rfl rfl dX10_settleIfRipe_47 ?_
          refine WP.at 48 rfl ?_
          refine wp_getr coX4 3 (Nat.le_of_ble_eq_true rfl) fl_X10_177 rfl q2 dX10_settleIfRipe_48 ?_
          refine wp_getr coX5 3 (Nat.le_of_ble_eq_true rfl) fl_X10_125 rfl q8 dX10_settleIfRipe_51 ?_
          refine WP.at 54 rfl ?_
          obtain ⟨q11, H⟩ := H
          refine wp_cVv (M2 := M_Se_reckon) coX7 (hR h3 l0 7) q11 [xr l1, xr (hR h3 (hR h3 l1 2) 3), xr (hR h3 (hR h3 l1 3) 3)] rfl lv_X10_252 mo_Se_reckon (Nat.le_of_ble_eq_true rfl) ⟨(Nat.le_of_ble_eq_true rfl), (Nat.le_of_ble_eq_true rfl)⟩ (Nat.le_of_ble_eq_true rfl) (Nat.le_of_ble_eq_true rfl) dX10_settleIfRipe_54 (t_Se_reckon (hR h3 l0 7) l1 (hR h3 (hR h3 l1 2) 3) (hR h3 (hR h3 l1 3) 3) _ _ H) (fun h12 H => ?_)
          refine wp_aload_n 0 rfl rfl dX10_settleIfRipe_57 ?_
          refine wp_getr coX10 7 (Nat.le_of_ble_eq_true rfl) fl_X10_56 rfl q10 dX10_settleIfRipe_58 ?_
          obtain ⟨q13, H⟩ := H
          refine wp_geti coX7 3 (Nat.le_of_ble_eq_true rfl) fl_X10_417 rfl q13 dX10_settleIfRipe_61 ?_
          refine WP.at 64 rfl ?_
          refine wp_if_eq 72 (by decide) dX10_settleIfRipe_64 (fun c14 => ?_) (fun c14 => ?_)
          · replace H := H.1 c14
            exact WP.pick [0, 1] rfl (t_T_settleIfRipe_j72 l0 l1 _ _ H)
          · replace H := H.2 c14
            refine wp_aload_n 0 rfl rfl dX10_settleIfRipe_67 ?_
            refine wp_aload_n 1 rfl rfl dX10_settleIfRipe_68 ?_
            refine WP.at 69 rfl ?_
            refine wp_cVv (M2 := M_T_refundAll) coX10 l0 q10 [xr l1] rfl lv_X10_421 mo_T_refundAll (Nat.le_of_ble_eq_true rfl) ⟨(Nat.le_of_ble_eq_true rfl), (Nat.le_of_ble_eq_true rfl)⟩ (Nat.le_of_ble_eq_true rfl) (Nat.le_of_ble_eq_true rfl) dX10_settleIfRipe_69 (t_T_refundAll l0 l1 _ _ H) (fun h19 H => ?_)
            refine WP.at 72 rfl ?_
            exact WP.pick [0, 1] rfl (t_T_settleIfRipe_j72 l0 l1 _ _ H)
        · replace H := H.2 c9
          refine wp_iconst (0 : Int32) (by decide) dX10_settleIfRipe_33 ?_
          exact wp_iret trivial dX10_settleIfRipe_34 H
def p_T_official_L69 (l0 : xN) (l1 : Int32) (K69_99 : Int32 → xH → Prop) (Q : Int32 → xH → Prop) : Nat → Int32 → Int32 → xH → Prop
  | 0, _, _, _ => False
  | f + 1, l3, l4, h => (((3 : Int32) < l4 → K69_99 l3 h) ∧ (¬ (3 : Int32) < l4 → (kd l0.1 = (1, 9)) ∧ p_T_poolNumber l1 l4 h (fun (v21 : Int32) (h20 : xH) => (kd (hR h l0 1).1 = (5, 3)) ∧ (vp_in v21 (hS h20 (hR h l0 1) - 1)) ∧ p_T_settleIfRipe l0 (hR h20 (hR h l0 1) v21.toNatClampNeg) h20 (fun (v25 : Int32) (h24 : xH) => ∀ v26 : Int32, v26 = l3 + v25 → ∀ v28 : Int32, v28 = l4 + (1 : Int32) → (p_T_official_L69 l0 l1 K69_99 Q f) v26 v28 h24))))
set_option maxRecDepth 100000 in
set_option maxHeartbeats 4000000 in
theorem t_T_official_L69 (l0 : xN) (l1 : Int32) (K69_99 : Int32 → xH → Prop) (Q : Int32 → xH → Prop) (hK69_99 : ∀ (x3 : Int32) (h : xH), K69_99 x3 h → WP M_T_official 99 [(0, xr l0), (3, xi x3)] [] h 0 (qi Q)) : ∀ (f : Nat) (l3 : Int32) (l4 : Int32) (h : xH), p_T_official_L69 l0 l1 K69_99 Q f l3 l4 h → WP M_T_official 69 [(0, xr l0), (1, xi l1), (3, xi l3), (4, xi l4)] [] h 0 (qi Q) := by
  intro f
  induction f with
  | zero => exact fun _ _ _ H => H.elim
  | succ f hB69 =>
    intro l3 l4 h H
    unfold p_T_official_L69 at H
    refine wp_iload rfl dX10_official_69 ?_
    refine wp_iconst (3 : Int32) (by decide) dX10_official_71 ?_
    refine WP.at 72 rfl ?_
    refine wp_icmp_gt 99 (by decide) dX10_official_72 (fun c18 => ?_) (fun c18 => ?_)
    · replace H := H.1 c18
      exact WP.pick [0, 2] rfl (hK69_99 l3 _ H)
    · replace H := H.2 c18
      refine wp_iload_n 3 rfl rfl dX10_official_75 ?_
      refine wp_aload_n 0 rfl rfl dX10_official_76 ?_
      refine wp_aload_n 0 rfl rfl dX10_official_77 ?_
      obtain ⟨q19, H⟩ := H
      refine wp_getr coX10 1 (Nat.le_of_ble_eq_true rfl) fl_X10_17 rfl q19 dX10_official_78 ?_
      refine wp_iload_n 1 rfl rfl dX10_official_81 ?_
      refine wp_iload rfl dX10_official_82 ?_
      refine WP.at 84 rfl ?_
      refine wp_cSi (M2 := M_T_poolNumber) [xi l1, xi l4] rfl ls_X10_84 mo_T_poolNumber (Nat.le_of_ble_eq_true rfl) ⟨(Nat.le_of_ble_eq_true rfl), (Nat.le_of_ble_eq_true rfl)⟩ (Nat.le_of_ble_eq_true rfl) (Nat.le_of_ble_eq_true rfl) dX10_official_84 (t_T_poolNumber l1 l4 _ _ H) (fun v21 h20 H => ?_)
      refine WP.at 87 rfl ?_
      obtain ⟨q22, H⟩ := H
      obtain ⟨q23, H⟩ := H
      refine wp_aaload q22 q23 dX10_official_87 ?_
      refine WP.at 88 rfl ?_
      refine wp_cVi (M2 := M_T_settleIfRipe) coX10 l0 q19 [xr (hR h20 (hR h l0 1) v21.toNatClampNeg)] rfl lv_X10_140 mo_T_settleIfRipe (Nat.le_of_ble_eq_true rfl) ⟨(Nat.le_of_ble_eq_true rfl), (Nat.le_of_ble_eq_true rfl)⟩ (Nat.le_of_ble_eq_true rfl) (Nat.le_of_ble_eq_true rfl) dX10_official_88 (t_T_settleIfRipe l0 (hR h20 (hR h l0 1) v21.toNatClampNeg) _ _ H) (fun v25 h24 H => ?_)
      refine wp_iadd dX10_official_91 ?_
      refine wp_nm (fun v26 e27 => ?_)
      replace H := H v26 e27
      refine wp_istore_n 3 rfl (Nat.le_of_ble_eq_true rfl) dX10_official_92 (ls' := [(3, xi v26), (0, xr l0), (1, xi l1), (4, xi l4)]) rfl ?_
      refine wp_iincN (1 : Int32) (by decide) rfl (Nat.le_of_ble_eq_true rfl) dX10_official_93 (ls' := fun v28 => [(4, xi v28), (3, xi v26), (0, xr l0), (1, xi l1)]) (fun _ => rfl) (fun v28 e29 => ?_)
      replace H := H v28 e29
      refine WP.at 96 rfl ?_
      refine wp_goto 69 (by decide) dX10_official_96 ?_
      exact WP.pick [2, 3, 1, 0] rfl (hB69 v26 v28 _ H)
def p_T_official (l0 : xN) (l1 : Int32) (h : xH) (Q : Int32 → xH → Prop) : Prop := (kd l0.1 = (1, 9)) ∧ p_T_findRace l0 l1 h (fun (v3 : xN) (h2 : xH) => ((¬ v3.1 = 0 → (kd v3.1 = (1, 4)) ∧ (((hI h2 v3 7) = (1 : Int32) → p_R_readFinish v3 h2 (fun h7 : xH => (kd (hR h7 v3 3).1 = (1, 2)) ∧ p_F_isRight (hR h7 v3 3) h7 (fun (v10 : Int32) (h9 : xH) => ((v10 = 0 → Q (-6 : Int32) h9) ∧ (¬ v10 = 0 → (kd (hR h9 v3 3).1 = (1, 2)) ∧ p_Jm_min (3 : Int32) (hI h9 v3 6) h9 (fun (v14 : Int32) (h13 : xH) => ((v14 ≤ (hI h9 (hR h9 v3 3) 2) → ∀ h16 : xH, h16 = sI h13 v3 7 (2 : Int32) → (∃ f36, p_T_official_L69 l0 l1 (fun (x30 : Int32) (h31 : xH) => (kd (hR h31 l0 1).1 = (5, 3)) ∧ (vp_in (48 : Int32) (hS h31 (hR h31 l0 1) - 1)) ∧ p_T_settleIfRipe l0 (hR h31 (hR h31 l0 1) (48 : Int32).toNatClampNeg) h31 (fun (v35 : Int32) (h34 : xH) => Q (x30 + v35) h34)) Q f36 (0 : Int32) (0 : Int32) h16)) ∧ (¬ v14 ≤ (hI h9 (hR h9 v3 3) 2) → Q (-6 : Int32) h13)))))))) ∧ (¬ (hI h2 v3 7) = (1 : Int32) → Q (-6 : Int32) h2))) ∧ (v3.1 = 0 → Q (-2 : Int32) h2)))
set_option maxRecDepth 100000 in
set_option maxHeartbeats 4000000 in
theorem t_T_official (l0 : xN) (l1 : Int32) (h : xH) (Q : Int32 → xH → Prop) (H : p_T_official l0 l1 h Q) : WP M_T_official 0 [(0, xr l0), (1, xi l1)] [] h 0 (qi Q) := by
  unfold p_T_official at H
  refine wp_aload_n 0 rfl rfl dX10_official_0 ?_
  refine wp_iload_n 1 rfl rfl dX10_official_1 ?_
  refine WP.at 2 rfl ?_
  obtain ⟨q1, H⟩ := H
  refine wp_cVr (M2 := M_T_findRace) coX10 l0 q1 [xi l1] rfl lv_X10_76 mo_T_findRace (Nat.le_of_ble_eq_true rfl) ⟨(Nat.le_of_ble_eq_true rfl), (Nat.le_of_ble_eq_true rfl)⟩ (Nat.le_of_ble_eq_true rfl) (Nat.le_of_ble_eq_true rfl) dX10_official_2 (t_T_findRace l0 l1 _ _ H) (fun v3 h2 H => ?_)
  refine wp_astore_n 2 rfl (Nat.le_of_ble_eq_true rfl) dX10_official_5 (ls' := [(2, xr v3), (0, xr l0), (1, xi l1)]) rfl ?_
  refine wp_aload_n 2 rfl rfl dX10_official_6 ?_
  refine WP.at 7 rfl ?_
  refine wp_ifnonnull 13 (by decide) dX10_official_7 (fun c4 => ?_) (fun c4 => ?_)
  · replace H := H.1 c4
    refine wp_aload_n 2 rfl rfl dX10_official_13 ?_
    obtain ⟨q5, H⟩ := H
    refine wp_geti coX5 7 (Nat.le_of_ble_eq_true rfl) fl_X10_88 rfl q5 dX10_official_14 ?_
    refine wp_iconst (1 : Int32) (by decide) dX10_official_17 ?_
    refine WP.at 18 rfl ?_
    refine wp_icmp_eq 24 (by decide) dX10_official_18 (fun c6 => ?_) (fun c6 => ?_)
    · replace H := H.1 c6
      refine wp_aload_n 2 rfl rfl dX10_official_24 ?_
      refine WP.at 25 rfl ?_
      refine wp_cVv (M2 := M_R_readFinish) coX5 v3 q5 [] rfl lv_X10_122 mo_R_readFinish (Nat.le_of_ble_eq_true rfl) ⟨(Nat.le_of_ble_eq_true rfl), (Nat.le_of_ble_eq_true rfl)⟩ (Nat.le_of_ble_eq_true rfl) (Nat.le_of_ble_eq_true rfl) dX10_official_25 (t_R_readFinish v3 _ _ H) (fun h7 H => ?_)
      refine wp_aload_n 2 rfl rfl dX10_official_28 ?_
      refine wp_getr coX5 3 (Nat.le_of_ble_eq_true rfl) fl_X10_125 rfl q5 dX10_official_29 ?_
      refine WP.at 32 rfl ?_
      obtain ⟨q8, H⟩ := H
      refine wp_cVi (M2 := M_F_isRight) coX2 (hR h7 v3 3) q8 [] rfl lv_X10_128 mo_F_isRight (Nat.le_of_ble_eq_true rfl) ⟨(Nat.le_of_ble_eq_true rfl), (Nat.le_of_ble_eq_true rfl)⟩ (Nat.le_of_ble_eq_true rfl) (Nat.le_of_ble_eq_true rfl) dX10_official_32 (t_F_isRight (hR h7 v3 3) _ _ H) (fun v10 h9 H => ?_)
      refine WP.at 35 rfl ?_
      refine wp_if_eq 56 (by decide) dX10_official_35 (fun c11 => ?_) (fun c11 => ?_)
      · replace H := H.1 c11
        refine wp_bipush (-6 : Int32) (by decide) dX10_official_56 ?_
        exact wp_iret trivial dX10_official_58 H
      · replace H := H.2 c11
        refine wp_aload_n 2 rfl rfl dX10_official_38 ?_
        refine wp_getr coX5 3 (Nat.le_of_ble_eq_true rfl) fl_X10_125 rfl q5 dX10_official_39 ?_
        obtain ⟨q12, H⟩ := H
        refine wp_geti coX2 2 (Nat.le_of_ble_eq_true rfl) fl_X10_132 rfl q12 dX10_official_42 ?_
        refine wp_iconst (3 : Int32) (by decide) dX10_official_45 ?_
        refine wp_aload_n 2 rfl rfl dX10_official_46 ?_
        refine wp_geti coX5 6 (Nat.le_of_ble_eq_true rfl) fl_X10_116 rfl q5 dX10_official_47 ?_
        refine WP.at 50 rfl ?_
        refine wp_cSi (M2 := M_Jm_min) [xi (3 : Int32), xi (hI h9 v3 6)] rfl ls_X10_135 mo_Jm_min (Nat.le_of_ble_eq_true rfl) ⟨(Nat.le_of_ble_eq_true rfl), (Nat.le_of_ble_eq_true rfl)⟩ (Nat.le_of_ble_eq_true rfl) (Nat.le_of_ble_eq_true rfl) dX10_official_50 (t_Jm_min (3 : Int32) (hI h9 v3 6) _ _ H) (fun v14 h13 H => ?_)
        refine WP.at 53 rfl ?_
        refine WP.at 53 rfl ?_
        refine wp_icmp_ge 59 (by decide) dX10_official_53 (fun c15 => ?_) (fun c15 => ?_)
        · replace H := H.1 c15
          refine wp_aload_n 2 rfl rfl dX10_official_59 ?_
          refine wp_iconst (2 : Int32) (by decide) dX10_official_60 ?_
          refine wp_puti coX5 7 (Nat.le_of_ble_eq_true rfl) fl_X10_88 rfl rfl ⟨rfl, rfl⟩ q5 dX10_official_61 ?_
          refine wp_nh (fun h16 e17 => ?_)
          replace H := H h16 e17
          refine wp_iconst (0 : Int32) (by decide) dX10_official_64 ?_
          refine wp_istore_n 3 rfl (Nat.le_of_ble_eq_true rfl) dX10_official_65 (ls' := [(3, xi (0 : Int32)), (2, xr v3), (0, xr l0), (1, xi l1)]) rfl ?_
          refine wp_iconst (0 : Int32) (by decide) dX10_official_66 ?_
          refine wp_istore (Nat.le_of_ble_eq_true rfl) dX10_official_67 (ls' := [(4, xi (0 : Int32)), (3, xi (0 : Int32)), (2, xr v3), (0, xr l0), (1, xi l1)]) rfl ?_
          refine WP.at 69 rfl ?_
          obtain ⟨f36, H⟩ := H
          refine WP.pick [3, 4, 1, 0] rfl (t_T_official_L69 l0 l1 _ Q ?_ f36 (0 : Int32) (0 : Int32) _ H)
          · intro x30 h31 H
            refine wp_iload_n 3 rfl rfl dX10_official_99 ?_
            refine wp_aload_n 0 rfl rfl dX10_official_100 ?_
            refine wp_aload_n 0 rfl rfl dX10_official_101 ?_
            refine wp_getr coX10 1 (Nat.le_of_ble_eq_true rfl) fl_X10_17 rfl q1 dX10_official_102 ?_
            refine wp_bipush (48 : Int32) (by decide) dX10_official_105 ?_
            obtain ⟨q32, H⟩ := H
            obtain ⟨q33, H⟩ := H
            refine wp_aaload q32 q33 dX10_official_107 ?_
            refine WP.at 108 rfl ?_
            refine wp_cVi (M2 := M_T_settleIfRipe) coX10 l0 q1 [xr (hR h31 (hR h31 l0 1) (48 : Int32).toNatClampNeg)] rfl lv_X10_140 mo_T_settleIfRipe (Nat.le_of_ble_eq_true rfl) ⟨(Nat.le_of_ble_eq_true rfl), (Nat.le_of_ble_eq_true rfl)⟩ (Nat.le_of_ble_eq_true rfl) (Nat.le_of_ble_eq_true rfl) dX10_official_108 (t_T_settleIfRipe l0 (hR h31 (hR h31 l0 1) (48 : Int32).toNatClampNeg) _ _ H) (fun v35 h34 H => ?_)
            refine WP.at 111 rfl ?_
            refine wp_iadd dX10_official_111 ?_
            exact wp_iret trivial dX10_official_112 H
        · replace H := H.2 c15
          refine wp_bipush (-6 : Int32) (by decide) dX10_official_56 ?_
          exact wp_iret trivial dX10_official_58 H
    · replace H := H.2 c6
      refine wp_bipush (-6 : Int32) (by decide) dX10_official_21 ?_
      exact wp_iret trivial dX10_official_23 H
  · replace H := H.2 c4
    refine wp_bipush (-2 : Int32) (by decide) dX10_official_10 ?_
    exact wp_iret trivial dX10_official_12 H
def p_M_areRight_L33 (l0 : xN) (l1 : Int32) (l2 : Int32) (l3 : Int32) (l4 : Int32) (K33_86 : Int32 → xH → Prop) (Q : Int32 → xH → Prop) : Nat → Int32 → Int32 → xH → Prop
  | 0, _, _, _ => False
  | f + 1, l5, l6, h => (kd l0.1 = (1, 10)) ∧ (kd (hR h l0 2).1 = (2, 0)) ∧ (vp_in l1 (hS h (hR h l0 2) - 1)) ∧ (((hI h (hR h l0 2) l1.toNatClampNeg) < l6 → K33_86 l5 h) ∧ (¬ (hI h (hR h l0 2) l1.toNatClampNeg) < l6 → (kd (hR h l0 5).1 = (2, 0)) ∧ (vp_in (((13 : Int32) * l1) + l6) (hS h (hR h l0 5) - 1)) ∧ ∀ v15 : Int32, v15 = hI h (hR h l0 5) (((13 : Int32) * l1) + l6).toNatClampNeg → ((v15 ≤ 0 → ∀ v18 : Int32, v18 = l5 + (0 : Int32) → ∀ v20 : Int32, v20 = l6 + (1 : Int32) → (p_M_areRight_L33 l0 l1 l2 l3 l4 K33_86 Q f) v18 v20 h) ∧ (¬ v15 ≤ 0 → ((l4 ≤ v15 → ∀ v23 : Int32, v23 = l5 + (0 : Int32) → ∀ v25 : Int32, v25 = l6 + (1 : Int32) → (p_M_areRight_L33 l0 l1 l2 l3 l4 K33_86 Q f) v23 v25 h) ∧ (¬ l4 ≤ v15 → ∀ v27 : Int32, v27 = l5 + (1 : Int32) → ∀ v29 : Int32, v29 = l6 + (1 : Int32) → (p_M_areRight_L33 l0 l1 l2 l3 l4 K33_86 Q f) v27 v29 h))))))
set_option maxRecDepth 100000 in
set_option maxHeartbeats 4000000 in
theorem t_M_areRight_L33 (l0 : xN) (l1 : Int32) (l2 : Int32) (l3 : Int32) (l4 : Int32) (K33_86 : Int32 → xH → Prop) (Q : Int32 → xH → Prop) (hK33_86 : ∀ (x5 : Int32) (h : xH), K33_86 x5 h → WP M_M_areRight 86 [(0, xr l0), (1, xi l1), (2, xi l2), (3, xi l3), (4, xi l4), (5, xi x5)] [] h 0 (qi Q)) : ∀ (f : Nat) (l5 : Int32) (l6 : Int32) (h : xH), p_M_areRight_L33 l0 l1 l2 l3 l4 K33_86 Q f l5 l6 h → WP M_M_areRight 33 [(0, xr l0), (1, xi l1), (2, xi l2), (3, xi l3), (4, xi l4), (5, xi l5), (6, xi l6)] [] h 0 (qi Q) := by
  intro f
  induction f with
  | zero => exact fun _ _ _ H => H.elim
  | succ f hB33 =>
    intro l5 l6 h H
    unfold p_M_areRight_L33 at H
    refine wp_iload rfl dX11_areRight_33 ?_
    refine wp_aload_n 0 rfl rfl dX11_areRight_35 ?_
    obtain ⟨q9, H⟩ := H
    refine wp_getr coX11 2 (Nat.le_of_ble_eq_true rfl) fl_X11_13 rfl q9 dX11_areRight_36 ?_
    refine wp_iload_n 1 rfl rfl dX11_areRight_39 ?_
    obtain ⟨q10, H⟩ := H
    obtain ⟨q11, H⟩ := H
    refine wp_iaload q10 q11 dX11_areRight_40 ?_
    refine WP.at 41 rfl ?_
    refine wp_icmp_gt 86 (by decide) dX11_areRight_41 (fun c12 => ?_) (fun c12 => ?_)
    · replace H := H.1 c12
      exact WP.pick [0, 1, 2, 3, 4, 5] rfl (hK33_86 l5 _ H)
    · replace H := H.2 c12
      refine wp_aload_n 0 rfl rfl dX11_areRight_44 ?_
      refine wp_getr coX11 5 (Nat.le_of_ble_eq_true rfl) fl_X11_23 rfl q9 dX11_areRight_45 ?_
      refine wp_bipush (13 : Int32) (by decide) dX11_areRight_48 ?_
      refine wp_iload_n 1 rfl rfl dX11_areRight_50 ?_
      refine wp_imul dX11_areRight_51 ?_
      refine wp_iload rfl dX11_areRight_52 ?_
      refine wp_iadd dX11_areRight_54 ?_
      refine WP.at 55 rfl ?_
      obtain ⟨q13, H⟩ := H
      obtain ⟨q14, H⟩ := H
      refine wp_iaload q13 q14 dX11_areRight_55 ?_
      refine wp_nm (fun v15 e16 => ?_)
      replace H := H v15 e16
      refine wp_istore (Nat.le_of_ble_eq_true rfl) dX11_areRight_56 (ls' := [(7, xi v15), (0, xr l0), (1, xi l1), (2, xi l2), (3, xi l3), (4, xi l4), (5, xi l5), (6, xi l6)]) rfl ?_
      refine wp_iload rfl dX11_areRight_58 ?_
      refine wp_iload rfl dX11_areRight_60 ?_
      refine WP.at 62 rfl ?_
      refine wp_if_le 76 (by decide) dX11_areRight_62 (fun c17 => ?_) (fun c17 => ?_)
      · replace H := H.1 c17
        refine wp_iconst (0 : Int32) (by decide) dX11_areRight_76 ?_
        refine wp_iadd dX11_areRight_77 ?_
        refine wp_nm (fun v18 e19 => ?_)
        replace H := H v18 e19
        refine wp_istore (Nat.le_of_ble_eq_true rfl) dX11_areRight_78 (ls' := [(5, xi v18), (7, xi v15), (0, xr l0), (1, xi l1), (2, xi l2), (3, xi l3), (4, xi l4), (6, xi l6)]) rfl ?_
        refine wp_iincN (1 : Int32) (by decide) rfl (Nat.le_of_ble_eq_true rfl) dX11_areRight_80 (ls' := fun v20 => [(6, xi v20), (5, xi v18), (7, xi v15), (0, xr l0), (1, xi l1), (2, xi l2), (3, xi l3), (4, xi l4)]) (fun _ => rfl) (fun v20 e21 => ?_)
        replace H := H v20 e21
        refine WP.at 83 rfl ?_
        refine wp_goto 33 (by decide) dX11_areRight_83 ?_
        exact WP.pick [3, 4, 5, 6, 7, 1, 0] rfl (hB33 v18 v20 _ H)
      · replace H := H.2 c17
        refine wp_iload rfl dX11_areRight_65 ?_
        refine wp_iload rfl dX11_areRight_67 ?_
        refine WP.at 69 rfl ?_
        refine wp_icmp_ge 76 (by decide) dX11_areRight_69 (fun c22 => ?_) (fun c22 => ?_)
        · replace H := H.1 c22
          refine wp_iconst (0 : Int32) (by decide) dX11_areRight_76 ?_
          refine wp_iadd dX11_areRight_77 ?_
          refine wp_nm (fun v23 e24 => ?_)
          replace H := H v23 e24
          refine wp_istore (Nat.le_of_ble_eq_true rfl) dX11_areRight_78 (ls' := [(5, xi v23), (7, xi v15), (0, xr l0), (1, xi l1), (2, xi l2), (3, xi l3), (4, xi l4), (6, xi l6)]) rfl ?_
          refine wp_iincN (1 : Int32) (by decide) rfl (Nat.le_of_ble_eq_true rfl) dX11_areRight_80 (ls' := fun v25 => [(6, xi v25), (5, xi v23), (7, xi v15), (0, xr l0), (1, xi l1), (2, xi l2), (3, xi l3), (4, xi l4)]) (fun _ => rfl) (fun v25 e26 => ?_)
          replace H := H v25 e26
          refine WP.at 83 rfl ?_
          refine wp_goto 33 (by decide) dX11_areRight_83 ?_
          exact WP.pick [3, 4, 5, 6, 7, 1, 0] rfl (hB33 v23 v25 _ H)
        · replace H := H.2 c22
          refine wp_iconst (1 : Int32) (by decide) dX11_areRight_72 ?_
          refine WP.at 73 rfl ?_
          refine wp_goto 77 (by decide) dX11_areRight_73 ?_
          refine wp_iadd dX11_areRight_77 ?_
          refine wp_nm (fun v27 e28 => ?_)
          replace H := H v27 e28
          refine wp_istore (Nat.le_of_ble_eq_true rfl) dX11_areRight_78 (ls' := [(5, xi v27), (7, xi v15), (0, xr l0), (1, xi l1), (2, xi l2), (3, xi l3), (4, xi l4), (6, xi l6)]) rfl ?_
          refine wp_iincN (1 : Int32) (by decide) rfl (Nat.le_of_ble_eq_true rfl) dX11_areRight_80 (ls' := fun v29 => [(6, xi v29), (5, xi v27), (7, xi v15), (0, xr l0), (1, xi l1), (2, xi l2), (3, xi l3), (4, xi l4)]) (fun _ => rfl) (fun v29 e30 => ?_)
          replace H := H v29 e30
          refine WP.at 83 rfl ?_
          refine wp_goto 33 (by decide) dX11_areRight_83 ?_
          exact WP.pick [3, 4, 5, 6, 7, 1, 0] rfl (hB33 v27 v29 _ H)
def p_M_areRight_j102 (l0 : xN) (l1 : Int32) (l2 : Int32) (l3 : Int32) (l4 : Int32) (B4 : Int32 → Int32 → xH → Prop) (h : xH) (Q : Int32 → xH → Prop) : Prop := ((l4 ≤ 0 → ∀ v35 : Int32, v35 = l2 + (0 : Int32) → ∀ v37 : Int32, v37 = l3 + (1 : Int32) → B4 v35 v37 h) ∧ (¬ l4 ≤ 0 → ∀ v39 : Int32, v39 = l2 + (1 : Int32) → ∀ v41 : Int32, v41 = l3 + (1 : Int32) → B4 v39 v41 h))
set_option maxRecDepth 100000 in
set_option maxHeartbeats 4000000 in
theorem t_M_areRight_j102 (l0 : xN) (l1 : Int32) (l2 : Int32) (l3 : Int32) (l4 : Int32) (B4 : Int32 → Int32 → xH → Prop) (h : xH) (Q : Int32 → xH → Prop) (hB4 : ∀ (x2 : Int32) (x3 : Int32) (h : xH), B4 x2 x3 h → WP M_M_areRight 4 [(0, xr l0), (1, xi l1), (2, xi x2), (3, xi x3)] [] h 0 (qi Q)) (H : p_M_areRight_j102 l0 l1 l2 l3 l4 B4 h Q) : WP M_M_areRight 102 [(0, xr l0), (1, xi l1), (2, xi l2), (3, xi l3), (4, xi l4)] [] h 0 (qi Q) := by
  unfold p_M_areRight_j102 at H
  refine wp_iload_n 2 rfl rfl dX11_areRight_102 ?_
  refine wp_iload rfl dX11_areRight_103 ?_
  refine WP.at 105 rfl ?_
  refine wp_if_le 112 (by decide) dX11_areRight_105 (fun c34 => ?_) (fun c34 => ?_)
  · replace H := H.1 c34
    refine wp_iconst (0 : Int32) (by decide) dX11_areRight_112 ?_
    refine wp_iadd dX11_areRight_113 ?_
    refine wp_nm (fun v35 e36 => ?_)
    replace H := H v35 e36
    refine wp_istore_n 2 rfl (Nat.le_of_ble_eq_true rfl) dX11_areRight_114 (ls' := [(2, xi v35), (0, xr l0), (1, xi l1), (3, xi l3), (4, xi l4)]) rfl ?_
    refine wp_iincN (1 : Int32) (by decide) rfl (Nat.le_of_ble_eq_true rfl) dX11_areRight_115 (ls' := fun v37 => [(3, xi v37), (2, xi v35), (0, xr l0), (1, xi l1), (4, xi l4)]) (fun _ => rfl) (fun v37 e38 => ?_)
    replace H := H v37 e38
    refine WP.at 118 rfl ?_
    refine wp_goto 4 (by decide) dX11_areRight_118 ?_
    exact WP.pick [2, 3, 1, 0] rfl (hB4 v35 v37 _ H)
  · replace H := H.2 c34
    refine wp_iconst (1 : Int32) (by decide) dX11_areRight_108 ?_
    refine WP.at 109 rfl ?_
    refine wp_goto 113 (by decide) dX11_areRight_109 ?_
    refine wp_iadd dX11_areRight_113 ?_
    refine wp_nm (fun v39 e40 => ?_)
    replace H := H v39 e40
    refine wp_istore_n 2 rfl (Nat.le_of_ble_eq_true rfl) dX11_areRight_114 (ls' := [(2, xi v39), (0, xr l0), (1, xi l1), (3, xi l3), (4, xi l4)]) rfl ?_
    refine wp_iincN (1 : Int32) (by decide) rfl (Nat.le_of_ble_eq_true rfl) dX11_areRight_115 (ls' := fun v41 => [(3, xi v41), (2, xi v39), (0, xr l0), (1, xi l1), (4, xi l4)]) (fun _ => rfl) (fun v41 e42 => ?_)
    replace H := H v41 e42
    refine WP.at 118 rfl ?_
    refine wp_goto 4 (by decide) dX11_areRight_118 ?_
    exact WP.pick [2, 3, 1, 0] rfl (hB4 v39 v41 _ H)
def p_M_areRight_L4 (l0 : xN) (l1 : Int32) (K4_121 : Int32 → xH → Prop) (Q : Int32 → xH → Prop) : Nat → Int32 → Int32 → xH → Prop
  | 0, _, _, _ => False
  | f + 1, l2, l3, h => (kd l0.1 = (1, 10)) ∧ (kd (hR h l0 2).1 = (2, 0)) ∧ (vp_in l1 (hS h (hR h l0 2) - 1)) ∧ (((hI h (hR h l0 2) l1.toNatClampNeg) < l3 → K4_121 l2 h) ∧ (¬ (hI h (hR h l0 2) l1.toNatClampNeg) < l3 → (kd (hR h l0 5).1 = (2, 0)) ∧ (vp_in (((13 : Int32) * l1) + l3) (hS h (hR h l0 5) - 1)) ∧ ∀ v7 : Int32, v7 = hI h (hR h l0 5) (((13 : Int32) * l1) + l3).toNatClampNeg → (∃ f44, p_M_areRight_L33 l0 l1 l2 l3 v7 (fun (x31 : Int32) (h32 : xH) => ((v7 ≤ 0 → p_M_areRight_j102 l0 l1 l2 l3 v7 (p_M_areRight_L4 l0 l1 K4_121 Q f) h32 Q) ∧ (¬ v7 ≤ 0 → ((x31 = (v7 - (1 : Int32)) → p_M_areRight_j102 l0 l1 l2 l3 v7 (p_M_areRight_L4 l0 l1 K4_121 Q f) h32 Q) ∧ (¬ x31 = (v7 - (1 : Int32)) → Q (0 : Int32) h32))))) Q f44 (0 : Int32) (1 : Int32) h)))
set_option maxRecDepth 100000 in
set_option maxHeartbeats 4000000 in
theorem t_M_areRight_L4 (l0 : xN) (l1 : Int32) (K4_121 : Int32 → xH → Prop) (Q : Int32 → xH → Prop) (hK4_121 : ∀ (x2 : Int32) (h : xH), K4_121 x2 h → WP M_M_areRight 121 [(0, xr l0), (1, xi l1), (2, xi x2)] [] h 0 (qi Q)) : ∀ (f : Nat) (l2 : Int32) (l3 : Int32) (h : xH), p_M_areRight_L4 l0 l1 K4_121 Q f l2 l3 h → WP M_M_areRight 4 [(0, xr l0), (1, xi l1), (2, xi l2), (3, xi l3)] [] h 0 (qi Q) := by
  intro f
  induction f with
  | zero => exact fun _ _ _ H => H.elim
  | succ f hB4 =>
    intro l2 l3 h H
    unfold p_M_areRight_L4 at H
    refine wp_iload_n 3 rfl rfl dX11_areRight_4 ?_
    refine wp_aload_n 0 rfl rfl dX11_areRight_5 ?_
    obtain ⟨q1, H⟩ := H
    refine wp_getr coX11 2 (Nat.le_of_ble_eq_true rfl) fl_X11_13 rfl q1 dX11_areRight_6 ?_
    refine wp_iload_n 1 rfl rfl dX11_areRight_9 ?_
    obtain ⟨q2, H⟩ := H
    obtain ⟨q3, H⟩ := H
    refine wp_iaload q2 q3 dX11_areRight_10 ?_
    refine WP.at 11 rfl ?_
    refine wp_icmp_gt 121 (by decide) dX11_areRight_11 (fun c4 => ?_) (fun c4 => ?_)
    · replace H := H.1 c4
      exact WP.pick [0, 1, 2] rfl (hK4_121 l2 _ H)
    · replace H := H.2 c4
      refine wp_aload_n 0 rfl rfl dX11_areRight_14 ?_
      refine wp_getr coX11 5 (Nat.le_of_ble_eq_true rfl) fl_X11_23 rfl q1 dX11_areRight_15 ?_
      refine wp_bipush (13 : Int32) (by decide) dX11_areRight_18 ?_
      refine wp_iload_n 1 rfl rfl dX11_areRight_20 ?_
      refine wp_imul dX11_areRight_21 ?_
      refine wp_iload_n 3 rfl rfl dX11_areRight_22 ?_
      refine wp_iadd dX11_areRight_23 ?_
      refine WP.at 24 rfl ?_
      obtain ⟨q5, H⟩ := H
      obtain ⟨q6, H⟩ := H
      refine wp_iaload q5 q6 dX11_areRight_24 ?_
      refine wp_nm (fun v7 e8 => ?_)
      replace H := H v7 e8
      refine wp_istore (Nat.le_of_ble_eq_true rfl) dX11_areRight_25 (ls' := [(4, xi v7), (0, xr l0), (1, xi l1), (2, xi l2), (3, xi l3)]) rfl ?_
      refine wp_iconst (0 : Int32) (by decide) dX11_areRight_27 ?_
      refine wp_istore (Nat.le_of_ble_eq_true rfl) dX11_areRight_28 (ls' := [(5, xi (0 : Int32)), (4, xi v7), (0, xr l0), (1, xi l1), (2, xi l2), (3, xi l3)]) rfl ?_
      refine wp_iconst (1 : Int32) (by decide) dX11_areRight_30 ?_
      refine wp_istore (Nat.le_of_ble_eq_true rfl) dX11_areRight_31 (ls' := [(6, xi (1 : Int32)), (5, xi (0 : Int32)), (4, xi v7), (0, xr l0), (1, xi l1), (2, xi l2), (3, xi l3)]) rfl ?_
      refine WP.at 33 rfl ?_
      obtain ⟨f44, H⟩ := H
      refine WP.pick [3, 4, 5, 6, 2, 1, 0] rfl (t_M_areRight_L33 l0 l1 l2 l3 v7 _ Q ?_ f44 (0 : Int32) (1 : Int32) _ H)
      · intro x31 h32 H
        refine wp_iload rfl dX11_areRight_86 ?_
        refine WP.at 88 rfl ?_
        refine wp_if_le 102 (by decide) dX11_areRight_88 (fun c33 => ?_) (fun c33 => ?_)
        · replace H := H.1 c33
          exact WP.pick [0, 1, 2, 3, 4] rfl (t_M_areRight_j102 l0 l1 l2 l3 v7 _ _ _ hB4 H)
        · replace H := H.2 c33
          refine wp_iload rfl dX11_areRight_91 ?_
          refine wp_iload rfl dX11_areRight_93 ?_
          refine wp_iconst (1 : Int32) (by decide) dX11_areRight_95 ?_
          refine wp_isub dX11_areRight_96 ?_
          refine WP.at 97 rfl ?_
          refine wp_icmp_eq 102 (by decide) dX11_areRight_97 (fun c43 => ?_) (fun c43 => ?_)
          · replace H := H.1 c43
            exact WP.pick [0, 1, 2, 3, 4] rfl (t_M_areRight_j102 l0 l1 l2 l3 v7 _ _ _ hB4 H)
          · replace H := H.2 c43
            refine wp_iconst (0 : Int32) (by decide) dX11_areRight_100 ?_
            exact wp_iret (Or.inl rfl) dX11_areRight_101 H
def p_M_areRight_j138 (s0 : Int32) (s1 : Int32) (h : xH) (Q : Int32 → xH → Prop) : Prop := ((s1 < s0 → Q (0 : Int32) h) ∧ (¬ s1 < s0 → Q (1 : Int32) h))
set_option maxRecDepth 100000 in
set_option maxHeartbeats 4000000 in
theorem t_M_areRight_j138 (s0 : Int32) (s1 : Int32) (h : xH) (Q : Int32 → xH → Prop) (H : p_M_areRight_j138 s0 s1 h Q) : WP M_M_areRight 138 [] [xi s0, xi s1] h 0 (qi Q) := by
  unfold p_M_areRight_j138 at H
  refine WP.at 138 rfl ?_
  refine wp_icmp_lt 145 (by decide) dX11_areRight_138 (fun c51 => ?_) (fun c51 => ?_)
  · replace H := H.1 c51
    refine wp_iconst (0 : Int32) (by decide) dX11_areRight_145 ?_
    exact wp_iret (Or.inl rfl) dX11_areRight_146 H
  · replace H := H.2 c51
    refine wp_iconst (1 : Int32) (by decide) dX11_areRight_141 ?_
    refine WP.at 142 rfl ?_
    refine wp_goto 146 (by decide) dX11_areRight_142 ?_
    exact wp_iret (Or.inr rfl) dX11_areRight_146 H
def p_M_areRight (l0 : xN) (l1 : Int32) (h : xH) (Q : Int32 → xH → Prop) : Prop := (∃ f52, p_M_areRight_L4 l0 l1 (fun (x45 : Int32) (h46 : xH) => (kd l0.1 = (1, 10)) ∧ p_M_running l0 l1 h46 (fun (v49 : Int32) (h48 : xH) => (((3 : Int32) ≤ v49 → p_M_areRight_j138 (3 : Int32) x45 h48 Q) ∧ (¬ (3 : Int32) ≤ v49 → p_M_areRight_j138 v49 x45 h48 Q)))) Q f52 (0 : Int32) (1 : Int32) h)
set_option maxRecDepth 100000 in
set_option maxHeartbeats 4000000 in
theorem t_M_areRight (l0 : xN) (l1 : Int32) (h : xH) (Q : Int32 → xH → Prop) (H : p_M_areRight l0 l1 h Q) : WP M_M_areRight 0 [(0, xr l0), (1, xi l1)] [] h 0 (qi Q) := by
  unfold p_M_areRight at H
  refine wp_iconst (0 : Int32) (by decide) dX11_areRight_0 ?_
  refine wp_istore_n 2 rfl (Nat.le_of_ble_eq_true rfl) dX11_areRight_1 (ls' := [(2, xi (0 : Int32)), (0, xr l0), (1, xi l1)]) rfl ?_
  refine wp_iconst (1 : Int32) (by decide) dX11_areRight_2 ?_
  refine wp_istore_n 3 rfl (Nat.le_of_ble_eq_true rfl) dX11_areRight_3 (ls' := [(3, xi (1 : Int32)), (2, xi (0 : Int32)), (0, xr l0), (1, xi l1)]) rfl ?_
  refine WP.at 4 rfl ?_
  obtain ⟨f52, H⟩ := H
  refine WP.pick [2, 3, 1, 0] rfl (t_M_areRight_L4 l0 l1 _ Q ?_ f52 (0 : Int32) (1 : Int32) _ H)
  · intro x45 h46 H
    refine wp_aload_n 0 rfl rfl dX11_areRight_121 ?_
    refine wp_iload_n 1 rfl rfl dX11_areRight_122 ?_
    refine WP.at 123 rfl ?_
    obtain ⟨q47, H⟩ := H
    refine wp_cVi (M2 := M_M_running) coX11 l0 q47 [xi l1] rfl lv_X11_212 mo_M_running (Nat.le_of_ble_eq_true rfl) ⟨(Nat.le_of_ble_eq_true rfl), (Nat.le_of_ble_eq_true rfl)⟩ (Nat.le_of_ble_eq_true rfl) (Nat.le_of_ble_eq_true rfl) dX11_areRight_123 (t_M_running l0 l1 _ _ H) (fun v49 h48 H => ?_)
    refine wp_istore_n 3 rfl (Nat.le_of_ble_eq_true rfl) dX11_areRight_126 (ls' := [(3, xi v49), (0, xr l0), (1, xi l1), (2, xi x45)]) rfl ?_
    refine wp_iload_n 2 rfl rfl dX11_areRight_127 ?_
    refine wp_iload_n 3 rfl rfl dX11_areRight_128 ?_
    refine wp_iconst (3 : Int32) (by decide) dX11_areRight_129 ?_
    refine WP.at 130 rfl ?_
    refine WP.at 130 rfl ?_
    refine wp_icmp_ge 137 (by decide) dX11_areRight_130 (fun c50 => ?_) (fun c50 => ?_)
    · replace H := H.1 c50
      refine wp_iconst (3 : Int32) (by decide) dX11_areRight_137 ?_
      refine WP.at 138 rfl ?_
      exact WP.pick [] rfl (t_M_areRight_j138 (3 : Int32) x45 _ _ H)
    · replace H := H.2 c50
      refine wp_iload_n 3 rfl rfl dX11_areRight_133 ?_
      refine WP.at 134 rfl ?_
      refine wp_goto 138 (by decide) dX11_areRight_134 ?_
      exact WP.pick [] rfl (t_M_areRight_j138 v49 x45 _ _ H)
def p_M_takePositions_L2 (l0 : xN) (l1 : Int32) (l2 : xN) (K2_46 : xH → Prop) (Q : xH → Prop) : Nat → Int32 → xH → Prop
  | 0, _, _ => False
  | f + 1, l3, h => (((13 : Int32) ≤ l3 → K2_46 h) ∧ (¬ (13 : Int32) ≤ l3 → ((l3 ≤ 0 → (kd l2.1 = (2, 0)) ∧ (vp_in l3 (hS h l2 - 1)) ∧ ∀ h5 : xH, h5 = sI h l2 l3.toNatClampNeg (0 : Int32) → ∀ v7 : Int32, v7 = l3 + (1 : Int32) → (p_M_takePositions_L2 l0 l1 l2 K2_46 Q f) v7 h5) ∧ (¬ l3 ≤ 0 → (kd l0.1 = (1, 10)) ∧ (kd (hR h l0 2).1 = (2, 0)) ∧ (vp_in l1 (hS h (hR h l0 2) - 1)) ∧ (((hI h (hR h l0 2) l1.toNatClampNeg) < l3 → (kd l2.1 = (2, 0)) ∧ (vp_in l3 (hS h l2 - 1)) ∧ ∀ h15 : xH, h15 = sI h l2 l3.toNatClampNeg (0 : Int32) → ∀ v17 : Int32, v17 = l3 + (1 : Int32) → (p_M_takePositions_L2 l0 l1 l2 K2_46 Q f) v17 h15) ∧ (¬ (hI h (hR h l0 2) l1.toNatClampNeg) < l3 → (kd (hR h l0 5).1 = (2, 0)) ∧ (vp_in (((13 : Int32) * l1) + l3) (hS h (hR h l0 5) - 1)) ∧ (kd l2.1 = (2, 0)) ∧ (vp_in l3 (hS h l2 - 1)) ∧ ∀ h23 : xH, h23 = sI h l2 l3.toNatClampNeg (hI h (hR h l0 5) (((13 : Int32) * l1) + l3).toNatClampNeg) → ∀ v25 : Int32, v25 = l3 + (1 : Int32) → (p_M_takePositions_L2 l0 l1 l2 K2_46 Q f) v25 h23))))))
set_option maxRecDepth 100000 in
set_option maxHeartbeats 4000000 in
theorem t_M_takePositions_L2 (l0 : xN) (l1 : Int32) (l2 : xN) (K2_46 : xH → Prop) (Q : xH → Prop) (hK2_46 : ∀ (h : xH), K2_46 h → WP M_M_takePositions 46 [] [] h 0 (qv Q)) : ∀ (f : Nat) (l3 : Int32) (h : xH), p_M_takePositions_L2 l0 l1 l2 K2_46 Q f l3 h → WP M_M_takePositions 2 [(0, xr l0), (1, xi l1), (2, xr l2), (3, xi l3)] [] h 0 (qv Q) := by
  intro f
  induction f with
  | zero => exact fun _ _ H => H.elim
  | succ f hB2 =>
    intro l3 h H
    unfold p_M_takePositions_L2 at H
    refine wp_iload_n 3 rfl rfl dX11_takePositions_2 ?_
    refine wp_bipush (13 : Int32) (by decide) dX11_takePositions_3 ?_
    refine WP.at 5 rfl ?_
    refine wp_icmp_ge 46 (by decide) dX11_takePositions_5 (fun c1 => ?_) (fun c1 => ?_)
    · replace H := H.1 c1
      exact WP.pick [] rfl (hK2_46 _ H)
    · replace H := H.2 c1
      refine wp_aload_n 2 rfl rfl dX11_takePositions_8 ?_
      refine wp_iload_n 3 rfl rfl dX11_takePositions_9 ?_
      refine wp_iload_n 3 rfl rfl dX11_takePositions_10 ?_
      refine WP.at 11 rfl ?_
      refine wp_if_le 38 (by decide) dX11_takePositions_11 (fun c2 => ?_) (fun c2 => ?_)
      · replace H := H.1 c2
        refine wp_iconst (0 : Int32) (by decide) dX11_takePositions_38 ?_
        obtain ⟨q3, H⟩ := H
        obtain ⟨q4, H⟩ := H
        refine wp_iastore q3 q4 dX11_takePositions_39 ?_
        refine wp_nh (fun h5 e6 => ?_)
        replace H := H h5 e6
        refine wp_iincN (1 : Int32) (by decide) rfl (Nat.le_of_ble_eq_true rfl) dX11_takePositions_40 (ls' := fun v7 => [(3, xi v7), (0, xr l0), (1, xi l1), (2, xr l2)]) (fun _ => rfl) (fun v7 e8 => ?_)
        replace H := H v7 e8
        refine WP.at 43 rfl ?_
        refine wp_goto 2 (by decide) dX11_takePositions_43 ?_
        exact WP.pick [1, 2, 3, 0] rfl (hB2 v7 _ H)
      · replace H := H.2 c2
        refine wp_iload_n 3 rfl rfl dX11_takePositions_14 ?_
        refine wp_aload_n 0 rfl rfl dX11_takePositions_15 ?_
        obtain ⟨q9, H⟩ := H
        refine wp_getr coX11 2 (Nat.le_of_ble_eq_true rfl) fl_X11_13 rfl q9 dX11_takePositions_16 ?_
        refine wp_iload_n 1 rfl rfl dX11_takePositions_19 ?_
        obtain ⟨q10, H⟩ := H
        obtain ⟨q11, H⟩ := H
        refine wp_iaload q10 q11 dX11_takePositions_20 ?_
        refine WP.at 21 rfl ?_
        refine wp_icmp_gt 38 (by decide) dX11_takePositions_21 (fun c12 => ?_) (fun c12 => ?_)
        · replace H := H.1 c12
          refine wp_iconst (0 : Int32) (by decide) dX11_takePositions_38 ?_
          obtain ⟨q13, H⟩ := H
          obtain ⟨q14, H⟩ := H
          refine wp_iastore q13 q14 dX11_takePositions_39 ?_
          refine wp_nh (fun h15 e16 => ?_)
          replace H := H h15 e16
          refine wp_iincN (1 : Int32) (by decide) rfl (Nat.le_of_ble_eq_true rfl) dX11_takePositions_40 (ls' := fun v17 => [(3, xi v17), (0, xr l0), (1, xi l1), (2, xr l2)]) (fun _ => rfl) (fun v17 e18 => ?_)
          replace H := H v17 e18
          refine WP.at 43 rfl ?_
          refine wp_goto 2 (by decide) dX11_takePositions_43 ?_
          exact WP.pick [1, 2, 3, 0] rfl (hB2 v17 _ H)
        · replace H := H.2 c12
          refine wp_aload_n 0 rfl rfl dX11_takePositions_24 ?_
          refine wp_getr coX11 5 (Nat.le_of_ble_eq_true rfl) fl_X11_23 rfl q9 dX11_takePositions_25 ?_
          refine wp_bipush (13 : Int32) (by decide) dX11_takePositions_28 ?_
          refine wp_iload_n 1 rfl rfl dX11_takePositions_30 ?_
          refine wp_imul dX11_takePositions_31 ?_
          refine wp_iload_n 3 rfl rfl dX11_takePositions_32 ?_
          refine wp_iadd dX11_takePositions_33 ?_
          refine WP.at 34 rfl ?_
          obtain ⟨q19, H⟩ := H
          obtain ⟨q20, H⟩ := H
          refine wp_iaload q19 q20 dX11_takePositions_34 ?_
          refine WP.at 35 rfl ?_
          refine wp_goto 39 (by decide) dX11_takePositions_35 ?_
          obtain ⟨q21, H⟩ := H
          obtain ⟨q22, H⟩ := H
          refine wp_iastore q21 q22 dX11_takePositions_39 ?_
          refine wp_nh (fun h23 e24 => ?_)
          replace H := H h23 e24
          refine wp_iincN (1 : Int32) (by decide) rfl (Nat.le_of_ble_eq_true rfl) dX11_takePositions_40 (ls' := fun v25 => [(3, xi v25), (0, xr l0), (1, xi l1), (2, xr l2)]) (fun _ => rfl) (fun v25 e26 => ?_)
          replace H := H v25 e26
          refine WP.at 43 rfl ?_
          refine wp_goto 2 (by decide) dX11_takePositions_43 ?_
          exact WP.pick [1, 2, 3, 0] rfl (hB2 v25 _ H)
def p_M_takePositions (l0 : xN) (l1 : Int32) (l2 : xN) (h : xH) (Q : xH → Prop) : Prop := (∃ f28, p_M_takePositions_L2 l0 l1 l2 (fun (h27 : xH) => Q h27) Q f28 (0 : Int32) h)
set_option maxRecDepth 100000 in
set_option maxHeartbeats 4000000 in
theorem t_M_takePositions (l0 : xN) (l1 : Int32) (l2 : xN) (h : xH) (Q : xH → Prop) (H : p_M_takePositions l0 l1 l2 h Q) : WP M_M_takePositions 0 [(0, xr l0), (1, xi l1), (2, xr l2)] [] h 0 (qv Q) := by
  unfold p_M_takePositions at H
  refine wp_iconst (0 : Int32) (by decide) dX11_takePositions_0 ?_
  refine wp_istore_n 3 rfl (Nat.le_of_ble_eq_true rfl) dX11_takePositions_1 (ls' := [(3, xi (0 : Int32)), (0, xr l0), (1, xi l1), (2, xr l2)]) rfl ?_
  refine WP.at 2 rfl ?_
  obtain ⟨f28, H⟩ := H
  refine WP.pick [1, 2, 3, 0] rfl (t_M_takePositions_L2 l0 l1 l2 _ Q ?_ f28 (0 : Int32) _ H)
  · intro h27 H
    exact wp_vret trivial dX11_takePositions_46 H
def p_M_group_L40 (l0 : xN) (l1 : Int32) (l2 : Int32) (l3 : Int32) (K40_103 : Int32 → xH → Prop) (Q : xH → Prop) : Nat → Int32 → xH → Prop
  | 0, _, _ => False
  | f + 1, l4, h => (kd l0.1 = (1, 10)) ∧ (((hI h l0 35) ≤ l4 → K40_103 l4 h) ∧ (¬ (hI h l0 35) ≤ l4 → (kd (hR h l0 36).1 = (2, 0)) ∧ (vp_in l4 (hS h (hR h l0 36) - 1)) ∧ (kd (hR h l0 25).1 = (2, 0)) ∧ (vp_in l3 (hS h (hR h l0 25) - 1)) ∧ ((¬ (hI h (hR h l0 36) l4.toNatClampNeg) = (hI h (hR h l0 25) l3.toNatClampNeg) → ∀ v21 : Int32, v21 = l4 + (1 : Int32) → (p_M_group_L40 l0 l1 l2 l3 K40_103 Q f) v21 h) ∧ ((hI h (hR h l0 36) l4.toNatClampNeg) = (hI h (hR h l0 25) l3.toNatClampNeg) → (kd (hR h l0 37).1 = (2, 0)) ∧ (vp_in l4 (hS h (hR h l0 37) - 1)) ∧ (kd (hR h l0 26).1 = (2, 0)) ∧ (vp_in l3 (hS h (hR h l0 26) - 1)) ∧ ((¬ (hI h (hR h l0 37) l4.toNatClampNeg) = (hI h (hR h l0 26) l3.toNatClampNeg) → ∀ v28 : Int32, v28 = l4 + (1 : Int32) → (p_M_group_L40 l0 l1 l2 l3 K40_103 Q f) v28 h) ∧ ((hI h (hR h l0 37) l4.toNatClampNeg) = (hI h (hR h l0 26) l3.toNatClampNeg) → (kd (hR h l0 38).1 = (2, 0)) ∧ (vp_in l4 (hS h (hR h l0 38) - 1)) ∧ (kd (hR h l0 27).1 = (2, 0)) ∧ (vp_in l3 (hS h (hR h l0 27) - 1)) ∧ (((hI h (hR h l0 38) l4.toNatClampNeg) = (hI h (hR h l0 27) l3.toNatClampNeg) → K40_103 l4 h) ∧ (¬ (hI h (hR h l0 38) l4.toNatClampNeg) = (hI h (hR h l0 27) l3.toNatClampNeg) → ∀ v35 : Int32, v35 = l4 + (1 : Int32) → (p_M_group_L40 l0 l1 l2 l3 K40_103 Q f) v35 h))))))))
set_option maxRecDepth 100000 in
set_option maxHeartbeats 4000000 in
theorem t_M_group_L40 (l0 : xN) (l1 : Int32) (l2 : Int32) (l3 : Int32) (K40_103 : Int32 → xH → Prop) (Q : xH → Prop) (hK40_103 : ∀ (x4 : Int32) (h : xH), K40_103 x4 h → WP M_M_group 103 [(0, xr l0), (1, xi l1), (2, xi l2), (3, xi l3), (4, xi x4)] [] h 0 (qv Q)) : ∀ (f : Nat) (l4 : Int32) (h : xH), p_M_group_L40 l0 l1 l2 l3 K40_103 Q f l4 h → WP M_M_group 40 [(0, xr l0), (1, xi l1), (2, xi l2), (3, xi l3), (4, xi l4)] [] h 0 (qv Q) := by
  intro f
  induction f with
  | zero => exact fun _ _ H => H.elim
  | succ f hB40 =>
    intro l4 h H
    unfold p_M_group_L40 at H
    refine wp_iload rfl dX11_group_40 ?_
    refine wp_aload_n 0 rfl rfl dX11_group_42 ?_
    obtain ⟨q14, H⟩ := H
    refine wp_geti coX11 35 (Nat.le_of_ble_eq_true rfl) fl_X11_215 rfl q14 dX11_group_43 ?_
    refine WP.at 46 rfl ?_
    refine wp_icmp_ge 103 (by decide) dX11_group_46 (fun c15 => ?_) (fun c15 => ?_)
    · replace H := H.1 c15
      exact WP.pick [0, 1, 2, 3, 4] rfl (hK40_103 l4 _ H)
    · replace H := H.2 c15
      refine wp_aload_n 0 rfl rfl dX11_group_49 ?_
      refine wp_getr coX11 36 (Nat.le_of_ble_eq_true rfl) fl_X11_101 rfl q14 dX11_group_50 ?_
      refine wp_iload rfl dX11_group_53 ?_
      obtain ⟨q16, H⟩ := H
      obtain ⟨q17, H⟩ := H
      refine wp_iaload q16 q17 dX11_group_55 ?_
      refine wp_aload_n 0 rfl rfl dX11_group_56 ?_
      refine wp_getr coX11 25 (Nat.le_of_ble_eq_true rfl) fl_X11_71 rfl q14 dX11_group_57 ?_
      refine wp_iload_n 3 rfl rfl dX11_group_60 ?_
      refine WP.at 61 rfl ?_
      obtain ⟨q18, H⟩ := H
      obtain ⟨q19, H⟩ := H
      refine wp_iaload q18 q19 dX11_group_61 ?_
      refine WP.at 62 rfl ?_
      refine wp_icmp_ne 97 (by decide) dX11_group_62 (fun c20 => ?_) (fun c20 => ?_)
      · replace H := H.1 c20
        refine wp_iincN (1 : Int32) (by decide) rfl (Nat.le_of_ble_eq_true rfl) dX11_group_97 (ls' := fun v21 => [(4, xi v21), (0, xr l0), (1, xi l1), (2, xi l2), (3, xi l3)]) (fun _ => rfl) (fun v21 e22 => ?_)
        replace H := H v21 e22
        refine WP.at 100 rfl ?_
        refine wp_goto 40 (by decide) dX11_group_100 ?_
        exact WP.pick [1, 2, 3, 4, 0] rfl (hB40 v21 _ H)
      · replace H := H.2 c20
        refine wp_aload_n 0 rfl rfl dX11_group_65 ?_
        refine wp_getr coX11 37 (Nat.le_of_ble_eq_true rfl) fl_X11_104 rfl q14 dX11_group_66 ?_
        refine wp_iload rfl dX11_group_69 ?_
        obtain ⟨q23, H⟩ := H
        obtain ⟨q24, H⟩ := H
        refine wp_iaload q23 q24 dX11_group_71 ?_
        refine wp_aload_n 0 rfl rfl dX11_group_72 ?_
        refine wp_getr coX11 26 (Nat.le_of_ble_eq_true rfl) fl_X11_74 rfl q14 dX11_group_73 ?_
        refine wp_iload_n 3 rfl rfl dX11_group_76 ?_
        refine WP.at 77 rfl ?_
        obtain ⟨q25, H⟩ := H
        obtain ⟨q26, H⟩ := H
        refine wp_iaload q25 q26 dX11_group_77 ?_
        refine WP.at 78 rfl ?_
        refine wp_icmp_ne 97 (by decide) dX11_group_78 (fun c27 => ?_) (fun c27 => ?_)
        · replace H := H.1 c27
          refine wp_iincN (1 : Int32) (by decide) rfl (Nat.le_of_ble_eq_true rfl) dX11_group_97 (ls' := fun v28 => [(4, xi v28), (0, xr l0), (1, xi l1), (2, xi l2), (3, xi l3)]) (fun _ => rfl) (fun v28 e29 => ?_)
          replace H := H v28 e29
          refine WP.at 100 rfl ?_
          refine wp_goto 40 (by decide) dX11_group_100 ?_
          exact WP.pick [1, 2, 3, 4, 0] rfl (hB40 v28 _ H)
        · replace H := H.2 c27
          refine wp_aload_n 0 rfl rfl dX11_group_81 ?_
          refine wp_getr coX11 38 (Nat.le_of_ble_eq_true rfl) fl_X11_107 rfl q14 dX11_group_82 ?_
          refine wp_iload rfl dX11_group_85 ?_
          obtain ⟨q30, H⟩ := H
          obtain ⟨q31, H⟩ := H
          refine wp_iaload q30 q31 dX11_group_87 ?_
          refine wp_aload_n 0 rfl rfl dX11_group_88 ?_
          refine wp_getr coX11 27 (Nat.le_of_ble_eq_true rfl) fl_X11_77 rfl q14 dX11_group_89 ?_
          refine wp_iload_n 3 rfl rfl dX11_group_92 ?_
          refine WP.at 93 rfl ?_
          obtain ⟨q32, H⟩ := H
          obtain ⟨q33, H⟩ := H
          refine wp_iaload q32 q33 dX11_group_93 ?_
          refine WP.at 94 rfl ?_
          refine wp_icmp_eq 103 (by decide) dX11_group_94 (fun c34 => ?_) (fun c34 => ?_)
          · replace H := H.1 c34
            exact WP.pick [0, 1, 2, 3, 4] rfl (hK40_103 l4 _ H)
          · replace H := H.2 c34
            refine wp_iincN (1 : Int32) (by decide) rfl (Nat.le_of_ble_eq_true rfl) dX11_group_97 (ls' := fun v35 => [(4, xi v35), (0, xr l0), (1, xi l1), (2, xi l2), (3, xi l3)]) (fun _ => rfl) (fun v35 e36 => ?_)
            replace H := H v35 e36
            refine WP.at 100 rfl ?_
            refine wp_goto 40 (by decide) dX11_group_100 ?_
            exact WP.pick [1, 2, 3, 4, 0] rfl (hB40 v35 _ H)
def p_M_group_j169 (l0 : xN) (l1 : Int32) (l2 : Int32) (l3 : Int32) (l4 : Int32) (B7 : Int32 → xH → Prop) (h : xH) (Q : xH → Prop) : Prop := (kd l0.1 = (1, 10)) ∧ (kd (hR h l0 39).1 = (2, 0)) ∧ (vp_in l4 (hS h (hR h l0 39) - 1)) ∧ (kd (hR h l0 28).1 = (2, 0)) ∧ (vp_in l3 (hS h (hR h l0 28) - 1)) ∧ (vp_in l4 (hS h (hR h l0 39) - 1)) ∧ ∀ h47 : xH, h47 = sI h (hR h l0 39) l4.toNatClampNeg ((hI h (hR h l0 39) l4.toNatClampNeg) + (hI h (hR h l0 28) l3.toNatClampNeg)) → ∀ v49 : Int32, v49 = l3 + (1 : Int32) → B7 v49 h47
set_option maxRecDepth 100000 in
set_option maxHeartbeats 4000000 in
theorem t_M_group_j169 (l0 : xN) (l1 : Int32) (l2 : Int32) (l3 : Int32) (l4 : Int32) (B7 : Int32 → xH → Prop) (h : xH) (Q : xH → Prop) (hB7 : ∀ (x3 : Int32) (h : xH), B7 x3 h → WP M_M_group 7 [(0, xr l0), (1, xi l1), (2, xi l2), (3, xi x3)] [] h 0 (qv Q)) (H : p_M_group_j169 l0 l1 l2 l3 l4 B7 h Q) : WP M_M_group 169 [(0, xr l0), (1, xi l1), (2, xi l2), (3, xi l3), (4, xi l4)] [] h 0 (qv Q) := by
  unfold p_M_group_j169 at H
  refine wp_aload_n 0 rfl rfl dX11_group_169 ?_
  obtain ⟨q41, H⟩ := H
  refine wp_getr coX11 39 (Nat.le_of_ble_eq_true rfl) fl_X11_110 rfl q41 dX11_group_170 ?_
  refine wp_iload rfl dX11_group_173 ?_
  refine wp_dup2 rfl rfl dX11_group_175 ?_
  obtain ⟨q42, H⟩ := H
  obtain ⟨q43, H⟩ := H
  refine wp_iaload q42 q43 dX11_group_176 ?_
  refine wp_aload_n 0 rfl rfl dX11_group_177 ?_
  refine wp_getr coX11 28 (Nat.le_of_ble_eq_true rfl) fl_X11_80 rfl q41 dX11_group_178 ?_
  refine WP.at 181 rfl ?_
  refine wp_iload_n 3 rfl rfl dX11_group_181 ?_
  obtain ⟨q44, H⟩ := H
  obtain ⟨q45, H⟩ := H
  refine wp_iaload q44 q45 dX11_group_182 ?_
  refine wp_iadd dX11_group_183 ?_
  obtain ⟨q46, H⟩ := H
  refine wp_iastore q42 q46 dX11_group_184 ?_
  refine wp_nh (fun h47 e48 => ?_)
  replace H := H h47 e48
  refine wp_iincN (1 : Int32) (by decide) rfl (Nat.le_of_ble_eq_true rfl) dX11_group_185 (ls' := fun v49 => [(3, xi v49), (0, xr l0), (1, xi l1), (2, xi l2), (4, xi l4)]) (fun _ => rfl) (fun v49 e50 => ?_)
  replace H := H v49 e50
  refine WP.at 188 rfl ?_
  refine wp_goto 7 (by decide) dX11_group_188 ?_
  exact WP.pick [1, 2, 3, 0] rfl (hB7 v49 _ H)
def p_M_group_j103 (l0 : xN) (l1 : Int32) (l2 : Int32) (l3 : Int32) (l4 : Int32) (B7 : Int32 → xH → Prop) (h : xH) (Q : xH → Prop) : Prop := (kd l0.1 = (1, 10)) ∧ ((¬ l4 = (hI h l0 35) → p_M_group_j169 l0 l1 l2 l3 l4 B7 h Q) ∧ (l4 = (hI h l0 35) → (kd (hR h l0 25).1 = (2, 0)) ∧ (vp_in l3 (hS h (hR h l0 25) - 1)) ∧ (kd (hR h l0 36).1 = (2, 0)) ∧ (vp_in l4 (hS h (hR h l0 36) - 1)) ∧ ∀ h55 : xH, h55 = sI h (hR h l0 36) l4.toNatClampNeg (hI h (hR h l0 25) l3.toNatClampNeg) → (kd (hR h55 l0 26).1 = (2, 0)) ∧ (vp_in l3 (hS h55 (hR h55 l0 26) - 1)) ∧ (kd (hR h55 l0 37).1 = (2, 0)) ∧ (vp_in l4 (hS h55 (hR h55 l0 37) - 1)) ∧ ∀ h61 : xH, h61 = sI h55 (hR h55 l0 37) l4.toNatClampNeg (hI h55 (hR h55 l0 26) l3.toNatClampNeg) → (kd (hR h61 l0 27).1 = (2, 0)) ∧ (vp_in l3 (hS h61 (hR h61 l0 27) - 1)) ∧ (kd (hR h61 l0 38).1 = (2, 0)) ∧ (vp_in l4 (hS h61 (hR h61 l0 38) - 1)) ∧ ∀ h67 : xH, h67 = sI h61 (hR h61 l0 38) l4.toNatClampNeg (hI h61 (hR h61 l0 27) l3.toNatClampNeg) → (kd (hR h67 l0 39).1 = (2, 0)) ∧ (vp_in l4 (hS h67 (hR h67 l0 39) - 1)) ∧ ∀ h71 : xH, h71 = sI h67 (hR h67 l0 39) l4.toNatClampNeg (0 : Int32) → ∀ h73 : xH, h73 = sI h71 l0 35 ((hI h71 l0 35) + (1 : Int32)) → p_M_group_j169 l0 l1 l2 l3 l4 B7 h73 Q))
set_option maxRecDepth 100000 in
set_option maxHeartbeats 4000000 in
theorem t_M_group_j103 (l0 : xN) (l1 : Int32) (l2 : Int32) (l3 : Int32) (l4 : Int32) (B7 : Int32 → xH → Prop) (h : xH) (Q : xH → Prop) (hB7 : ∀ (x3 : Int32) (h : xH), B7 x3 h → WP M_M_group 7 [(0, xr l0), (1, xi l1), (2, xi l2), (3, xi x3)] [] h 0 (qv Q)) (H : p_M_group_j103 l0 l1 l2 l3 l4 B7 h Q) : WP M_M_group 103 [(0, xr l0), (1, xi l1), (2, xi l2), (3, xi l3), (4, xi l4)] [] h 0 (qv Q) := by
  unfold p_M_group_j103 at H
  refine wp_iload rfl dX11_group_103 ?_
  refine wp_aload_n 0 rfl rfl dX11_group_105 ?_
  obtain ⟨q39, H⟩ := H
  refine wp_geti coX11 35 (Nat.le_of_ble_eq_true rfl) fl_X11_215 rfl q39 dX11_group_106 ?_
  refine WP.at 109 rfl ?_
  refine wp_icmp_ne 169 (by decide) dX11_group_109 (fun c40 => ?_) (fun c40 => ?_)
  · replace H := H.1 c40
    exact WP.pick [0, 1, 2, 3, 4] rfl (t_M_group_j169 l0 l1 l2 l3 l4 _ _ _ hB7 H)
  · replace H := H.2 c40
    refine wp_aload_n 0 rfl rfl dX11_group_112 ?_
    refine wp_getr coX11 36 (Nat.le_of_ble_eq_true rfl) fl_X11_101 rfl q39 dX11_group_113 ?_
    refine wp_iload rfl dX11_group_116 ?_
    refine wp_aload_n 0 rfl rfl dX11_group_118 ?_
    refine wp_getr coX11 25 (Nat.le_of_ble_eq_true rfl) fl_X11_71 rfl q39 dX11_group_119 ?_
    refine wp_iload_n 3 rfl rfl dX11_group_122 ?_
    obtain ⟨q51, H⟩ := H
    obtain ⟨q52, H⟩ := H
    refine wp_iaload q51 q52 dX11_group_123 ?_
    refine WP.at 124 rfl ?_
    obtain ⟨q53, H⟩ := H
    obtain ⟨q54, H⟩ := H
    refine wp_iastore q53 q54 dX11_group_124 ?_
    refine wp_nh (fun h55 e56 => ?_)
    replace H := H h55 e56
    refine wp_aload_n 0 rfl rfl dX11_group_125 ?_
    refine wp_getr coX11 37 (Nat.le_of_ble_eq_true rfl) fl_X11_104 rfl q39 dX11_group_126 ?_
    refine wp_iload rfl dX11_group_129 ?_
    refine wp_aload_n 0 rfl rfl dX11_group_131 ?_
    refine wp_getr coX11 26 (Nat.le_of_ble_eq_true rfl) fl_X11_74 rfl q39 dX11_group_132 ?_
    refine wp_iload_n 3 rfl rfl dX11_group_135 ?_
    obtain ⟨q57, H⟩ := H
    obtain ⟨q58, H⟩ := H
    refine wp_iaload q57 q58 dX11_group_136 ?_
    refine WP.at 137 rfl ?_
    obtain ⟨q59, H⟩ := H
    obtain ⟨q60, H⟩ := H
    refine wp_iastore q59 q60 dX11_group_137 ?_
    refine wp_nh (fun h61 e62 => ?_)
    replace H := H h61 e62
    refine wp_aload_n 0 rfl rfl dX11_group_138 ?_
    refine wp_getr coX11 38 (Nat.le_of_ble_eq_true rfl) fl_X11_107 rfl q39 dX11_group_139 ?_
    refine wp_iload rfl dX11_group_142 ?_
    refine wp_aload_n 0 rfl rfl dX11_group_144 ?_
    refine wp_getr coX11 27 (Nat.le_of_ble_eq_true rfl) fl_X11_77 rfl q39 dX11_group_145 ?_
    refine wp_iload_n 3 rfl rfl dX11_group_148 ?_
    obtain ⟨q63, H⟩ := H
    obtain ⟨q64, H⟩ := H
    refine wp_iaload q63 q64 dX11_group_149 ?_
    refine WP.at 150 rfl ?_
    obtain ⟨q65, H⟩ := H
    obtain ⟨q66, H⟩ := H
    refine wp_iastore q65 q66 dX11_group_150 ?_
    refine wp_nh (fun h67 e68 => ?_)
    replace H := H h67 e68
    refine wp_aload_n 0 rfl rfl dX11_group_151 ?_
    refine wp_getr coX11 39 (Nat.le_of_ble_eq_true rfl) fl_X11_110 rfl q39 dX11_group_152 ?_
    refine wp_iload rfl dX11_group_155 ?_
    refine wp_iconst (0 : Int32) (by decide) dX11_group_157 ?_
    obtain ⟨q69, H⟩ := H
    obtain ⟨q70, H⟩ := H
    refine wp_iastore q69 q70 dX11_group_158 ?_
    refine wp_nh (fun h71 e72 => ?_)
    replace H := H h71 e72
    refine wp_aload_n 0 rfl rfl dX11_group_159 ?_
    refine wp_dup rfl dX11_group_160 ?_
    refine WP.at 161 rfl ?_
    refine wp_geti coX11 35 (Nat.le_of_ble_eq_true rfl) fl_X11_215 rfl q39 dX11_group_161 ?_
    refine wp_iconst (1 : Int32) (by decide) dX11_group_164 ?_
    refine wp_iadd dX11_group_165 ?_
    refine wp_puti coX11 35 (Nat.le_of_ble_eq_true rfl) fl_X11_215 rfl rfl ⟨rfl, rfl⟩ q39 dX11_group_166 ?_
    refine wp_nh (fun h73 e74 => ?_)
    replace H := H h73 e74
    refine WP.at 169 rfl ?_
    exact WP.pick [0, 1, 2, 3, 4] rfl (t_M_group_j169 l0 l1 l2 l3 l4 _ _ _ hB7 H)
def p_M_group_L7 (l0 : xN) (l1 : Int32) (l2 : Int32) (K7_191 : xH → Prop) (Q : xH → Prop) : Nat → Int32 → xH → Prop
  | 0, _, _ => False
  | f + 1, l3, h => (kd l0.1 = (1, 10)) ∧ (((hI h l0 23) ≤ l3 → K7_191 h) ∧ (¬ (hI h l0 23) ≤ l3 → (kd (hR h l0 24).1 = (2, 0)) ∧ (vp_in l3 (hS h (hR h l0 24) - 1)) ∧ ((¬ (hI h (hR h l0 24) l3.toNatClampNeg) = l1 → ∀ v9 : Int32, v9 = l3 + (1 : Int32) → (p_M_group_L7 l0 l1 l2 K7_191 Q f) v9 h) ∧ ((hI h (hR h l0 24) l3.toNatClampNeg) = l1 → (kd (hR h l0 29).1 = (2, 0)) ∧ (vp_in l3 (hS h (hR h l0 29) - 1)) ∧ (((hI h (hR h l0 29) l3.toNatClampNeg) = 0 → (∃ f75, p_M_group_L40 l0 l1 l2 l3 (fun (x37 : Int32) (h38 : xH) => p_M_group_j103 l0 l1 l2 l3 x37 (p_M_group_L7 l0 l1 l2 K7_191 Q f) h38 Q) Q f75 l2 h)) ∧ (¬ (hI h (hR h l0 29) l3.toNatClampNeg) = 0 → ∀ v76 : Int32, v76 = l3 + (1 : Int32) → (p_M_group_L7 l0 l1 l2 K7_191 Q f) v76 h))))))
set_option maxRecDepth 100000 in
set_option maxHeartbeats 4000000 in
theorem t_M_group_L7 (l0 : xN) (l1 : Int32) (l2 : Int32) (K7_191 : xH → Prop) (Q : xH → Prop) (hK7_191 : ∀ (h : xH), K7_191 h → WP M_M_group 191 [] [] h 0 (qv Q)) : ∀ (f : Nat) (l3 : Int32) (h : xH), p_M_group_L7 l0 l1 l2 K7_191 Q f l3 h → WP M_M_group 7 [(0, xr l0), (1, xi l1), (2, xi l2), (3, xi l3)] [] h 0 (qv Q) := by
  intro f
  induction f with
  | zero => exact fun _ _ H => H.elim
  | succ f hB7 =>
    intro l3 h H
    unfold p_M_group_L7 at H
    refine wp_iload_n 3 rfl rfl dX11_group_7 ?_
    refine wp_aload_n 0 rfl rfl dX11_group_8 ?_
    obtain ⟨q4, H⟩ := H
    refine wp_geti coX11 23 (Nat.le_of_ble_eq_true rfl) fl_X11_205 rfl q4 dX11_group_9 ?_
    refine WP.at 12 rfl ?_
    refine wp_icmp_ge 191 (by decide) dX11_group_12 (fun c5 => ?_) (fun c5 => ?_)
    · replace H := H.1 c5
      exact WP.pick [] rfl (hK7_191 _ H)
    · replace H := H.2 c5
      refine wp_aload_n 0 rfl rfl dX11_group_15 ?_
      refine wp_getr coX11 24 (Nat.le_of_ble_eq_true rfl) fl_X11_68 rfl q4 dX11_group_16 ?_
      refine wp_iload_n 3 rfl rfl dX11_group_19 ?_
      obtain ⟨q6, H⟩ := H
      obtain ⟨q7, H⟩ := H
      refine wp_iaload q6 q7 dX11_group_20 ?_
      refine wp_iload_n 1 rfl rfl dX11_group_21 ?_
      refine WP.at 22 rfl ?_
      refine wp_icmp_ne 185 (by decide) dX11_group_22 (fun c8 => ?_) (fun c8 => ?_)
      · replace H := H.1 c8
        refine wp_iincN (1 : Int32) (by decide) rfl (Nat.le_of_ble_eq_true rfl) dX11_group_185 (ls' := fun v9 => [(3, xi v9), (0, xr l0), (1, xi l1), (2, xi l2)]) (fun _ => rfl) (fun v9 e10 => ?_)
        replace H := H v9 e10
        refine WP.at 188 rfl ?_
        refine wp_goto 7 (by decide) dX11_group_188 ?_
        exact WP.pick [1, 2, 3, 0] rfl (hB7 v9 _ H)
      · replace H := H.2 c8
        refine wp_aload_n 0 rfl rfl dX11_group_25 ?_
        refine wp_getr coX11 29 (Nat.le_of_ble_eq_true rfl) fl_X11_83 rfl q4 dX11_group_26 ?_
        refine wp_iload_n 3 rfl rfl dX11_group_29 ?_
        obtain ⟨q11, H⟩ := H
        obtain ⟨q12, H⟩ := H
        refine wp_iaload q11 q12 dX11_group_30 ?_
        refine WP.at 31 rfl ?_
        refine wp_if_eq 37 (by decide) dX11_group_31 (fun c13 => ?_) (fun c13 => ?_)
        · replace H := H.1 c13
          refine wp_iload_n 2 rfl rfl dX11_group_37 ?_
          refine wp_istore (Nat.le_of_ble_eq_true rfl) dX11_group_38 (ls' := [(4, xi l2), (0, xr l0), (1, xi l1), (2, xi l2), (3, xi l3)]) rfl ?_
          refine WP.at 40 rfl ?_
          obtain ⟨f75, H⟩ := H
          refine WP.pick [1, 2, 3, 4, 0] rfl (t_M_group_L40 l0 l1 l2 l3 _ Q ?_ f75 l2 _ H)
          · intro x37 h38 H
            exact WP.pick [0, 1, 2, 3, 4] rfl (t_M_group_j103 l0 l1 l2 l3 x37 _ _ _ hB7 H)
        · replace H := H.2 c13
          refine WP.at 34 rfl ?_
          refine wp_goto 185 (by decide) dX11_group_34 ?_
          refine wp_iincN (1 : Int32) (by decide) rfl (Nat.le_of_ble_eq_true rfl) dX11_group_185 (ls' := fun v76 => [(3, xi v76), (0, xr l0), (1, xi l1), (2, xi l2)]) (fun _ => rfl) (fun v76 e77 => ?_)
          replace H := H v76 e77
          refine WP.at 188 rfl ?_
          refine wp_goto 7 (by decide) dX11_group_188 ?_
          exact WP.pick [1, 2, 3, 0] rfl (hB7 v76 _ H)
def p_M_group (l0 : xN) (l1 : Int32) (h : xH) (Q : xH → Prop) : Prop := (kd l0.1 = (1, 10)) ∧ ∀ v2 : Int32, v2 = hI h l0 35 → (∃ f79, p_M_group_L7 l0 l1 v2 (fun (h78 : xH) => Q h78) Q f79 (0 : Int32) h)
set_option maxRecDepth 100000 in
set_option maxHeartbeats 4000000 in
theorem t_M_group (l0 : xN) (l1 : Int32) (h : xH) (Q : xH → Prop) (H : p_M_group l0 l1 h Q) : WP M_M_group 0 [(0, xr l0), (1, xi l1)] [] h 0 (qv Q) := by
  unfold p_M_group at H
  refine wp_aload_n 0 rfl rfl dX11_group_0 ?_
  obtain ⟨q1, H⟩ := H
  refine wp_geti coX11 35 (Nat.le_of_ble_eq_true rfl) fl_X11_215 rfl q1 dX11_group_1 ?_
  refine wp_nm (fun v2 e3 => ?_)
  replace H := H v2 e3
  refine wp_istore_n 2 rfl (Nat.le_of_ble_eq_true rfl) dX11_group_4 (ls' := [(2, xi v2), (0, xr l0), (1, xi l1)]) rfl ?_
  refine wp_iconst (0 : Int32) (by decide) dX11_group_5 ?_
  refine wp_istore_n 3 rfl (Nat.le_of_ble_eq_true rfl) dX11_group_6 (ls' := [(3, xi (0 : Int32)), (2, xi v2), (0, xr l0), (1, xi l1)]) rfl ?_
  refine WP.at 7 rfl ?_
  obtain ⟨f79, H⟩ := H
  refine WP.pick [2, 3, 1, 0] rfl (t_M_group_L7 l0 l1 v2 _ Q ?_ f79 (0 : Int32) _ H)
  · intro h78 H
    exact wp_vret trivial dX11_group_191 H
def p_M_kindOf (l0 : Int32) (h : xH) (Q : Int32 → xH → Prop) : Prop := ((¬ l0 = (48 : Int32) → Q (l0 - l0 / (4 : Int32) * (4 : Int32)) h) ∧ (l0 = (48 : Int32) → Q (4 : Int32) h))
set_option maxRecDepth 100000 in
set_option maxHeartbeats 4000000 in
theorem t_M_kindOf (l0 : Int32) (h : xH) (Q : Int32 → xH → Prop) (H : p_M_kindOf l0 h Q) : WP M_M_kindOf 0 [(0, xi l0)] [] h 0 (qi Q) := by
  unfold p_M_kindOf at H
  refine wp_iload_n 0 rfl rfl dX11_kindOf_0 ?_
  refine wp_bipush (48 : Int32) (by decide) dX11_kindOf_1 ?_
  refine WP.at 3 rfl ?_
  refine wp_icmp_ne 10 (by decide) dX11_kindOf_3 (fun c1 => ?_) (fun c1 => ?_)
  · replace H := H.1 c1
    refine wp_iload_n 0 rfl rfl dX11_kindOf_10 ?_
    refine wp_iconst (4 : Int32) (by decide) dX11_kindOf_11 ?_
    refine wp_irem (by decide) dX11_kindOf_12 ?_
    exact wp_iret trivial dX11_kindOf_13 H
  · replace H := H.2 c1
    refine wp_iconst (4 : Int32) (by decide) dX11_kindOf_6 ?_
    refine WP.at 7 rfl ?_
    refine wp_goto 13 (by decide) dX11_kindOf_7 ?_
    exact wp_iret trivial dX11_kindOf_13 H
def p_M_isVoid_j33 (s0 : Int32) (l0 : xN) (l1 : Int32) (h : xH) (Q : Int32 → xH → Prop) : Prop := ((s0 ≤ 0 → Q (0 : Int32) h) ∧ (¬ s0 ≤ 0 → (kd l0.1 = (1, 10)) ∧ p_M_running l0 (l1 / (4 : Int32)) h (fun (v9 : Int32) (h8 : xH) => ((s0 ≤ v9 → Q (0 : Int32) h8) ∧ (¬ s0 ≤ v9 → Q (1 : Int32) h8)))))
set_option maxRecDepth 100000 in
set_option maxHeartbeats 4000000 in
theorem t_M_isVoid_j33 (s0 : Int32) (l0 : xN) (l1 : Int32) (h : xH) (Q : Int32 → xH → Prop) (H : p_M_isVoid_j33 s0 l0 l1 h Q) : WP M_M_isVoid 33 [(0, xr l0), (1, xi l1)] [xi s0] h 0 (qi Q) := by
  unfold p_M_isVoid_j33 at H
  refine wp_istore_n 3 rfl (Nat.le_of_ble_eq_true rfl) dX11_isVoid_33 (ls' := [(3, xi s0), (0, xr l0), (1, xi l1)]) rfl ?_
  refine wp_iload_n 3 rfl rfl dX11_isVoid_34 ?_
  refine WP.at 35 rfl ?_
  refine wp_if_le 53 (by decide) dX11_isVoid_35 (fun c6 => ?_) (fun c6 => ?_)
  · replace H := H.1 c6
    refine wp_iconst (0 : Int32) (by decide) dX11_isVoid_53 ?_
    exact wp_iret (Or.inl rfl) dX11_isVoid_54 H
  · replace H := H.2 c6
    refine wp_aload_n 0 rfl rfl dX11_isVoid_38 ?_
    refine wp_iload_n 1 rfl rfl dX11_isVoid_39 ?_
    refine wp_iconst (4 : Int32) (by decide) dX11_isVoid_40 ?_
    refine wp_idiv (by decide) dX11_isVoid_41 ?_
    refine WP.at 42 rfl ?_
    obtain ⟨q7, H⟩ := H
    refine wp_cVi (M2 := M_M_running) coX11 l0 q7 [xi (l1 / (4 : Int32))] rfl lv_X11_212 mo_M_running (Nat.le_of_ble_eq_true rfl) ⟨(Nat.le_of_ble_eq_true rfl), (Nat.le_of_ble_eq_true rfl)⟩ (Nat.le_of_ble_eq_true rfl) (Nat.le_of_ble_eq_true rfl) dX11_isVoid_42 (t_M_running l0 (l1 / (4 : Int32)) _ _ H) (fun v9 h8 H => ?_)
    refine wp_iload_n 3 rfl rfl dX11_isVoid_45 ?_
    refine WP.at 46 rfl ?_
    refine wp_icmp_ge 53 (by decide) dX11_isVoid_46 (fun c10 => ?_) (fun c10 => ?_)
    · replace H := H.1 c10
      refine wp_iconst (0 : Int32) (by decide) dX11_isVoid_53 ?_
      exact wp_iret (Or.inl rfl) dX11_isVoid_54 H
    · replace H := H.2 c10
      refine wp_iconst (1 : Int32) (by decide) dX11_isVoid_49 ?_
      refine WP.at 50 rfl ?_
      refine wp_goto 54 (by decide) dX11_isVoid_50 ?_
      exact wp_iret (Or.inr rfl) dX11_isVoid_54 H
def p_M_isVoid (l0 : xN) (l1 : Int32) (h : xH) (Q : Int32 → xH → Prop) : Prop := p_M_kindOf l1 h (fun (v2 : Int32) (h1 : xH) => ((¬ v2 = (1 : Int32) → ((¬ v2 = (2 : Int32) → ((¬ v2 = (3 : Int32) → p_M_isVoid_j33 (0 : Int32) l0 l1 h1 Q) ∧ (v2 = (3 : Int32) → p_M_isVoid_j33 (3 : Int32) l0 l1 h1 Q))) ∧ (v2 = (2 : Int32) → p_M_isVoid_j33 (2 : Int32) l0 l1 h1 Q))) ∧ (v2 = (1 : Int32) → p_M_isVoid_j33 (5 : Int32) l0 l1 h1 Q)))
set_option maxRecDepth 100000 in
set_option maxHeartbeats 4000000 in
theorem t_M_isVoid (l0 : xN) (l1 : Int32) (h : xH) (Q : Int32 → xH → Prop) (H : p_M_isVoid l0 l1 h Q) : WP M_M_isVoid 0 [(0, xr l0), (1, xi l1)] [] h 0 (qi Q) := by
  unfold p_M_isVoid at H
  refine wp_iload_n 1 rfl rfl dX11_isVoid_0 ?_
  refine WP.at 1 rfl ?_
  refine wp_cSi (M2 := M_M_kindOf) [xi l1] rfl ls_X11_218 mo_M_kindOf (Nat.le_of_ble_eq_true rfl) ⟨(Nat.le_of_ble_eq_true rfl), (Nat.le_of_ble_eq_true rfl)⟩ (Nat.le_of_ble_eq_true rfl) (Nat.le_of_ble_eq_true rfl) dX11_isVoid_1 (t_M_kindOf l1 _ _ H) (fun v2 h1 H => ?_)
  refine wp_istore_n 2 rfl (Nat.le_of_ble_eq_true rfl) dX11_isVoid_4 (ls' := [(2, xi v2), (0, xr l0), (1, xi l1)]) rfl ?_
  refine wp_iload_n 2 rfl rfl dX11_isVoid_5 ?_
  refine wp_iconst (1 : Int32) (by decide) dX11_isVoid_6 ?_
  refine WP.at 7 rfl ?_
  refine wp_icmp_ne 14 (by decide) dX11_isVoid_7 (fun c3 => ?_) (fun c3 => ?_)
  · replace H := H.1 c3
    refine wp_iload_n 2 rfl rfl dX11_isVoid_14 ?_
    refine wp_iconst (2 : Int32) (by decide) dX11_isVoid_15 ?_
    refine WP.at 16 rfl ?_
    refine wp_icmp_ne 23 (by decide) dX11_isVoid_16 (fun c4 => ?_) (fun c4 => ?_)
    · replace H := H.1 c4
      refine wp_iload_n 2 rfl rfl dX11_isVoid_23 ?_
      refine wp_iconst (3 : Int32) (by decide) dX11_isVoid_24 ?_
      refine WP.at 25 rfl ?_
      refine wp_icmp_ne 32 (by decide) dX11_isVoid_25 (fun c5 => ?_) (fun c5 => ?_)
      · replace H := H.1 c5
        refine wp_iconst (0 : Int32) (by decide) dX11_isVoid_32 ?_
        refine WP.at 33 rfl ?_
        exact WP.pick [1, 2] rfl (t_M_isVoid_j33 (0 : Int32) l0 l1 _ _ H)
      · replace H := H.2 c5
        refine wp_iconst (3 : Int32) (by decide) dX11_isVoid_28 ?_
        refine WP.at 29 rfl ?_
        refine wp_goto 33 (by decide) dX11_isVoid_29 ?_
        exact WP.pick [1, 2] rfl (t_M_isVoid_j33 (3 : Int32) l0 l1 _ _ H)
    · replace H := H.2 c4
      refine wp_iconst (2 : Int32) (by decide) dX11_isVoid_19 ?_
      refine WP.at 20 rfl ?_
      refine wp_goto 33 (by decide) dX11_isVoid_20 ?_
      exact WP.pick [1, 2] rfl (t_M_isVoid_j33 (2 : Int32) l0 l1 _ _ H)
  · replace H := H.2 c3
    refine wp_iconst (5 : Int32) (by decide) dX11_isVoid_10 ?_
    refine WP.at 11 rfl ?_
    refine wp_goto 33 (by decide) dX11_isVoid_11 ?_
    exact WP.pick [1, 2] rfl (t_M_isVoid_j33 (5 : Int32) l0 l1 _ _ H)
def p_M_fits_L79 (l1 : xN) (l2 : Int32) (l3 : Int32) (l4 : Int32) (l5 : Int32) (K79_129 : xH → Prop) (Q : Int32 → xH → Prop) : Nat → Int32 → xH → Prop
  | 0, _, _ => False
  | f + 1, l6, h => (((13 : Int32) ≤ l6 → K79_129 h) ∧ (¬ (13 : Int32) ≤ l6 → ((l6 = l2 → ∀ v14 : Int32, v14 = l6 + (1 : Int32) → (p_M_fits_L79 l1 l2 l3 l4 l5 K79_129 Q f) v14 h) ∧ (¬ l6 = l2 → ((l6 = l3 → ∀ v17 : Int32, v17 = l6 + (1 : Int32) → (p_M_fits_L79 l1 l2 l3 l4 l5 K79_129 Q f) v17 h) ∧ (¬ l6 = l3 → ((l6 = l4 → ∀ v20 : Int32, v20 = l6 + (1 : Int32) → (p_M_fits_L79 l1 l2 l3 l4 l5 K79_129 Q f) v20 h) ∧ (¬ l6 = l4 → (kd l1.1 = (2, 0)) ∧ (vp_in l6 (hS h l1 - 1)) ∧ (((hI h l1 l6.toNatClampNeg) ≤ 0 → ∀ v25 : Int32, v25 = l6 + (1 : Int32) → (p_M_fits_L79 l1 l2 l3 l4 l5 K79_129 Q f) v25 h) ∧ (¬ (hI h l1 l6.toNatClampNeg) ≤ 0 → (vp_in l6 (hS h l1 - 1)) ∧ ((l5 ≤ (hI h l1 l6.toNatClampNeg) → ∀ v29 : Int32, v29 = l6 + (1 : Int32) → (p_M_fits_L79 l1 l2 l3 l4 l5 K79_129 Q f) v29 h) ∧ (¬ l5 ≤ (hI h l1 l6.toNatClampNeg) → Q (0 : Int32) h))))))))))))
set_option maxRecDepth 100000 in
set_option maxHeartbeats 4000000 in
theorem t_M_fits_L79 (l1 : xN) (l2 : Int32) (l3 : Int32) (l4 : Int32) (l5 : Int32) (K79_129 : xH → Prop) (Q : Int32 → xH → Prop) (hK79_129 : ∀ (h : xH), K79_129 h → WP M_M_fits 129 [] [] h 0 (qi Q)) : ∀ (f : Nat) (l6 : Int32) (h : xH), p_M_fits_L79 l1 l2 l3 l4 l5 K79_129 Q f l6 h → WP M_M_fits 79 [(1, xr l1), (2, xi l2), (3, xi l3), (4, xi l4), (5, xi l5), (6, xi l6)] [] h 0 (qi Q) := by
  intro f
  induction f with
  | zero => exact fun _ _ H => H.elim
  | succ f hB79 =>
    intro l6 h H
    unfold p_M_fits_L79 at H
    refine wp_iload rfl dX11_fits_79 ?_
    refine wp_bipush (13 : Int32) (by decide) dX11_fits_81 ?_
    refine WP.at 83 rfl ?_
    refine wp_icmp_ge 129 (by decide) dX11_fits_83 (fun c12 => ?_) (fun c12 => ?_)
    · replace H := H.1 c12
      exact WP.pick [] rfl (hK79_129 _ H)
    · replace H := H.2 c12
      refine wp_iload rfl dX11_fits_86 ?_
      refine wp_iload_n 2 rfl rfl dX11_fits_88 ?_
      refine WP.at 89 rfl ?_
      refine wp_icmp_eq 123 (by decide) dX11_fits_89 (fun c13 => ?_) (fun c13 => ?_)
      · replace H := H.1 c13
        refine wp_iincN (1 : Int32) (by decide) rfl (Nat.le_of_ble_eq_true rfl) dX11_fits_123 (ls' := fun v14 => [(6, xi v14), (1, xr l1), (2, xi l2), (3, xi l3), (4, xi l4), (5, xi l5)]) (fun _ => rfl) (fun v14 e15 => ?_)
        replace H := H v14 e15
        refine WP.at 126 rfl ?_
        refine wp_goto 79 (by decide) dX11_fits_126 ?_
        exact WP.pick [1, 2, 3, 4, 5, 0] rfl (hB79 v14 _ H)
      · replace H := H.2 c13
        refine wp_iload rfl dX11_fits_92 ?_
        refine wp_iload_n 3 rfl rfl dX11_fits_94 ?_
        refine WP.at 95 rfl ?_
        refine wp_icmp_eq 123 (by decide) dX11_fits_95 (fun c16 => ?_) (fun c16 => ?_)
        · replace H := H.1 c16
          refine wp_iincN (1 : Int32) (by decide) rfl (Nat.le_of_ble_eq_true rfl) dX11_fits_123 (ls' := fun v17 => [(6, xi v17), (1, xr l1), (2, xi l2), (3, xi l3), (4, xi l4), (5, xi l5)]) (fun _ => rfl) (fun v17 e18 => ?_)
          replace H := H v17 e18
          refine WP.at 126 rfl ?_
          refine wp_goto 79 (by decide) dX11_fits_126 ?_
          exact WP.pick [1, 2, 3, 4, 5, 0] rfl (hB79 v17 _ H)
        · replace H := H.2 c16
          refine wp_iload rfl dX11_fits_98 ?_
          refine wp_iload rfl dX11_fits_100 ?_
          refine WP.at 102 rfl ?_
          refine wp_icmp_eq 123 (by decide) dX11_fits_102 (fun c19 => ?_) (fun c19 => ?_)
          · replace H := H.1 c19
            refine wp_iincN (1 : Int32) (by decide) rfl (Nat.le_of_ble_eq_true rfl) dX11_fits_123 (ls' := fun v20 => [(6, xi v20), (1, xr l1), (2, xi l2), (3, xi l3), (4, xi l4), (5, xi l5)]) (fun _ => rfl) (fun v20 e21 => ?_)
            replace H := H v20 e21
            refine WP.at 126 rfl ?_
            refine wp_goto 79 (by decide) dX11_fits_126 ?_
            exact WP.pick [1, 2, 3, 4, 5, 0] rfl (hB79 v20 _ H)
          · replace H := H.2 c19
            refine wp_aload_n 1 rfl rfl dX11_fits_105 ?_
            refine wp_iload rfl dX11_fits_106 ?_
            obtain ⟨q22, H⟩ := H
            obtain ⟨q23, H⟩ := H
            refine wp_iaload q22 q23 dX11_fits_108 ?_
            refine WP.at 109 rfl ?_
            refine wp_if_le 123 (by decide) dX11_fits_109 (fun c24 => ?_) (fun c24 => ?_)
            · replace H := H.1 c24
              refine wp_iincN (1 : Int32) (by decide) rfl (Nat.le_of_ble_eq_true rfl) dX11_fits_123 (ls' := fun v25 => [(6, xi v25), (1, xr l1), (2, xi l2), (3, xi l3), (4, xi l4), (5, xi l5)]) (fun _ => rfl) (fun v25 e26 => ?_)
              replace H := H v25 e26
              refine WP.at 126 rfl ?_
              refine wp_goto 79 (by decide) dX11_fits_126 ?_
              exact WP.pick [1, 2, 3, 4, 5, 0] rfl (hB79 v25 _ H)
            · replace H := H.2 c24
              refine wp_aload_n 1 rfl rfl dX11_fits_112 ?_
              refine wp_iload rfl dX11_fits_113 ?_
              obtain ⟨q27, H⟩ := H
              refine wp_iaload q22 q27 dX11_fits_115 ?_
              refine wp_iload rfl dX11_fits_116 ?_
              refine WP.at 118 rfl ?_
              refine wp_icmp_ge 123 (by decide) dX11_fits_118 (fun c28 => ?_) (fun c28 => ?_)
              · replace H := H.1 c28
                refine wp_iincN (1 : Int32) (by decide) rfl (Nat.le_of_ble_eq_true rfl) dX11_fits_123 (ls' := fun v29 => [(6, xi v29), (1, xr l1), (2, xi l2), (3, xi l3), (4, xi l4), (5, xi l5)]) (fun _ => rfl) (fun v29 e30 => ?_)
                replace H := H v29 e30
                refine WP.at 126 rfl ?_
                refine wp_goto 79 (by decide) dX11_fits_126 ?_
                exact WP.pick [1, 2, 3, 4, 5, 0] rfl (hB79 v29 _ H)
              · replace H := H.2 c28
                refine wp_iconst (0 : Int32) (by decide) dX11_fits_121 ?_
                exact wp_iret (Or.inl rfl) dX11_fits_122 H
def p_M_fits_j49 (l1 : xN) (l2 : Int32) (l3 : Int32) (l4 : Int32) (h : xH) (Q : Int32 → xH → Prop) : Prop := ((l4 ≤ 0 → ((l3 ≤ 0 → (kd l1.1 = (2, 0)) ∧ (vp_in l2 (hS h l1 - 1)) ∧ ∀ v10 : Int32, v10 = hI h l1 l2.toNatClampNeg → (∃ f32, p_M_fits_L79 l1 l2 l3 l4 v10 (fun (h31 : xH) => Q (1 : Int32) h31) Q f32 (1 : Int32) h)) ∧ (¬ l3 ≤ 0 → (kd l1.1 = (2, 0)) ∧ (vp_in l3 (hS h l1 - 1)) ∧ ∀ v35 : Int32, v35 = hI h l1 l3.toNatClampNeg → (∃ f38, p_M_fits_L79 l1 l2 l3 l4 v35 (fun (h37 : xH) => Q (1 : Int32) h37) Q f38 (1 : Int32) h)))) ∧ (¬ l4 ≤ 0 → (kd l1.1 = (2, 0)) ∧ (vp_in l4 (hS h l1 - 1)) ∧ ∀ v41 : Int32, v41 = hI h l1 l4.toNatClampNeg → (∃ f44, p_M_fits_L79 l1 l2 l3 l4 v41 (fun (h43 : xH) => Q (1 : Int32) h43) Q f44 (1 : Int32) h)))
set_option maxRecDepth 100000 in
set_option maxHeartbeats 4000000 in
theorem t_M_fits_j49 (l1 : xN) (l2 : Int32) (l3 : Int32) (l4 : Int32) (h : xH) (Q : Int32 → xH → Prop) (H : p_M_fits_j49 l1 l2 l3 l4 h Q) : WP M_M_fits 49 [(1, xr l1), (2, xi l2), (3, xi l3), (4, xi l4)] [] h 0 (qi Q) := by
  unfold p_M_fits_j49 at H
  refine wp_iload rfl dX11_fits_49 ?_
  refine WP.at 51 rfl ?_
  refine wp_if_le 61 (by decide) dX11_fits_51 (fun c6 => ?_) (fun c6 => ?_)
  · replace H := H.1 c6
    refine wp_iload_n 3 rfl rfl dX11_fits_61 ?_
    refine WP.at 62 rfl ?_
    refine wp_if_le 71 (by decide) dX11_fits_62 (fun c7 => ?_) (fun c7 => ?_)
    · replace H := H.1 c7
      refine wp_aload_n 1 rfl rfl dX11_fits_71 ?_
      refine wp_iload_n 2 rfl rfl dX11_fits_72 ?_
      obtain ⟨q8, H⟩ := H
      obtain ⟨q9, H⟩ := H
      refine wp_iaload q8 q9 dX11_fits_73 ?_
      refine wp_nm (fun v10 e11 => ?_)
      replace H := H v10 e11
      refine wp_istore (Nat.le_of_ble_eq_true rfl) dX11_fits_74 (ls' := [(5, xi v10), (1, xr l1), (2, xi l2), (3, xi l3), (4, xi l4)]) rfl ?_
      refine wp_iconst (1 : Int32) (by decide) dX11_fits_76 ?_
      refine wp_istore (Nat.le_of_ble_eq_true rfl) dX11_fits_77 (ls' := [(6, xi (1 : Int32)), (5, xi v10), (1, xr l1), (2, xi l2), (3, xi l3), (4, xi l4)]) rfl ?_
      refine WP.at 79 rfl ?_
      obtain ⟨f32, H⟩ := H
      refine WP.pick [2, 3, 4, 5, 1, 0] rfl (t_M_fits_L79 l1 l2 l3 l4 v10 _ Q ?_ f32 (1 : Int32) _ H)
      · intro h31 H
        refine wp_iconst (1 : Int32) (by decide) dX11_fits_129 ?_
        exact wp_iret (Or.inr rfl) dX11_fits_130 H
    · replace H := H.2 c7
      refine wp_aload_n 1 rfl rfl dX11_fits_65 ?_
      refine wp_iload_n 3 rfl rfl dX11_fits_66 ?_
      obtain ⟨q33, H⟩ := H
      obtain ⟨q34, H⟩ := H
      refine wp_iaload q33 q34 dX11_fits_67 ?_
      refine WP.at 68 rfl ?_
      refine wp_goto 74 (by decide) dX11_fits_68 ?_
      refine wp_nm (fun v35 e36 => ?_)
      replace H := H v35 e36
      refine wp_istore (Nat.le_of_ble_eq_true rfl) dX11_fits_74 (ls' := [(5, xi v35), (1, xr l1), (2, xi l2), (3, xi l3), (4, xi l4)]) rfl ?_
      refine wp_iconst (1 : Int32) (by decide) dX11_fits_76 ?_
      refine wp_istore (Nat.le_of_ble_eq_true rfl) dX11_fits_77 (ls' := [(6, xi (1 : Int32)), (5, xi v35), (1, xr l1), (2, xi l2), (3, xi l3), (4, xi l4)]) rfl ?_
      refine WP.at 79 rfl ?_
      obtain ⟨f38, H⟩ := H
      refine WP.pick [2, 3, 4, 5, 1, 0] rfl (t_M_fits_L79 l1 l2 l3 l4 v35 _ Q ?_ f38 (1 : Int32) _ H)
      · intro h37 H
        refine wp_iconst (1 : Int32) (by decide) dX11_fits_129 ?_
        exact wp_iret (Or.inr rfl) dX11_fits_130 H
  · replace H := H.2 c6
    refine wp_aload_n 1 rfl rfl dX11_fits_54 ?_
    refine wp_iload rfl dX11_fits_55 ?_
    obtain ⟨q39, H⟩ := H
    obtain ⟨q40, H⟩ := H
    refine wp_iaload q39 q40 dX11_fits_57 ?_
    refine WP.at 58 rfl ?_
    refine wp_goto 74 (by decide) dX11_fits_58 ?_
    refine wp_nm (fun v41 e42 => ?_)
    replace H := H v41 e42
    refine wp_istore (Nat.le_of_ble_eq_true rfl) dX11_fits_74 (ls' := [(5, xi v41), (1, xr l1), (2, xi l2), (3, xi l3), (4, xi l4)]) rfl ?_
    refine wp_iconst (1 : Int32) (by decide) dX11_fits_76 ?_
    refine wp_istore (Nat.le_of_ble_eq_true rfl) dX11_fits_77 (ls' := [(6, xi (1 : Int32)), (5, xi v41), (1, xr l1), (2, xi l2), (3, xi l3), (4, xi l4)]) rfl ?_
    refine WP.at 79 rfl ?_
    obtain ⟨f44, H⟩ := H
    refine WP.pick [2, 3, 4, 5, 1, 0] rfl (t_M_fits_L79 l1 l2 l3 l4 v41 _ Q ?_ f44 (1 : Int32) _ H)
    · intro h43 H
      refine wp_iconst (1 : Int32) (by decide) dX11_fits_129 ?_
      exact wp_iret (Or.inr rfl) dX11_fits_130 H
def p_M_fits_j25 (l1 : xN) (l2 : Int32) (l3 : Int32) (l4 : Int32) (h : xH) (Q : Int32 → xH → Prop) : Prop := ((l4 ≤ 0 → p_M_fits_j49 l1 l2 l3 l4 h Q) ∧ (¬ l4 ≤ 0 → (kd l1.1 = (2, 0)) ∧ (vp_in l4 (hS h l1 - 1)) ∧ (((hI h l1 l4.toNatClampNeg) = 0 → Q (0 : Int32) h) ∧ (¬ (hI h l1 l4.toNatClampNeg) = 0 → (vp_in l4 (hS h l1 - 1)) ∧ (vp_in l3 (hS h l1 - 1)) ∧ (((hI h l1 l3.toNatClampNeg) ≤ (hI h l1 l4.toNatClampNeg) → p_M_fits_j49 l1 l2 l3 l4 h Q) ∧ (¬ (hI h l1 l3.toNatClampNeg) ≤ (hI h l1 l4.toNatClampNeg) → Q (0 : Int32) h))))))
set_option maxRecDepth 100000 in
set_option maxHeartbeats 4000000 in
theorem t_M_fits_j25 (l1 : xN) (l2 : Int32) (l3 : Int32) (l4 : Int32) (h : xH) (Q : Int32 → xH → Prop) (H : p_M_fits_j25 l1 l2 l3 l4 h Q) : WP M_M_fits 25 [(1, xr l1), (2, xi l2), (3, xi l3), (4, xi l4)] [] h 0 (qi Q) := by
  unfold p_M_fits_j25 at H
  refine wp_iload rfl dX11_fits_25 ?_
  refine WP.at 27 rfl ?_
  refine wp_if_le 49 (by decide) dX11_fits_27 (fun c5 => ?_) (fun c5 => ?_)
  · replace H := H.1 c5
    exact WP.pick [0, 1, 2, 3] rfl (t_M_fits_j49 l1 l2 l3 l4 _ _ H)
  · replace H := H.2 c5
    refine wp_aload_n 1 rfl rfl dX11_fits_30 ?_
    refine wp_iload rfl dX11_fits_31 ?_
    obtain ⟨q45, H⟩ := H
    obtain ⟨q46, H⟩ := H
    refine wp_iaload q45 q46 dX11_fits_33 ?_
    refine WP.at 34 rfl ?_
    refine wp_if_eq 47 (by decide) dX11_fits_34 (fun c47 => ?_) (fun c47 => ?_)
    · replace H := H.1 c47
      refine wp_iconst (0 : Int32) (by decide) dX11_fits_47 ?_
      exact wp_iret (Or.inl rfl) dX11_fits_48 H
    · replace H := H.2 c47
      refine wp_aload_n 1 rfl rfl dX11_fits_37 ?_
      refine wp_iload rfl dX11_fits_38 ?_
      obtain ⟨q48, H⟩ := H
      refine wp_iaload q45 q48 dX11_fits_40 ?_
      refine wp_aload_n 1 rfl rfl dX11_fits_41 ?_
      refine wp_iload_n 3 rfl rfl dX11_fits_42 ?_
      obtain ⟨q49, H⟩ := H
      refine wp_iaload q45 q49 dX11_fits_43 ?_
      refine WP.at 44 rfl ?_
      refine wp_icmp_ge 49 (by decide) dX11_fits_44 (fun c50 => ?_) (fun c50 => ?_)
      · replace H := H.1 c50
        exact WP.pick [0, 1, 2, 3] rfl (t_M_fits_j49 l1 l2 l3 l4 _ _ H)
      · replace H := H.2 c50
        refine wp_iconst (0 : Int32) (by decide) dX11_fits_47 ?_
        exact wp_iret (Or.inl rfl) dX11_fits_48 H
def p_M_fits (l0 : xN) (l1 : xN) (l2 : Int32) (l3 : Int32) (l4 : Int32) (h : xH) (Q : Int32 → xH → Prop) : Prop := (kd l1.1 = (2, 0)) ∧ (vp_in l2 (hS h l1 - 1)) ∧ (((hI h l1 l2.toNatClampNeg) = 0 → Q (0 : Int32) h) ∧ (¬ (hI h l1 l2.toNatClampNeg) = 0 → ((l3 ≤ 0 → p_M_fits_j25 l1 l2 l3 l4 h Q) ∧ (¬ l3 ≤ 0 → (vp_in l3 (hS h l1 - 1)) ∧ (((hI h l1 l3.toNatClampNeg) = 0 → Q (0 : Int32) h) ∧ (¬ (hI h l1 l3.toNatClampNeg) = 0 → (vp_in l3 (hS h l1 - 1)) ∧ (vp_in l2 (hS h l1 - 1)) ∧ (((hI h l1 l3.toNatClampNeg) < (hI h l1 l2.toNatClampNeg) → Q (0 : Int32) h) ∧ (¬ (hI h l1 l3.toNatClampNeg) < (hI h l1 l2.toNatClampNeg) → p_M_fits_j25 l1 l2 l3 l4 h Q))))))))
set_option maxRecDepth 100000 in
set_option maxHeartbeats 4000000 in
theorem t_M_fits (l0 : xN) (l1 : xN) (l2 : Int32) (l3 : Int32) (l4 : Int32) (h : xH) (Q : Int32 → xH → Prop) (H : p_M_fits l0 l1 l2 l3 l4 h Q) : WP M_M_fits 0 [(0, xr l0), (1, xr l1), (2, xi l2), (3, xi l3), (4, xi l4)] [] h 0 (qi Q) := by
  unfold p_M_fits at H
  refine wp_aload_n 1 rfl rfl dX11_fits_0 ?_
  refine wp_iload_n 2 rfl rfl dX11_fits_1 ?_
  obtain ⟨q1, H⟩ := H
  obtain ⟨q2, H⟩ := H
  refine wp_iaload q1 q2 dX11_fits_2 ?_
  refine WP.at 3 rfl ?_
  refine wp_if_eq 47 (by decide) dX11_fits_3 (fun c3 => ?_) (fun c3 => ?_)
  · replace H := H.1 c3
    refine wp_iconst (0 : Int32) (by decide) dX11_fits_47 ?_
    exact wp_iret (Or.inl rfl) dX11_fits_48 H
  · replace H := H.2 c3
    refine wp_iload_n 3 rfl rfl dX11_fits_6 ?_
    refine WP.at 7 rfl ?_
    refine wp_if_le 25 (by decide) dX11_fits_7 (fun c4 => ?_) (fun c4 => ?_)
    · replace H := H.1 c4
      exact WP.pick [1, 2, 3, 4] rfl (t_M_fits_j25 l1 l2 l3 l4 _ _ H)
    · replace H := H.2 c4
      refine wp_aload_n 1 rfl rfl dX11_fits_10 ?_
      refine wp_iload_n 3 rfl rfl dX11_fits_11 ?_
      obtain ⟨q51, H⟩ := H
      refine wp_iaload q1 q51 dX11_fits_12 ?_
      refine WP.at 13 rfl ?_
      refine wp_if_eq 47 (by decide) dX11_fits_13 (fun c52 => ?_) (fun c52 => ?_)
      · replace H := H.1 c52
        refine wp_iconst (0 : Int32) (by decide) dX11_fits_47 ?_
        exact wp_iret (Or.inl rfl) dX11_fits_48 H
      · replace H := H.2 c52
        refine wp_aload_n 1 rfl rfl dX11_fits_16 ?_
        refine wp_iload_n 3 rfl rfl dX11_fits_17 ?_
        obtain ⟨q53, H⟩ := H
        refine wp_iaload q1 q53 dX11_fits_18 ?_
        refine wp_aload_n 1 rfl rfl dX11_fits_19 ?_
        refine wp_iload_n 2 rfl rfl dX11_fits_20 ?_
        obtain ⟨q54, H⟩ := H
        refine wp_iaload q1 q54 dX11_fits_21 ?_
        refine WP.at 22 rfl ?_
        refine wp_icmp_lt 47 (by decide) dX11_fits_22 (fun c55 => ?_) (fun c55 => ?_)
        · replace H := H.1 c55
          refine wp_iconst (0 : Int32) (by decide) dX11_fits_47 ?_
          exact wp_iret (Or.inl rfl) dX11_fits_48 H
        · replace H := H.2 c55
          exact WP.pick [1, 2, 3, 4] rfl (t_M_fits_j25 l1 l2 l3 l4 _ _ H)
def p_M_wins_j80 (s0 : Int32) (s1 : Int32) (h : xH) (Q : Int32 → xH → Prop) : Prop := ((s0 < s1 → Q (0 : Int32) h) ∧ (¬ s0 < s1 → Q (1 : Int32) h))
set_option maxRecDepth 100000 in
set_option maxHeartbeats 4000000 in
theorem t_M_wins_j80 (s0 : Int32) (s1 : Int32) (h : xH) (Q : Int32 → xH → Prop) (H : p_M_wins_j80 s0 s1 h Q) : WP M_M_wins 80 [] [xi s0, xi s1] h 0 (qi Q) := by
  unfold p_M_wins_j80 at H
  refine WP.at 80 rfl ?_
  refine wp_icmp_gt 87 (by decide) dX11_wins_80 (fun c15 => ?_) (fun c15 => ?_)
  · replace H := H.1 c15
    refine wp_iconst (0 : Int32) (by decide) dX11_wins_87 ?_
    exact wp_iret (Or.inl rfl) dX11_wins_88 H
  · replace H := H.2 c15
    refine wp_iconst (1 : Int32) (by decide) dX11_wins_83 ?_
    refine WP.at 84 rfl ?_
    refine wp_goto 88 (by decide) dX11_wins_84 ?_
    exact wp_iret (Or.inr rfl) dX11_wins_88 H
def p_M_wins (l0 : xN) (l1 : Int32) (l2 : Int32) (l3 : Int32) (l4 : Int32) (h : xH) (Q : Int32 → xH → Prop) : Prop := p_M_kindOf l1 h (fun (v2 : Int32) (h1 : xH) => ((v2 = (0 : Int32) → (kd l0.1 = (1, 10)) ∧ p_M_fits l0 (hR h1 l0 33) l2 (0 : Int32) (0 : Int32) h1 (fun (v5 : Int32) (h4 : xH) => (v5 = 0 ∨ v5 = 1) ∧ Q v5 h4)) ∧ (v2 = (1 : Int32) → (kd l0.1 = (1, 10)) ∧ (kd (hR h1 l0 33).1 = (2, 0)) ∧ (vp_in l2 (hS h1 (hR h1 l0 33) - 1)) ∧ (((hI h1 (hR h1 l0 33) l2.toNatClampNeg) ≤ 0 → Q (0 : Int32) h1) ∧ (¬ (hI h1 (hR h1 l0 33) l2.toNatClampNeg) ≤ 0 → (vp_in l2 (hS h1 (hR h1 l0 33) - 1)) ∧ p_M_running l0 (l1 / (4 : Int32)) h1 (fun (v13 : Int32) (h12 : xH) => (((8 : Int32) ≤ v13 → p_M_wins_j80 (3 : Int32) (hI h1 (hR h1 l0 33) l2.toNatClampNeg) h12 Q) ∧ (¬ (8 : Int32) ≤ v13 → p_M_wins_j80 (2 : Int32) (hI h1 (hR h1 l0 33) l2.toNatClampNeg) h12 Q)))))) ∧ (v2 = (2 : Int32) → (kd l0.1 = (1, 10)) ∧ p_M_fits l0 (hR h1 l0 33) l2 l3 (0 : Int32) h1 (fun (v18 : Int32) (h17 : xH) => ((¬ v18 = 0 → Q (1 : Int32) h17) ∧ (v18 = 0 → p_M_fits l0 (hR h17 l0 33) l3 l2 (0 : Int32) h17 (fun (v21 : Int32) (h20 : xH) => ((v21 = 0 → Q (0 : Int32) h20) ∧ (¬ v21 = 0 → Q (1 : Int32) h20))))))) ∧ (v2 = (3 : Int32) → (kd l0.1 = (1, 10)) ∧ p_M_fits l0 (hR h1 l0 33) l2 l3 l4 h1 (fun (v25 : Int32) (h24 : xH) => (v25 = 0 ∨ v25 = 1) ∧ Q v25 h24)) ∧ ((∀ q ∈ ([(0 : Int32), (1 : Int32), (2 : Int32), (3 : Int32)] : List Int32), v2 ≠ q) → (kd l0.1 = (1, 10)) ∧ p_M_fits l0 (hR h1 l0 33) l2 (0 : Int32) (0 : Int32) h1 (fun (v29 : Int32) (h28 : xH) => ((v29 = 0 → Q (0 : Int32) h28) ∧ (¬ v29 = 0 → p_M_fits l0 (hR h28 l0 34) l3 (0 : Int32) (0 : Int32) h28 (fun (v32 : Int32) (h31 : xH) => ((v32 = 0 → Q (0 : Int32) h31) ∧ (¬ v32 = 0 → Q (1 : Int32) h31)))))))))
set_option maxRecDepth 100000 in
set_option maxHeartbeats 4000000 in
theorem t_M_wins (l0 : xN) (l1 : Int32) (l2 : Int32) (l3 : Int32) (l4 : Int32) (h : xH) (Q : Int32 → xH → Prop) (H : p_M_wins l0 l1 l2 l3 l4 h Q) : WP M_M_wins 0 [(0, xr l0), (1, xi l1), (2, xi l2), (3, xi l3), (4, xi l4)] [] h 0 (qi Q) := by
  unfold p_M_wins at H
  refine wp_iload_n 1 rfl rfl dX11_wins_0 ?_
  refine WP.at 1 rfl ?_
  refine wp_cSi (M2 := M_M_kindOf) [xi l1] rfl ls_X11_218 mo_M_kindOf (Nat.le_of_ble_eq_true rfl) ⟨(Nat.le_of_ble_eq_true rfl), (Nat.le_of_ble_eq_true rfl)⟩ (Nat.le_of_ble_eq_true rfl) (Nat.le_of_ble_eq_true rfl) dX11_wins_1 (t_M_kindOf l1 _ _ H) (fun v2 h1 H => ?_)
  refine WP.at 4 rfl ?_
  refine wp_tsw dX11_wins_4 [((0 : Int32), 36), ((1 : Int32), 48), ((2 : Int32), 89), ((3 : Int32), 123)] 136 (by decide) (by decide +kernel) (by decide +kernel) ?_ ?_
  · refine List.forall_mem_cons.mpr ⟨fun c0 => ?_, List.forall_mem_cons.mpr ⟨fun c0 => ?_, List.forall_mem_cons.mpr ⟨fun c0 => ?_, List.forall_mem_cons.mpr ⟨fun c0 => ?_, fun _ z => absurd z List.not_mem_nil⟩⟩⟩⟩
    · replace H := H.1 c0
      refine wp_aload_n 0 rfl rfl dX11_wins_36 ?_
      refine wp_aload_n 0 rfl rfl dX11_wins_37 ?_
      obtain ⟨q3, H⟩ := H
      refine wp_getr coX11 33 (Nat.le_of_ble_eq_true rfl) fl_X11_95 rfl q3 dX11_wins_38 ?_
      refine wp_iload_n 2 rfl rfl dX11_wins_41 ?_
      refine wp_iconst (0 : Int32) (by decide) dX11_wins_42 ?_
      refine wp_iconst (0 : Int32) (by decide) dX11_wins_43 ?_
      refine WP.at 44 rfl ?_
      refine wp_cVi (M2 := M_M_fits) coX11 l0 q3 [xr (hR h1 l0 33), xi l2, xi (0 : Int32), xi (0 : Int32)] rfl lv_X11_221 mo_M_fits (Nat.le_of_ble_eq_true rfl) ⟨(Nat.le_of_ble_eq_true rfl), (Nat.le_of_ble_eq_true rfl)⟩ (Nat.le_of_ble_eq_true rfl) (Nat.le_of_ble_eq_true rfl) dX11_wins_44 (t_M_fits l0 (hR h1 l0 33) l2 (0 : Int32) (0 : Int32) _ _ H) (fun v5 h4 H => ?_)
      refine WP.at 47 rfl ?_
      obtain ⟨q6, H⟩ := H
      exact wp_iret q6 dX11_wins_47 H
    · replace H := H.2.1 c0
      refine wp_aload_n 0 rfl rfl dX11_wins_48 ?_
      obtain ⟨q7, H⟩ := H
      refine wp_getr coX11 33 (Nat.le_of_ble_eq_true rfl) fl_X11_95 rfl q7 dX11_wins_49 ?_
      refine wp_iload_n 2 rfl rfl dX11_wins_52 ?_
      obtain ⟨q8, H⟩ := H
      obtain ⟨q9, H⟩ := H
      refine wp_iaload q8 q9 dX11_wins_53 ?_
      refine WP.at 54 rfl ?_
      refine wp_if_le 87 (by decide) dX11_wins_54 (fun c10 => ?_) (fun c10 => ?_)
      · replace H := H.1 c10
        refine wp_iconst (0 : Int32) (by decide) dX11_wins_87 ?_
        exact wp_iret (Or.inl rfl) dX11_wins_88 H
      · replace H := H.2 c10
        refine wp_aload_n 0 rfl rfl dX11_wins_57 ?_
        refine wp_getr coX11 33 (Nat.le_of_ble_eq_true rfl) fl_X11_95 rfl q7 dX11_wins_58 ?_
        refine wp_iload_n 2 rfl rfl dX11_wins_61 ?_
        obtain ⟨q11, H⟩ := H
        refine wp_iaload q8 q11 dX11_wins_62 ?_
        refine wp_aload_n 0 rfl rfl dX11_wins_63 ?_
        refine wp_iload_n 1 rfl rfl dX11_wins_64 ?_
        refine wp_iconst (4 : Int32) (by decide) dX11_wins_65 ?_
        refine WP.at 66 rfl ?_
        refine wp_idiv (by decide) dX11_wins_66 ?_
        refine WP.at 67 rfl ?_
        refine wp_cVi (M2 := M_M_running) coX11 l0 q7 [xi (l1 / (4 : Int32))] rfl lv_X11_212 mo_M_running (Nat.le_of_ble_eq_true rfl) ⟨(Nat.le_of_ble_eq_true rfl), (Nat.le_of_ble_eq_true rfl)⟩ (Nat.le_of_ble_eq_true rfl) (Nat.le_of_ble_eq_true rfl) dX11_wins_67 (t_M_running l0 (l1 / (4 : Int32)) _ _ H) (fun v13 h12 H => ?_)
        refine wp_bipush (8 : Int32) (by decide) dX11_wins_70 ?_
        refine WP.at 72 rfl ?_
        refine wp_icmp_ge 79 (by decide) dX11_wins_72 (fun c14 => ?_) (fun c14 => ?_)
        · replace H := H.1 c14
          refine wp_iconst (3 : Int32) (by decide) dX11_wins_79 ?_
          refine WP.at 80 rfl ?_
          exact WP.pick [] rfl (t_M_wins_j80 (3 : Int32) (hI h1 (hR h1 l0 33) l2.toNatClampNeg) _ _ H)
        · replace H := H.2 c14
          refine wp_iconst (2 : Int32) (by decide) dX11_wins_75 ?_
          refine WP.at 76 rfl ?_
          refine wp_goto 80 (by decide) dX11_wins_76 ?_
          exact WP.pick [] rfl (t_M_wins_j80 (2 : Int32) (hI h1 (hR h1 l0 33) l2.toNatClampNeg) _ _ H)
    · replace H := H.2.2.1 c0
      refine wp_aload_n 0 rfl rfl dX11_wins_89 ?_
      refine wp_aload_n 0 rfl rfl dX11_wins_90 ?_
      obtain ⟨q16, H⟩ := H
      refine wp_getr coX11 33 (Nat.le_of_ble_eq_true rfl) fl_X11_95 rfl q16 dX11_wins_91 ?_
      refine wp_iload_n 2 rfl rfl dX11_wins_94 ?_
      refine wp_iload_n 3 rfl rfl dX11_wins_95 ?_
      refine wp_iconst (0 : Int32) (by decide) dX11_wins_96 ?_
      refine WP.at 97 rfl ?_
      refine wp_cVi (M2 := M_M_fits) coX11 l0 q16 [xr (hR h1 l0 33), xi l2, xi l3, xi (0 : Int32)] rfl lv_X11_221 mo_M_fits (Nat.le_of_ble_eq_true rfl) ⟨(Nat.le_of_ble_eq_true rfl), (Nat.le_of_ble_eq_true rfl)⟩ (Nat.le_of_ble_eq_true rfl) (Nat.le_of_ble_eq_true rfl) dX11_wins_97 (t_M_fits l0 (hR h1 l0 33) l2 l3 (0 : Int32) _ _ H) (fun v18 h17 H => ?_)
      refine WP.at 100 rfl ?_
      refine WP.at 100 rfl ?_
      refine wp_if_ne 117 (by decide) dX11_wins_100 (fun c19 => ?_) (fun c19 => ?_)
      · replace H := H.1 c19
        refine wp_iconst (1 : Int32) (by decide) dX11_wins_117 ?_
        refine WP.at 118 rfl ?_
        refine wp_goto 122 (by decide) dX11_wins_118 ?_
        exact wp_iret (Or.inr rfl) dX11_wins_122 H
      · replace H := H.2 c19
        refine wp_aload_n 0 rfl rfl dX11_wins_103 ?_
        refine wp_aload_n 0 rfl rfl dX11_wins_104 ?_
        refine wp_getr coX11 33 (Nat.le_of_ble_eq_true rfl) fl_X11_95 rfl q16 dX11_wins_105 ?_
        refine wp_iload_n 3 rfl rfl dX11_wins_108 ?_
        refine wp_iload_n 2 rfl rfl dX11_wins_109 ?_
        refine wp_iconst (0 : Int32) (by decide) dX11_wins_110 ?_
        refine WP.at 111 rfl ?_
        refine wp_cVi (M2 := M_M_fits) coX11 l0 q16 [xr (hR h17 l0 33), xi l3, xi l2, xi (0 : Int32)] rfl lv_X11_221 mo_M_fits (Nat.le_of_ble_eq_true rfl) ⟨(Nat.le_of_ble_eq_true rfl), (Nat.le_of_ble_eq_true rfl)⟩ (Nat.le_of_ble_eq_true rfl) (Nat.le_of_ble_eq_true rfl) dX11_wins_111 (t_M_fits l0 (hR h17 l0 33) l3 l2 (0 : Int32) _ _ H) (fun v21 h20 H => ?_)
        refine WP.at 114 rfl ?_
        refine WP.at 114 rfl ?_
        refine wp_if_eq 121 (by decide) dX11_wins_114 (fun c22 => ?_) (fun c22 => ?_)
        · replace H := H.1 c22
          refine wp_iconst (0 : Int32) (by decide) dX11_wins_121 ?_
          exact wp_iret (Or.inl rfl) dX11_wins_122 H
        · replace H := H.2 c22
          refine wp_iconst (1 : Int32) (by decide) dX11_wins_117 ?_
          refine WP.at 118 rfl ?_
          refine wp_goto 122 (by decide) dX11_wins_118 ?_
          exact wp_iret (Or.inr rfl) dX11_wins_122 H
    · replace H := H.2.2.2.1 c0
      refine wp_aload_n 0 rfl rfl dX11_wins_123 ?_
      refine wp_aload_n 0 rfl rfl dX11_wins_124 ?_
      obtain ⟨q23, H⟩ := H
      refine wp_getr coX11 33 (Nat.le_of_ble_eq_true rfl) fl_X11_95 rfl q23 dX11_wins_125 ?_
      refine wp_iload_n 2 rfl rfl dX11_wins_128 ?_
      refine wp_iload_n 3 rfl rfl dX11_wins_129 ?_
      refine wp_iload rfl dX11_wins_130 ?_
      refine WP.at 132 rfl ?_
      refine wp_cVi (M2 := M_M_fits) coX11 l0 q23 [xr (hR h1 l0 33), xi l2, xi l3, xi l4] rfl lv_X11_221 mo_M_fits (Nat.le_of_ble_eq_true rfl) ⟨(Nat.le_of_ble_eq_true rfl), (Nat.le_of_ble_eq_true rfl)⟩ (Nat.le_of_ble_eq_true rfl) (Nat.le_of_ble_eq_true rfl) dX11_wins_132 (t_M_fits l0 (hR h1 l0 33) l2 l3 l4 _ _ H) (fun v25 h24 H => ?_)
      refine WP.at 135 rfl ?_
      obtain ⟨q26, H⟩ := H
      exact wp_iret q26 dX11_wins_135 H
  · intro c0
    replace H := H.2.2.2.2 c0
    refine wp_aload_n 0 rfl rfl dX11_wins_136 ?_
    refine wp_aload_n 0 rfl rfl dX11_wins_137 ?_
    obtain ⟨q27, H⟩ := H
    refine wp_getr coX11 33 (Nat.le_of_ble_eq_true rfl) fl_X11_95 rfl q27 dX11_wins_138 ?_
    refine wp_iload_n 2 rfl rfl dX11_wins_141 ?_
    refine wp_iconst (0 : Int32) (by decide) dX11_wins_142 ?_
    refine wp_iconst (0 : Int32) (by decide) dX11_wins_143 ?_
    refine WP.at 144 rfl ?_
    refine wp_cVi (M2 := M_M_fits) coX11 l0 q27 [xr (hR h1 l0 33), xi l2, xi (0 : Int32), xi (0 : Int32)] rfl lv_X11_221 mo_M_fits (Nat.le_of_ble_eq_true rfl) ⟨(Nat.le_of_ble_eq_true rfl), (Nat.le_of_ble_eq_true rfl)⟩ (Nat.le_of_ble_eq_true rfl) (Nat.le_of_ble_eq_true rfl) dX11_wins_144 (t_M_fits l0 (hR h1 l0 33) l2 (0 : Int32) (0 : Int32) _ _ H) (fun v29 h28 H => ?_)
    refine WP.at 147 rfl ?_
    refine WP.at 147 rfl ?_
    refine wp_if_eq 168 (by decide) dX11_wins_147 (fun c30 => ?_) (fun c30 => ?_)
    · replace H := H.1 c30
      refine wp_iconst (0 : Int32) (by decide) dX11_wins_168 ?_
      exact wp_iret (Or.inl rfl) dX11_wins_169 H
    · replace H := H.2 c30
      refine wp_aload_n 0 rfl rfl dX11_wins_150 ?_
      refine wp_aload_n 0 rfl rfl dX11_wins_151 ?_
      refine wp_getr coX11 34 (Nat.le_of_ble_eq_true rfl) fl_X11_98 rfl q27 dX11_wins_152 ?_
      refine wp_iload_n 3 rfl rfl dX11_wins_155 ?_
      refine wp_iconst (0 : Int32) (by decide) dX11_wins_156 ?_
      refine wp_iconst (0 : Int32) (by decide) dX11_wins_157 ?_
      refine WP.at 158 rfl ?_
      refine wp_cVi (M2 := M_M_fits) coX11 l0 q27 [xr (hR h28 l0 34), xi l3, xi (0 : Int32), xi (0 : Int32)] rfl lv_X11_221 mo_M_fits (Nat.le_of_ble_eq_true rfl) ⟨(Nat.le_of_ble_eq_true rfl), (Nat.le_of_ble_eq_true rfl)⟩ (Nat.le_of_ble_eq_true rfl) (Nat.le_of_ble_eq_true rfl) dX11_wins_158 (t_M_fits l0 (hR h28 l0 34) l3 (0 : Int32) (0 : Int32) _ _ H) (fun v32 h31 H => ?_)
      refine WP.at 161 rfl ?_
      refine WP.at 161 rfl ?_
      refine wp_if_eq 168 (by decide) dX11_wins_161 (fun c33 => ?_) (fun c33 => ?_)
      · replace H := H.1 c33
        refine wp_iconst (0 : Int32) (by decide) dX11_wins_168 ?_
        exact wp_iret (Or.inl rfl) dX11_wins_169 H
      · replace H := H.2 c33
        refine wp_iconst (1 : Int32) (by decide) dX11_wins_164 ?_
        refine WP.at 165 rfl ?_
        refine wp_goto 169 (by decide) dX11_wins_165 ?_
        exact wp_iret (Or.inr rfl) dX11_wins_169 H
def p_M_figure_j121 (s0 : Int32) (s1 : Int32) (s2 : xN) (l0 : xN) (l1 : Int32) (l2 : Int32) (l3 : Int32) (l4 : Int32) (l5 : Int32) (l6 : Int32) (B16 : Int32 → Int32 → xH → Prop) (h : xH) (Q : xH → Prop) : Prop := (kd s2.1 = (1, 10)) ∧ ∀ h26 : xH, h26 = sI h s2 41 (s1 + s0) → ((l6 = 0 → ∀ v29 : Int32, v29 = l4 + (0 : Int32) → ∀ v31 : Int32, v31 = l5 + (1 : Int32) → B16 v29 v31 h26) ∧ (¬ l6 = 0 → (kd l0.1 = (1, 10)) ∧ (kd (hR h26 l0 39).1 = (2, 0)) ∧ (vp_in l5 (hS h26 (hR h26 l0 39) - 1)) ∧ (kd (hR h26 l0 8).1 = (2, 0)) ∧ (vp_in l1 (hS h26 (hR h26 l0 8) - 1)) ∧ ∀ v38 : Int32, v38 = l4 + ((hI h26 (hR h26 l0 39) l5.toNatClampNeg) * (hI h26 (hR h26 l0 8) l1.toNatClampNeg)) → ∀ v40 : Int32, v40 = l5 + (1 : Int32) → B16 v38 v40 h26))
set_option maxRecDepth 100000 in
set_option maxHeartbeats 4000000 in
theorem t_M_figure_j121 (s0 : Int32) (s1 : Int32) (s2 : xN) (l0 : xN) (l1 : Int32) (l2 : Int32) (l3 : Int32) (l4 : Int32) (l5 : Int32) (l6 : Int32) (B16 : Int32 → Int32 → xH → Prop) (h : xH) (Q : xH → Prop) (hB16 : ∀ (x4 : Int32) (x5 : Int32) (h : xH), B16 x4 x5 h → WP M_M_figure 16 [(0, xr l0), (1, xi l1), (2, xi l2), (3, xi l3), (4, xi x4), (5, xi x5)] [] h 0 (qv Q)) (H : p_M_figure_j121 s0 s1 s2 l0 l1 l2 l3 l4 l5 l6 B16 h Q) : WP M_M_figure 121 [(0, xr l0), (1, xi l1), (2, xi l2), (3, xi l3), (4, xi l4), (5, xi l5), (6, xi l6)] [xi s0, xi s1, xr s2] h 0 (qv Q) := by
  unfold p_M_figure_j121 at H
  refine wp_iadd dX11_figure_121 ?_
  obtain ⟨q25, H⟩ := H
  refine wp_puti coX11 41 (Nat.le_of_ble_eq_true rfl) fl_X11_225 rfl rfl ⟨rfl, rfl⟩ q25 dX11_figure_122 ?_
  refine wp_nh (fun h26 e27 => ?_)
  replace H := H h26 e27
  refine wp_iload rfl dX11_figure_125 ?_
  refine wp_iload rfl dX11_figure_127 ?_
  refine WP.at 129 rfl ?_
  refine wp_if_eq 149 (by decide) dX11_figure_129 (fun c28 => ?_) (fun c28 => ?_)
  · replace H := H.1 c28
    refine wp_iconst (0 : Int32) (by decide) dX11_figure_149 ?_
    refine wp_iadd dX11_figure_150 ?_
    refine wp_nm (fun v29 e30 => ?_)
    replace H := H v29 e30
    refine wp_istore (Nat.le_of_ble_eq_true rfl) dX11_figure_151 (ls' := [(4, xi v29), (0, xr l0), (1, xi l1), (2, xi l2), (3, xi l3), (5, xi l5), (6, xi l6)]) rfl ?_
    refine wp_iincN (1 : Int32) (by decide) rfl (Nat.le_of_ble_eq_true rfl) dX11_figure_153 (ls' := fun v31 => [(5, xi v31), (4, xi v29), (0, xr l0), (1, xi l1), (2, xi l2), (3, xi l3), (6, xi l6)]) (fun _ => rfl) (fun v31 e32 => ?_)
    replace H := H v31 e32
    refine WP.at 156 rfl ?_
    refine wp_goto 16 (by decide) dX11_figure_156 ?_
    exact WP.pick [2, 3, 4, 5, 1, 0] rfl (hB16 v29 v31 _ H)
  · replace H := H.2 c28
    refine wp_aload_n 0 rfl rfl dX11_figure_132 ?_
    obtain ⟨q33, H⟩ := H
    refine wp_getr coX11 39 (Nat.le_of_ble_eq_true rfl) fl_X11_110 rfl q33 dX11_figure_133 ?_
    refine wp_iload rfl dX11_figure_136 ?_
    obtain ⟨q34, H⟩ := H
    obtain ⟨q35, H⟩ := H
    refine wp_iaload q34 q35 dX11_figure_138 ?_
    refine wp_aload_n 0 rfl rfl dX11_figure_139 ?_
    refine wp_getr coX11 8 (Nat.le_of_ble_eq_true rfl) fl_X11_32 rfl q33 dX11_figure_140 ?_
    refine wp_iload_n 1 rfl rfl dX11_figure_143 ?_
    refine WP.at 144 rfl ?_
    obtain ⟨q36, H⟩ := H
    obtain ⟨q37, H⟩ := H
    refine wp_iaload q36 q37 dX11_figure_144 ?_
    refine wp_imul dX11_figure_145 ?_
    refine WP.at 146 rfl ?_
    refine wp_goto 150 (by decide) dX11_figure_146 ?_
    refine wp_iadd dX11_figure_150 ?_
    refine wp_nm (fun v38 e39 => ?_)
    replace H := H v38 e39
    refine wp_istore (Nat.le_of_ble_eq_true rfl) dX11_figure_151 (ls' := [(4, xi v38), (0, xr l0), (1, xi l1), (2, xi l2), (3, xi l3), (5, xi l5), (6, xi l6)]) rfl ?_
    refine wp_iincN (1 : Int32) (by decide) rfl (Nat.le_of_ble_eq_true rfl) dX11_figure_153 (ls' := fun v40 => [(5, xi v40), (4, xi v38), (0, xr l0), (1, xi l1), (2, xi l2), (3, xi l3), (6, xi l6)]) (fun _ => rfl) (fun v40 e41 => ?_)
    replace H := H v40 e41
    refine WP.at 156 rfl ?_
    refine wp_goto 16 (by decide) dX11_figure_156 ?_
    exact WP.pick [2, 3, 4, 5, 1, 0] rfl (hB16 v38 v40 _ H)
def p_M_figure_j105 (s0 : Int32) (s1 : Int32) (s2 : xN) (l0 : xN) (l1 : Int32) (l2 : Int32) (l3 : Int32) (l4 : Int32) (l5 : Int32) (l6 : Int32) (B16 : Int32 → Int32 → xH → Prop) (h : xH) (Q : xH → Prop) : Prop := (kd s2.1 = (2, 0)) ∧ (vp_in s1 (hS h s2 - 1)) ∧ ∀ h21 : xH, h21 = sI h s2 s1.toNatClampNeg s0 → (kd l0.1 = (1, 10)) ∧ ((l6 = 0 → p_M_figure_j121 (0 : Int32) (hI h21 l0 41) l0 l0 l1 l2 l3 l4 l5 l6 B16 h21 Q) ∧ (¬ l6 = 0 → p_M_figure_j121 (1 : Int32) (hI h21 l0 41) l0 l0 l1 l2 l3 l4 l5 l6 B16 h21 Q))
set_option maxRecDepth 100000 in
set_option maxHeartbeats 4000000 in
theorem t_M_figure_j105 (s0 : Int32) (s1 : Int32) (s2 : xN) (l0 : xN) (l1 : Int32) (l2 : Int32) (l3 : Int32) (l4 : Int32) (l5 : Int32) (l6 : Int32) (B16 : Int32 → Int32 → xH → Prop) (h : xH) (Q : xH → Prop) (hB16 : ∀ (x4 : Int32) (x5 : Int32) (h : xH), B16 x4 x5 h → WP M_M_figure 16 [(0, xr l0), (1, xi l1), (2, xi l2), (3, xi l3), (4, xi x4), (5, xi x5)] [] h 0 (qv Q)) (H : p_M_figure_j105 s0 s1 s2 l0 l1 l2 l3 l4 l5 l6 B16 h Q) : WP M_M_figure 105 [(0, xr l0), (1, xi l1), (2, xi l2), (3, xi l3), (4, xi l4), (5, xi l5), (6, xi l6)] [xi s0, xi s1, xr s2] h 0 (qv Q) := by
  unfold p_M_figure_j105 at H
  obtain ⟨q19, H⟩ := H
  obtain ⟨q20, H⟩ := H
  refine wp_iastore q19 q20 dX11_figure_105 ?_
  refine wp_nh (fun h21 e22 => ?_)
  replace H := H h21 e22
  refine wp_aload_n 0 rfl rfl dX11_figure_106 ?_
  refine wp_dup rfl dX11_figure_107 ?_
  obtain ⟨q23, H⟩ := H
  refine wp_geti coX11 41 (Nat.le_of_ble_eq_true rfl) fl_X11_225 rfl q23 dX11_figure_108 ?_
  refine wp_iload rfl dX11_figure_111 ?_
  refine WP.at 113 rfl ?_
  refine wp_if_eq 120 (by decide) dX11_figure_113 (fun c24 => ?_) (fun c24 => ?_)
  · replace H := H.1 c24
    refine wp_iconst (0 : Int32) (by decide) dX11_figure_120 ?_
    refine WP.at 121 rfl ?_
    exact WP.pick [0, 1, 2, 3, 4, 5, 6] rfl (t_M_figure_j121 (0 : Int32) (hI h21 l0 41) l0 l0 l1 l2 l3 l4 l5 l6 _ _ _ hB16 H)
  · replace H := H.2 c24
    refine wp_iconst (1 : Int32) (by decide) dX11_figure_116 ?_
    refine WP.at 117 rfl ?_
    refine wp_goto 121 (by decide) dX11_figure_117 ?_
    exact WP.pick [0, 1, 2, 3, 4, 5, 6] rfl (t_M_figure_j121 (1 : Int32) (hI h21 l0 41) l0 l0 l1 l2 l3 l4 l5 l6 _ _ _ hB16 H)
def p_M_figure_j87 (s0 : Int32) (l0 : xN) (l1 : Int32) (l2 : Int32) (l3 : Int32) (l4 : Int32) (l5 : Int32) (B16 : Int32 → Int32 → xH → Prop) (h : xH) (Q : xH → Prop) : Prop := (kd l0.1 = (1, 10)) ∧ ((s0 = 0 → p_M_figure_j105 (0 : Int32) l5 (hR h l0 40) l0 l1 l2 l3 l4 l5 s0 B16 h Q) ∧ (¬ s0 = 0 → p_M_figure_j105 (1 : Int32) l5 (hR h l0 40) l0 l1 l2 l3 l4 l5 s0 B16 h Q))
set_option maxRecDepth 100000 in
set_option maxHeartbeats 4000000 in
theorem t_M_figure_j87 (s0 : Int32) (l0 : xN) (l1 : Int32) (l2 : Int32) (l3 : Int32) (l4 : Int32) (l5 : Int32) (B16 : Int32 → Int32 → xH → Prop) (h : xH) (Q : xH → Prop) (hB16 : ∀ (x4 : Int32) (x5 : Int32) (h : xH), B16 x4 x5 h → WP M_M_figure 16 [(0, xr l0), (1, xi l1), (2, xi l2), (3, xi l3), (4, xi x4), (5, xi x5)] [] h 0 (qv Q)) (H : p_M_figure_j87 s0 l0 l1 l2 l3 l4 l5 B16 h Q) : WP M_M_figure 87 [(0, xr l0), (1, xi l1), (2, xi l2), (3, xi l3), (4, xi l4), (5, xi l5)] [xi s0] h 0 (qv Q) := by
  unfold p_M_figure_j87 at H
  refine wp_istore (Nat.le_of_ble_eq_true rfl) dX11_figure_87 (ls' := [(6, xi s0), (0, xr l0), (1, xi l1), (2, xi l2), (3, xi l3), (4, xi l4), (5, xi l5)]) rfl ?_
  refine wp_aload_n 0 rfl rfl dX11_figure_89 ?_
  obtain ⟨q17, H⟩ := H
  refine wp_getr coX11 40 (Nat.le_of_ble_eq_true rfl) fl_X11_113 rfl q17 dX11_figure_90 ?_
  refine wp_iload rfl dX11_figure_93 ?_
  refine wp_iload rfl dX11_figure_95 ?_
  refine WP.at 97 rfl ?_
  refine wp_if_eq 104 (by decide) dX11_figure_97 (fun c18 => ?_) (fun c18 => ?_)
  · replace H := H.1 c18
    refine wp_iconst (0 : Int32) (by decide) dX11_figure_104 ?_
    refine WP.at 105 rfl ?_
    exact WP.pick [1, 2, 3, 4, 5, 6, 0] rfl (t_M_figure_j105 (0 : Int32) l5 (hR h l0 40) l0 l1 l2 l3 l4 l5 s0 _ _ _ hB16 H)
  · replace H := H.2 c18
    refine wp_iconst (1 : Int32) (by decide) dX11_figure_100 ?_
    refine WP.at 101 rfl ?_
    refine wp_goto 105 (by decide) dX11_figure_101 ?_
    exact WP.pick [1, 2, 3, 4, 5, 6, 0] rfl (t_M_figure_j105 (1 : Int32) l5 (hR h l0 40) l0 l1 l2 l3 l4 l5 s0 _ _ _ hB16 H)
def p_M_figure_L16 (l0 : xN) (l1 : Int32) (l2 : Int32) (l3 : Int32) (K16_159 : Int32 → xH → Prop) (Q : xH → Prop) : Nat → Int32 → Int32 → xH → Prop
  | 0, _, _, _ => False
  | f + 1, l4, l5, h => ((l3 ≤ l5 → K16_159 l4 h) ∧ (¬ l3 ≤ l5 → (kd l0.1 = (1, 10)) ∧ (kd (hR h l0 39).1 = (2, 0)) ∧ (vp_in l5 (hS h (hR h l0 39) - 1)) ∧ (kd (hR h l0 8).1 = (2, 0)) ∧ (vp_in l1 (hS h (hR h l0 8) - 1)) ∧ ∀ h12 : xH, h12 = sI h l0 42 ((hI h l0 42) + ((hI h (hR h l0 39) l5.toNatClampNeg) * (hI h (hR h l0 8) l1.toNatClampNeg))) → p_M_isVoid l0 l1 h12 (fun (v15 : Int32) (h14 : xH) => ((¬ v15 = 0 → p_M_figure_j87 (0 : Int32) l0 l1 l2 l3 l4 l5 (p_M_figure_L16 l0 l1 l2 l3 K16_159 Q f) h14 Q) ∧ (v15 = 0 → (kd (hR h14 l0 36).1 = (2, 0)) ∧ (vp_in l5 (hS h14 (hR h14 l0 36) - 1)) ∧ (kd (hR h14 l0 37).1 = (2, 0)) ∧ (vp_in l5 (hS h14 (hR h14 l0 37) - 1)) ∧ (kd (hR h14 l0 38).1 = (2, 0)) ∧ (vp_in l5 (hS h14 (hR h14 l0 38) - 1)) ∧ p_M_wins l0 l1 (hI h14 (hR h14 l0 36) l5.toNatClampNeg) (hI h14 (hR h14 l0 37) l5.toNatClampNeg) (hI h14 (hR h14 l0 38) l5.toNatClampNeg) h14 (fun (v49 : Int32) (h48 : xH) => ((v49 = 0 → p_M_figure_j87 (0 : Int32) l0 l1 l2 l3 l4 l5 (p_M_figure_L16 l0 l1 l2 l3 K16_159 Q f) h48 Q) ∧ (¬ v49 = 0 → p_M_figure_j87 (1 : Int32) l0 l1 l2 l3 l4 l5 (p_M_figure_L16 l0 l1 l2 l3 K16_159 Q f) h48 Q))))))))
set_option maxRecDepth 100000 in
set_option maxHeartbeats 4000000 in
theorem t_M_figure_L16 (l0 : xN) (l1 : Int32) (l2 : Int32) (l3 : Int32) (K16_159 : Int32 → xH → Prop) (Q : xH → Prop) (hK16_159 : ∀ (x4 : Int32) (h : xH), K16_159 x4 h → WP M_M_figure 159 [(0, xr l0), (1, xi l1), (2, xi l2), (3, xi l3), (4, xi x4)] [] h 0 (qv Q)) : ∀ (f : Nat) (l4 : Int32) (l5 : Int32) (h : xH), p_M_figure_L16 l0 l1 l2 l3 K16_159 Q f l4 l5 h → WP M_M_figure 16 [(0, xr l0), (1, xi l1), (2, xi l2), (3, xi l3), (4, xi l4), (5, xi l5)] [] h 0 (qv Q) := by
  intro f
  induction f with
  | zero => exact fun _ _ _ H => H.elim
  | succ f hB16 =>
    intro l4 l5 h H
    unfold p_M_figure_L16 at H
    refine wp_iload rfl dX11_figure_16 ?_
    refine wp_iload_n 3 rfl rfl dX11_figure_18 ?_
    refine WP.at 19 rfl ?_
    refine wp_icmp_ge 159 (by decide) dX11_figure_19 (fun c6 => ?_) (fun c6 => ?_)
    · replace H := H.1 c6
      exact WP.pick [0, 1, 2, 3, 4] rfl (hK16_159 l4 _ H)
    · replace H := H.2 c6
      refine wp_aload_n 0 rfl rfl dX11_figure_22 ?_
      refine wp_dup rfl dX11_figure_23 ?_
      obtain ⟨q7, H⟩ := H
      refine wp_geti coX11 42 (Nat.le_of_ble_eq_true rfl) fl_X11_228 rfl q7 dX11_figure_24 ?_
      refine wp_aload_n 0 rfl rfl dX11_figure_27 ?_
      refine wp_getr coX11 39 (Nat.le_of_ble_eq_true rfl) fl_X11_110 rfl q7 dX11_figure_28 ?_
      refine wp_iload rfl dX11_figure_31 ?_
      obtain ⟨q8, H⟩ := H
      obtain ⟨q9, H⟩ := H
      refine wp_iaload q8 q9 dX11_figure_33 ?_
      refine WP.at 34 rfl ?_
      refine wp_aload_n 0 rfl rfl dX11_figure_34 ?_
      refine wp_getr coX11 8 (Nat.le_of_ble_eq_true rfl) fl_X11_32 rfl q7 dX11_figure_35 ?_
      refine wp_iload_n 1 rfl rfl dX11_figure_38 ?_
      obtain ⟨q10, H⟩ := H
      obtain ⟨q11, H⟩ := H
      refine wp_iaload q10 q11 dX11_figure_39 ?_
      refine wp_imul dX11_figure_40 ?_
      refine wp_iadd dX11_figure_41 ?_
      refine wp_puti coX11 42 (Nat.le_of_ble_eq_true rfl) fl_X11_228 rfl rfl ⟨rfl, rfl⟩ q7 dX11_figure_42 ?_
      refine wp_nh (fun h12 e13 => ?_)
      replace H := H h12 e13
      refine wp_aload_n 0 rfl rfl dX11_figure_45 ?_
      refine WP.at 46 rfl ?_
      refine wp_iload_n 1 rfl rfl dX11_figure_46 ?_
      refine WP.at 47 rfl ?_
      refine wp_cVi (M2 := M_M_isVoid) coX11 l0 q7 [xi l1] rfl lv_X11_231 mo_M_isVoid (Nat.le_of_ble_eq_true rfl) ⟨(Nat.le_of_ble_eq_true rfl), (Nat.le_of_ble_eq_true rfl)⟩ (Nat.le_of_ble_eq_true rfl) (Nat.le_of_ble_eq_true rfl) dX11_figure_47 (t_M_isVoid l0 l1 _ _ H) (fun v15 h14 H => ?_)
      refine WP.at 50 rfl ?_
      refine wp_if_ne 86 (by decide) dX11_figure_50 (fun c16 => ?_) (fun c16 => ?_)
      · replace H := H.1 c16
        refine wp_iconst (0 : Int32) (by decide) dX11_figure_86 ?_
        refine WP.at 87 rfl ?_
        exact WP.pick [0, 1, 2, 3, 4, 5] rfl (t_M_figure_j87 (0 : Int32) l0 l1 l2 l3 l4 l5 _ _ _ hB16 H)
      · replace H := H.2 c16
        refine wp_aload_n 0 rfl rfl dX11_figure_53 ?_
        refine wp_iload_n 1 rfl rfl dX11_figure_54 ?_
        refine wp_aload_n 0 rfl rfl dX11_figure_55 ?_
        refine wp_getr coX11 36 (Nat.le_of_ble_eq_true rfl) fl_X11_101 rfl q7 dX11_figure_56 ?_
        refine wp_iload rfl dX11_figure_59 ?_
        obtain ⟨q42, H⟩ := H
        obtain ⟨q43, H⟩ := H
        refine wp_iaload q42 q43 dX11_figure_61 ?_
        refine wp_aload_n 0 rfl rfl dX11_figure_62 ?_
        refine WP.at 63 rfl ?_
        refine wp_getr coX11 37 (Nat.le_of_ble_eq_true rfl) fl_X11_104 rfl q7 dX11_figure_63 ?_
        refine wp_iload rfl dX11_figure_66 ?_
        obtain ⟨q44, H⟩ := H
        obtain ⟨q45, H⟩ := H
        refine wp_iaload q44 q45 dX11_figure_68 ?_
        refine wp_aload_n 0 rfl rfl dX11_figure_69 ?_
        refine wp_getr coX11 38 (Nat.le_of_ble_eq_true rfl) fl_X11_107 rfl q7 dX11_figure_70 ?_
        refine wp_iload rfl dX11_figure_73 ?_
        obtain ⟨q46, H⟩ := H
        obtain ⟨q47, H⟩ := H
        refine wp_iaload q46 q47 dX11_figure_75 ?_
        refine WP.at 76 rfl ?_
        refine wp_cVi (M2 := M_M_wins) coX11 l0 q7 [xi l1, xi (hI h14 (hR h14 l0 36) l5.toNatClampNeg), xi (hI h14 (hR h14 l0 37) l5.toNatClampNeg), xi (hI h14 (hR h14 l0 38) l5.toNatClampNeg)] rfl lv_X11_234 mo_M_wins (Nat.le_of_ble_eq_true rfl) ⟨(Nat.le_of_ble_eq_true rfl), (Nat.le_of_ble_eq_true rfl)⟩ (Nat.le_of_ble_eq_true rfl) (Nat.le_of_ble_eq_true rfl) dX11_figure_76 (t_M_wins l0 l1 (hI h14 (hR h14 l0 36) l5.toNatClampNeg) (hI h14 (hR h14 l0 37) l5.toNatClampNeg) (hI h14 (hR h14 l0 38) l5.toNatClampNeg) _ _ H) (fun v49 h48 H => ?_)
        refine WP.at 79 rfl ?_
        refine WP.at 79 rfl ?_
        refine wp_if_eq 86 (by decide) dX11_figure_79 (fun c50 => ?_) (fun c50 => ?_)
        · replace H := H.1 c50
          refine wp_iconst (0 : Int32) (by decide) dX11_figure_86 ?_
          refine WP.at 87 rfl ?_
          exact WP.pick [0, 1, 2, 3, 4, 5] rfl (t_M_figure_j87 (0 : Int32) l0 l1 l2 l3 l4 l5 _ _ _ hB16 H)
        · replace H := H.2 c50
          refine wp_iconst (1 : Int32) (by decide) dX11_figure_82 ?_
          refine WP.at 83 rfl ?_
          refine wp_goto 87 (by decide) dX11_figure_83 ?_
          exact WP.pick [0, 1, 2, 3, 4, 5] rfl (t_M_figure_j87 (1 : Int32) l0 l1 l2 l3 l4 l5 _ _ _ hB16 H)
def p_M_figure_j330 (s0 : Int32) (s1 : Int32) (s2 : xN) (l0 : xN) (l1 : Int32) (l3 : Int32) (l5 : Int32) (l7 : Int32) (l8 : Int32) (B292 : Int32 → xH → Prop) (h : xH) (Q : xH → Prop) : Prop := (kd l0.1 = (1, 10)) ∧ (kd (hR h l0 39).1 = (2, 0)) ∧ (vp_in l8 (hS h (hR h l0 39) - 1)) ∧ (¬ (hI h (hR h l0 39) l8.toNatClampNeg) = 0) ∧ (kd s2.1 = (2, 0)) ∧ (vp_in s1 (hS h s2 - 1)) ∧ ∀ h94 : xH, h94 = sI h s2 s1.toNatClampNeg (s0 + (((l7 / (hI h (hR h l0 39) l8.toNatClampNeg)) / (10 : Int32)) * (10 : Int32))) → (kd (hR h94 l0 40).1 = (2, 0)) ∧ (vp_in l8 (hS h94 (hR h94 l0 40) - 1)) ∧ (kd (hR h94 l0 39).1 = (2, 0)) ∧ (vp_in l8 (hS h94 (hR h94 l0 39) - 1)) ∧ ∀ h100 : xH, h100 = sI h94 l0 45 ((hI h94 l0 45) + ((hI h94 (hR h94 l0 40) l8.toNatClampNeg) * (hI h94 (hR h94 l0 39) l8.toNatClampNeg))) → ∀ v102 : Int32, v102 = l8 + (1 : Int32) → B292 v102 h100
set_option maxRecDepth 100000 in
set_option maxHeartbeats 4000000 in
theorem t_M_figure_j330 (s0 : Int32) (s1 : Int32) (s2 : xN) (l0 : xN) (l1 : Int32) (l3 : Int32) (l5 : Int32) (l7 : Int32) (l8 : Int32) (B292 : Int32 → xH → Prop) (h : xH) (Q : xH → Prop) (hB292 : ∀ (x8 : Int32) (h : xH), B292 x8 h → WP M_M_figure 292 [(0, xr l0), (1, xi l1), (3, xi l3), (5, xi l5), (7, xi l7), (8, xi x8)] [] h 0 (qv Q)) (H : p_M_figure_j330 s0 s1 s2 l0 l1 l3 l5 l7 l8 B292 h Q) : WP M_M_figure 330 [(0, xr l0), (1, xi l1), (3, xi l3), (5, xi l5), (7, xi l7), (8, xi l8)] [xi s0, xi s1, xr s2] h 0 (qv Q) := by
  unfold p_M_figure_j330 at H
  refine wp_iload rfl dX11_figure_330 ?_
  refine wp_aload_n 0 rfl rfl dX11_figure_332 ?_
  obtain ⟨q88, H⟩ := H
  refine wp_getr coX11 39 (Nat.le_of_ble_eq_true rfl) fl_X11_110 rfl q88 dX11_figure_333 ?_
  refine wp_iload rfl dX11_figure_336 ?_
  obtain ⟨q89, H⟩ := H
  obtain ⟨q90, H⟩ := H
  refine wp_iaload q89 q90 dX11_figure_338 ?_
  obtain ⟨q91, H⟩ := H
  refine wp_idiv q91 dX11_figure_339 ?_
  refine wp_bipush (10 : Int32) (by decide) dX11_figure_340 ?_
  refine WP.at 342 rfl ?_
  refine wp_idiv (by decide) dX11_figure_342 ?_
  refine wp_bipush (10 : Int32) (by decide) dX11_figure_343 ?_
  refine wp_imul dX11_figure_345 ?_
  refine wp_iadd dX11_figure_346 ?_
  obtain ⟨q92, H⟩ := H
  obtain ⟨q93, H⟩ := H
  refine wp_iastore q92 q93 dX11_figure_347 ?_
  refine wp_nh (fun h94 e95 => ?_)
  replace H := H h94 e95
  refine wp_aload_n 0 rfl rfl dX11_figure_348 ?_
  refine wp_dup rfl dX11_figure_349 ?_
  refine wp_geti coX11 45 (Nat.le_of_ble_eq_true rfl) fl_X11_246 rfl q88 dX11_figure_350 ?_
  refine WP.at 353 rfl ?_
  refine wp_aload_n 0 rfl rfl dX11_figure_353 ?_
  refine wp_getr coX11 40 (Nat.le_of_ble_eq_true rfl) fl_X11_113 rfl q88 dX11_figure_354 ?_
  refine wp_iload rfl dX11_figure_357 ?_
  obtain ⟨q96, H⟩ := H
  obtain ⟨q97, H⟩ := H
  refine wp_iaload q96 q97 dX11_figure_359 ?_
  refine wp_aload_n 0 rfl rfl dX11_figure_360 ?_
  refine wp_getr coX11 39 (Nat.le_of_ble_eq_true rfl) fl_X11_110 rfl q88 dX11_figure_361 ?_
  refine wp_iload rfl dX11_figure_364 ?_
  obtain ⟨q98, H⟩ := H
  obtain ⟨q99, H⟩ := H
  refine wp_iaload q98 q99 dX11_figure_366 ?_
  refine WP.at 367 rfl ?_
  refine wp_imul dX11_figure_367 ?_
  refine wp_iadd dX11_figure_368 ?_
  refine wp_puti coX11 45 (Nat.le_of_ble_eq_true rfl) fl_X11_246 rfl rfl ⟨rfl, rfl⟩ q88 dX11_figure_369 ?_
  refine wp_nh (fun h100 e101 => ?_)
  replace H := H h100 e101
  refine wp_iincN (1 : Int32) (by decide) rfl (Nat.le_of_ble_eq_true rfl) dX11_figure_372 (ls' := fun v102 => [(8, xi v102), (0, xr l0), (1, xi l1), (3, xi l3), (5, xi l5), (7, xi l7)]) (fun _ => rfl) (fun v102 e103 => ?_)
  replace H := H v102 e103
  refine WP.at 375 rfl ?_
  refine wp_goto 292 (by decide) dX11_figure_375 ?_
  exact WP.pick [1, 2, 3, 4, 5, 0] rfl (hB292 v102 _ H)
def p_M_figure_L292 (l0 : xN) (l1 : Int32) (l3 : Int32) (l5 : Int32) (l7 : Int32) (K292_378 : xH → Prop) (Q : xH → Prop) : Nat → Int32 → xH → Prop
  | 0, _, _ => False
  | f + 1, l8, h => ((l3 ≤ l8 → K292_378 h) ∧ (¬ l3 ≤ l8 → (kd l0.1 = (1, 10)) ∧ (kd (hR h l0 40).1 = (2, 0)) ∧ (vp_in l8 (hS h (hR h l0 40) - 1)) ∧ ((¬ (hI h (hR h l0 40) l8.toNatClampNeg) = (1 : Int32) → ∀ v85 : Int32, v85 = l8 + (1 : Int32) → (p_M_figure_L292 l0 l1 l3 l5 l7 K292_378 Q f) v85 h) ∧ ((hI h (hR h l0 40) l8.toNatClampNeg) = (1 : Int32) → ((l5 = 0 → p_M_figure_j330 (0 : Int32) l8 (hR h l0 40) l0 l1 l3 l5 l7 l8 (p_M_figure_L292 l0 l1 l3 l5 l7 K292_378 Q f) h Q) ∧ (¬ l5 = 0 → (kd (hR h l0 8).1 = (2, 0)) ∧ (vp_in l1 (hS h (hR h l0 8) - 1)) ∧ p_M_figure_j330 (hI h (hR h l0 8) l1.toNatClampNeg) l8 (hR h l0 40) l0 l1 l3 l5 l7 l8 (p_M_figure_L292 l0 l1 l3 l5 l7 K292_378 Q f) h Q))))))
set_option maxRecDepth 100000 in
set_option maxHeartbeats 4000000 in
theorem t_M_figure_L292 (l0 : xN) (l1 : Int32) (l3 : Int32) (l5 : Int32) (l7 : Int32) (K292_378 : xH → Prop) (Q : xH → Prop) (hK292_378 : ∀ (h : xH), K292_378 h → WP M_M_figure 378 [] [] h 0 (qv Q)) : ∀ (f : Nat) (l8 : Int32) (h : xH), p_M_figure_L292 l0 l1 l3 l5 l7 K292_378 Q f l8 h → WP M_M_figure 292 [(0, xr l0), (1, xi l1), (3, xi l3), (5, xi l5), (7, xi l7), (8, xi l8)] [] h 0 (qv Q) := by
  intro f
  induction f with
  | zero => exact fun _ _ H => H.elim
  | succ f hB292 =>
    intro l8 h H
    unfold p_M_figure_L292 at H
    refine wp_iload rfl dX11_figure_292 ?_
    refine wp_iload_n 3 rfl rfl dX11_figure_294 ?_
    refine WP.at 295 rfl ?_
    refine wp_icmp_ge 378 (by decide) dX11_figure_295 (fun c80 => ?_) (fun c80 => ?_)
    · replace H := H.1 c80
      exact WP.pick [] rfl (hK292_378 _ H)
    · replace H := H.2 c80
      refine wp_aload_n 0 rfl rfl dX11_figure_298 ?_
      obtain ⟨q81, H⟩ := H
      refine wp_getr coX11 40 (Nat.le_of_ble_eq_true rfl) fl_X11_113 rfl q81 dX11_figure_299 ?_
      refine wp_iload rfl dX11_figure_302 ?_
      obtain ⟨q82, H⟩ := H
      obtain ⟨q83, H⟩ := H
      refine wp_iaload q82 q83 dX11_figure_304 ?_
      refine wp_iconst (1 : Int32) (by decide) dX11_figure_305 ?_
      refine WP.at 306 rfl ?_
      refine wp_icmp_ne 372 (by decide) dX11_figure_306 (fun c84 => ?_) (fun c84 => ?_)
      · replace H := H.1 c84
        refine wp_iincN (1 : Int32) (by decide) rfl (Nat.le_of_ble_eq_true rfl) dX11_figure_372 (ls' := fun v85 => [(8, xi v85), (0, xr l0), (1, xi l1), (3, xi l3), (5, xi l5), (7, xi l7)]) (fun _ => rfl) (fun v85 e86 => ?_)
        replace H := H v85 e86
        refine WP.at 375 rfl ?_
        refine wp_goto 292 (by decide) dX11_figure_375 ?_
        exact WP.pick [1, 2, 3, 4, 5, 0] rfl (hB292 v85 _ H)
      · replace H := H.2 c84
        refine wp_aload_n 0 rfl rfl dX11_figure_309 ?_
        refine wp_getr coX11 40 (Nat.le_of_ble_eq_true rfl) fl_X11_113 rfl q81 dX11_figure_310 ?_
        refine wp_iload rfl dX11_figure_313 ?_
        refine wp_iload rfl dX11_figure_315 ?_
        refine WP.at 317 rfl ?_
        refine wp_if_eq 329 (by decide) dX11_figure_317 (fun c87 => ?_) (fun c87 => ?_)
        · replace H := H.1 c87
          refine wp_iconst (0 : Int32) (by decide) dX11_figure_329 ?_
          refine WP.at 330 rfl ?_
          exact WP.pick [0, 1, 2, 3, 4, 5] rfl (t_M_figure_j330 (0 : Int32) l8 (hR h l0 40) l0 l1 l3 l5 l7 l8 _ _ _ hB292 H)
        · replace H := H.2 c87
          refine wp_aload_n 0 rfl rfl dX11_figure_320 ?_
          refine wp_getr coX11 8 (Nat.le_of_ble_eq_true rfl) fl_X11_32 rfl q81 dX11_figure_321 ?_
          refine wp_iload_n 1 rfl rfl dX11_figure_324 ?_
          obtain ⟨q104, H⟩ := H
          obtain ⟨q105, H⟩ := H
          refine wp_iaload q104 q105 dX11_figure_325 ?_
          refine WP.at 326 rfl ?_
          refine wp_goto 330 (by decide) dX11_figure_326 ?_
          exact WP.pick [0, 1, 2, 3, 4, 5] rfl (t_M_figure_j330 (hI h (hR h l0 8) l1.toNatClampNeg) l8 (hR h l0 40) l0 l1 l3 l5 l7 l8 _ _ _ hB292 H)
def p_M_figure_j268 (s0 : Int32) (s1 : xN) (l0 : xN) (l1 : Int32) (l2 : Int32) (l3 : Int32) (l5 : Int32) (l6 : Int32) (h : xH) (Q : xH → Prop) : Prop := (kd s1.1 = (1, 10)) ∧ ∀ h73 : xH, h73 = sI h s1 46 s0 → ((0 ≤ l6 → (kd l0.1 = (1, 10)) ∧ (¬ (hI h73 l0 41) = 0) ∧ ∀ v78 : Int32, v78 = l6 / (hI h73 l0 41) → (∃ f107, p_M_figure_L292 l0 l1 l3 l5 v78 (fun (h106 : xH) => Q h106) Q f107 l2 h73)) ∧ (¬ 0 ≤ l6 → (∃ f109, p_M_figure_L292 l0 l1 l3 l5 (0 : Int32) (fun (h108 : xH) => Q h108) Q f109 l2 h73)))
set_option maxRecDepth 100000 in
set_option maxHeartbeats 4000000 in
theorem t_M_figure_j268 (s0 : Int32) (s1 : xN) (l0 : xN) (l1 : Int32) (l2 : Int32) (l3 : Int32) (l5 : Int32) (l6 : Int32) (h : xH) (Q : xH → Prop) (H : p_M_figure_j268 s0 s1 l0 l1 l2 l3 l5 l6 h Q) : WP M_M_figure 268 [(0, xr l0), (1, xi l1), (2, xi l2), (3, xi l3), (5, xi l5), (6, xi l6)] [xi s0, xr s1] h 0 (qv Q) := by
  unfold p_M_figure_j268 at H
  obtain ⟨q72, H⟩ := H
  refine wp_puti coX11 46 (Nat.le_of_ble_eq_true rfl) fl_X11_249 rfl rfl ⟨rfl, rfl⟩ q72 dX11_figure_268 ?_
  refine wp_nh (fun h73 e74 => ?_)
  replace H := H h73 e74
  refine wp_iload rfl dX11_figure_271 ?_
  refine WP.at 273 rfl ?_
  refine wp_if_ge 280 (by decide) dX11_figure_273 (fun c75 => ?_) (fun c75 => ?_)
  · replace H := H.1 c75
    refine wp_iload rfl dX11_figure_280 ?_
    refine wp_aload_n 0 rfl rfl dX11_figure_282 ?_
    obtain ⟨q76, H⟩ := H
    refine wp_geti coX11 41 (Nat.le_of_ble_eq_true rfl) fl_X11_225 rfl q76 dX11_figure_283 ?_
    obtain ⟨q77, H⟩ := H
    refine wp_idiv q77 dX11_figure_286 ?_
    refine wp_nm (fun v78 e79 => ?_)
    replace H := H v78 e79
    refine wp_istore (Nat.le_of_ble_eq_true rfl) dX11_figure_287 (ls' := [(7, xi v78), (0, xr l0), (1, xi l1), (2, xi l2), (3, xi l3), (5, xi l5), (6, xi l6)]) rfl ?_
    refine wp_iload_n 2 rfl rfl dX11_figure_289 ?_
    refine wp_istore (Nat.le_of_ble_eq_true rfl) dX11_figure_290 (ls' := [(8, xi l2), (7, xi v78), (0, xr l0), (1, xi l1), (2, xi l2), (3, xi l3), (5, xi l5), (6, xi l6)]) rfl ?_
    refine WP.at 292 rfl ?_
    obtain ⟨f107, H⟩ := H
    refine WP.pick [2, 3, 5, 6, 1, 0] rfl (t_M_figure_L292 l0 l1 l3 l5 v78 _ Q ?_ f107 l2 _ H)
    · intro h106 H
      exact wp_vret trivial dX11_figure_378 H
  · replace H := H.2 c75
    refine wp_iconst (0 : Int32) (by decide) dX11_figure_276 ?_
    refine WP.at 277 rfl ?_
    refine wp_goto 287 (by decide) dX11_figure_277 ?_
    refine wp_istore (Nat.le_of_ble_eq_true rfl) dX11_figure_287 (ls' := [(7, xi (0 : Int32)), (0, xr l0), (1, xi l1), (2, xi l2), (3, xi l3), (5, xi l5), (6, xi l6)]) rfl ?_
    refine wp_iload_n 2 rfl rfl dX11_figure_289 ?_
    refine wp_istore (Nat.le_of_ble_eq_true rfl) dX11_figure_290 (ls' := [(8, xi l2), (7, xi (0 : Int32)), (0, xr l0), (1, xi l1), (2, xi l2), (3, xi l3), (5, xi l5), (6, xi l6)]) rfl ?_
    refine WP.at 292 rfl ?_
    obtain ⟨f109, H⟩ := H
    refine WP.pick [2, 3, 5, 6, 1, 0] rfl (t_M_figure_L292 l0 l1 l3 l5 (0 : Int32) _ Q ?_ f109 l2 _ H)
    · intro h108 H
      exact wp_vret trivial dX11_figure_378 H
def p_M_figure_j253 (s0 : Int32) (l0 : xN) (l1 : Int32) (l2 : Int32) (l3 : Int32) (l5 : Int32) (h : xH) (Q : xH → Prop) : Prop := ((0 ≤ s0 → p_M_figure_j268 (0 : Int32) l0 l0 l1 l2 l3 l5 s0 h Q) ∧ (¬ 0 ≤ s0 → p_M_figure_j268 (-s0) l0 l0 l1 l2 l3 l5 s0 h Q))
set_option maxRecDepth 100000 in
set_option maxHeartbeats 4000000 in
theorem t_M_figure_j253 (s0 : Int32) (l0 : xN) (l1 : Int32) (l2 : Int32) (l3 : Int32) (l5 : Int32) (h : xH) (Q : xH → Prop) (H : p_M_figure_j253 s0 l0 l1 l2 l3 l5 h Q) : WP M_M_figure 253 [(0, xr l0), (1, xi l1), (2, xi l2), (3, xi l3), (5, xi l5)] [xi s0] h 0 (qv Q) := by
  unfold p_M_figure_j253 at H
  refine wp_istore (Nat.le_of_ble_eq_true rfl) dX11_figure_253 (ls' := [(6, xi s0), (0, xr l0), (1, xi l1), (2, xi l2), (3, xi l3), (5, xi l5)]) rfl ?_
  refine wp_aload_n 0 rfl rfl dX11_figure_255 ?_
  refine wp_iload rfl dX11_figure_256 ?_
  refine WP.at 258 rfl ?_
  refine wp_if_ge 267 (by decide) dX11_figure_258 (fun c71 => ?_) (fun c71 => ?_)
  · replace H := H.1 c71
    refine wp_iconst (0 : Int32) (by decide) dX11_figure_267 ?_
    refine WP.at 268 rfl ?_
    exact WP.pick [1, 2, 3, 4, 5, 0] rfl (t_M_figure_j268 (0 : Int32) l0 l0 l1 l2 l3 l5 s0 _ _ H)
  · replace H := H.2 c71
    refine wp_iload rfl dX11_figure_261 ?_
    refine wp_ineg dX11_figure_263 ?_
    refine WP.at 264 rfl ?_
    refine wp_goto 268 (by decide) dX11_figure_264 ?_
    exact WP.pick [1, 2, 3, 4, 5, 0] rfl (t_M_figure_j268 (-s0) l0 l0 l1 l2 l3 l5 s0 _ _ H)
def p_M_figure_j232 (s0 : Int32) (l0 : xN) (l1 : Int32) (l2 : Int32) (l3 : Int32) (l4 : Int32) (h : xH) (Q : xH → Prop) : Prop := ((s0 = 0 → (kd l0.1 = (1, 10)) ∧ p_M_figure_j253 (hI h l0 44) l0 l1 l2 l3 s0 h Q) ∧ (¬ s0 = 0 → (kd l0.1 = (1, 10)) ∧ p_M_figure_j253 ((hI h l0 44) - l4) l0 l1 l2 l3 s0 h Q))
set_option maxRecDepth 100000 in
set_option maxHeartbeats 4000000 in
theorem t_M_figure_j232 (s0 : Int32) (l0 : xN) (l1 : Int32) (l2 : Int32) (l3 : Int32) (l4 : Int32) (h : xH) (Q : xH → Prop) (H : p_M_figure_j232 s0 l0 l1 l2 l3 l4 h Q) : WP M_M_figure 232 [(0, xr l0), (1, xi l1), (2, xi l2), (3, xi l3), (4, xi l4)] [xi s0] h 0 (qv Q) := by
  unfold p_M_figure_j232 at H
  refine wp_istore (Nat.le_of_ble_eq_true rfl) dX11_figure_232 (ls' := [(5, xi s0), (0, xr l0), (1, xi l1), (2, xi l2), (3, xi l3), (4, xi l4)]) rfl ?_
  refine wp_iload rfl dX11_figure_234 ?_
  refine WP.at 236 rfl ?_
  refine wp_if_eq 249 (by decide) dX11_figure_236 (fun c69 => ?_) (fun c69 => ?_)
  · replace H := H.1 c69
    refine wp_aload_n 0 rfl rfl dX11_figure_249 ?_
    obtain ⟨q70, H⟩ := H
    refine wp_geti coX11 44 (Nat.le_of_ble_eq_true rfl) fl_X11_243 rfl q70 dX11_figure_250 ?_
    refine WP.at 253 rfl ?_
    exact WP.pick [1, 2, 3, 4, 0] rfl (t_M_figure_j253 (hI h l0 44) l0 l1 l2 l3 s0 _ _ H)
  · replace H := H.2 c69
    refine wp_aload_n 0 rfl rfl dX11_figure_239 ?_
    obtain ⟨q110, H⟩ := H
    refine wp_geti coX11 44 (Nat.le_of_ble_eq_true rfl) fl_X11_243 rfl q110 dX11_figure_240 ?_
    refine wp_iload rfl dX11_figure_243 ?_
    refine wp_isub dX11_figure_245 ?_
    refine WP.at 246 rfl ?_
    refine wp_goto 253 (by decide) dX11_figure_246 ?_
    exact WP.pick [1, 2, 3, 4, 0] rfl (t_M_figure_j253 ((hI h l0 44) - l4) l0 l1 l2 l3 s0 _ _ H)
def p_M_figure (l0 : xN) (l1 : Int32) (l2 : Int32) (l3 : Int32) (h : xH) (Q : xH → Prop) : Prop := (kd l0.1 = (1, 10)) ∧ ∀ h2 : xH, h2 = sI h l0 41 (0 : Int32) → ∀ h4 : xH, h4 = sI h2 l0 42 (0 : Int32) → (∃ f111, p_M_figure_L16 l0 l1 l2 l3 (fun (x51 : Int32) (h52 : xH) => (kd (hR h52 l0 7).1 = (2, 0)) ∧ (vp_in l1 (hS h52 (hR h52 l0 7) - 1)) ∧ ∀ h55 : xH, h55 = sI h52 l0 43 (((((hI h52 l0 42).toInt64) * ((hI h52 (hR h52 l0 7) l1.toNatClampNeg).toInt64)) / (1000 : Int64)).toInt32) → (kd (hR h55 l0 16).1 = (2, 0)) ∧ (vp_in l1 (hS h55 (hR h55 l0 16) - 1)) ∧ ∀ h59 : xH, h59 = sI h55 l0 44 (((hI h55 l0 42) - (hI h55 l0 43)) + (hI h55 (hR h55 l0 16) l1.toNatClampNeg)) → ∀ h61 : xH, h61 = sI h59 l0 45 (0 : Int32) → ∀ h63 : xH, h63 = sI h61 l0 46 (0 : Int32) → ((¬ (hI h63 l0 41) = 0 → p_M_kindOf l1 h63 (fun (v67 : Int32) (h66 : xH) => ((¬ v67 = (1 : Int32) → p_M_figure_j232 (0 : Int32) l0 l1 l2 l3 x51 h66 Q) ∧ (v67 = (1 : Int32) → p_M_figure_j232 (1 : Int32) l0 l1 l2 l3 x51 h66 Q)))) ∧ ((hI h63 l0 41) = 0 → Q h63))) Q f111 (0 : Int32) l2 h4)
set_option maxRecDepth 100000 in
set_option maxHeartbeats 4000000 in
theorem t_M_figure (l0 : xN) (l1 : Int32) (l2 : Int32) (l3 : Int32) (h : xH) (Q : xH → Prop) (H : p_M_figure l0 l1 l2 l3 h Q) : WP M_M_figure 0 [(0, xr l0), (1, xi l1), (2, xi l2), (3, xi l3)] [] h 0 (qv Q) := by
  unfold p_M_figure at H
  refine wp_aload_n 0 rfl rfl dX11_figure_0 ?_
  refine wp_iconst (0 : Int32) (by decide) dX11_figure_1 ?_
  obtain ⟨q1, H⟩ := H
  refine wp_puti coX11 41 (Nat.le_of_ble_eq_true rfl) fl_X11_225 rfl rfl ⟨rfl, rfl⟩ q1 dX11_figure_2 ?_
  refine wp_nh (fun h2 e3 => ?_)
  replace H := H h2 e3
  refine wp_aload_n 0 rfl rfl dX11_figure_5 ?_
  refine wp_iconst (0 : Int32) (by decide) dX11_figure_6 ?_
  refine wp_puti coX11 42 (Nat.le_of_ble_eq_true rfl) fl_X11_228 rfl rfl ⟨rfl, rfl⟩ q1 dX11_figure_7 ?_
  refine wp_nh (fun h4 e5 => ?_)
  replace H := H h4 e5
  refine wp_iconst (0 : Int32) (by decide) dX11_figure_10 ?_
  refine WP.at 11 rfl ?_
  refine wp_istore (Nat.le_of_ble_eq_true rfl) dX11_figure_11 (ls' := [(4, xi (0 : Int32)), (0, xr l0), (1, xi l1), (2, xi l2), (3, xi l3)]) rfl ?_
  refine wp_iload_n 2 rfl rfl dX11_figure_13 ?_
  refine wp_istore (Nat.le_of_ble_eq_true rfl) dX11_figure_14 (ls' := [(5, xi l2), (4, xi (0 : Int32)), (0, xr l0), (1, xi l1), (2, xi l2), (3, xi l3)]) rfl ?_
  refine WP.at 16 rfl ?_
  obtain ⟨f111, H⟩ := H
  refine WP.pick [2, 3, 4, 5, 1, 0] rfl (t_M_figure_L16 l0 l1 l2 l3 _ Q ?_ f111 (0 : Int32) l2 _ H)
  · intro x51 h52 H
    refine wp_aload_n 0 rfl rfl dX11_figure_159 ?_
    refine wp_aload_n 0 rfl rfl dX11_figure_160 ?_
    refine wp_geti coX11 42 (Nat.le_of_ble_eq_true rfl) fl_X11_228 rfl q1 dX11_figure_161 ?_
    refine wp_i2l dX11_figure_164 ?_
    refine wp_aload_n 0 rfl rfl dX11_figure_165 ?_
    refine wp_getr coX11 7 (Nat.le_of_ble_eq_true rfl) fl_X11_29 rfl q1 dX11_figure_166 ?_
    refine wp_iload_n 1 rfl rfl dX11_figure_169 ?_
    refine WP.at 170 rfl ?_
    obtain ⟨q53, H⟩ := H
    obtain ⟨q54, H⟩ := H
    refine wp_iaload q53 q54 dX11_figure_170 ?_
    refine wp_i2l dX11_figure_171 ?_
    refine wp_lmul dX11_figure_172 ?_
    refine wp_ldc2 (1000 : Int64) cL_X11_238 dX11_figure_173 ?_
    refine wp_ldiv (by decide) dX11_figure_176 ?_
    refine wp_l2i dX11_figure_177 ?_
    refine wp_puti coX11 43 (Nat.le_of_ble_eq_true rfl) fl_X11_240 rfl rfl ⟨rfl, rfl⟩ q1 dX11_figure_178 ?_
    refine wp_nh (fun h55 e56 => ?_)
    replace H := H h55 e56
    refine wp_aload_n 0 rfl rfl dX11_figure_181 ?_
    refine WP.at 182 rfl ?_
    refine wp_aload_n 0 rfl rfl dX11_figure_182 ?_
    refine wp_geti coX11 42 (Nat.le_of_ble_eq_true rfl) fl_X11_228 rfl q1 dX11_figure_183 ?_
    refine wp_aload_n 0 rfl rfl dX11_figure_186 ?_
    refine wp_geti coX11 43 (Nat.le_of_ble_eq_true rfl) fl_X11_240 rfl q1 dX11_figure_187 ?_
    refine wp_isub dX11_figure_190 ?_
    refine wp_aload_n 0 rfl rfl dX11_figure_191 ?_
    refine wp_getr coX11 16 (Nat.le_of_ble_eq_true rfl) fl_X11_50 rfl q1 dX11_figure_192 ?_
    refine wp_iload_n 1 rfl rfl dX11_figure_195 ?_
    refine WP.at 196 rfl ?_
    obtain ⟨q57, H⟩ := H
    obtain ⟨q58, H⟩ := H
    refine wp_iaload q57 q58 dX11_figure_196 ?_
    refine wp_iadd dX11_figure_197 ?_
    refine wp_puti coX11 44 (Nat.le_of_ble_eq_true rfl) fl_X11_243 rfl rfl ⟨rfl, rfl⟩ q1 dX11_figure_198 ?_
    refine wp_nh (fun h59 e60 => ?_)
    replace H := H h59 e60
    refine wp_aload_n 0 rfl rfl dX11_figure_201 ?_
    refine wp_iconst (0 : Int32) (by decide) dX11_figure_202 ?_
    refine wp_puti coX11 45 (Nat.le_of_ble_eq_true rfl) fl_X11_246 rfl rfl ⟨rfl, rfl⟩ q1 dX11_figure_203 ?_
    refine wp_nh (fun h61 e62 => ?_)
    replace H := H h61 e62
    refine wp_aload_n 0 rfl rfl dX11_figure_206 ?_
    refine wp_iconst (0 : Int32) (by decide) dX11_figure_207 ?_
    refine WP.at 208 rfl ?_
    refine wp_puti coX11 46 (Nat.le_of_ble_eq_true rfl) fl_X11_249 rfl rfl ⟨rfl, rfl⟩ q1 dX11_figure_208 ?_
    refine wp_nh (fun h63 e64 => ?_)
    replace H := H h63 e64
    refine wp_aload_n 0 rfl rfl dX11_figure_211 ?_
    refine wp_geti coX11 41 (Nat.le_of_ble_eq_true rfl) fl_X11_225 rfl q1 dX11_figure_212 ?_
    refine WP.at 215 rfl ?_
    refine wp_if_ne 219 (by decide) dX11_figure_215 (fun c65 => ?_) (fun c65 => ?_)
    · replace H := H.1 c65
      refine wp_iload_n 1 rfl rfl dX11_figure_219 ?_
      refine WP.at 220 rfl ?_
      refine wp_cSi (M2 := M_M_kindOf) [xi l1] rfl ls_X11_218 mo_M_kindOf (Nat.le_of_ble_eq_true rfl) ⟨(Nat.le_of_ble_eq_true rfl), (Nat.le_of_ble_eq_true rfl)⟩ (Nat.le_of_ble_eq_true rfl) (Nat.le_of_ble_eq_true rfl) dX11_figure_220 (t_M_kindOf l1 _ _ H) (fun v67 h66 H => ?_)
      refine wp_iconst (1 : Int32) (by decide) dX11_figure_223 ?_
      refine WP.at 224 rfl ?_
      refine wp_icmp_ne 231 (by decide) dX11_figure_224 (fun c68 => ?_) (fun c68 => ?_)
      · replace H := H.1 c68
        refine wp_iconst (0 : Int32) (by decide) dX11_figure_231 ?_
        refine WP.at 232 rfl ?_
        exact WP.pick [0, 1, 2, 3, 4] rfl (t_M_figure_j232 (0 : Int32) l0 l1 l2 l3 x51 _ _ H)
      · replace H := H.2 c68
        refine wp_iconst (1 : Int32) (by decide) dX11_figure_227 ?_
        refine WP.at 228 rfl ?_
        refine wp_goto 232 (by decide) dX11_figure_228 ?_
        exact WP.pick [0, 1, 2, 3, 4] rfl (t_M_figure_j232 (1 : Int32) l0 l1 l2 l3 x51 _ _ H)
    · replace H := H.2 c65
      exact wp_vret trivial dX11_figure_218 H
