def p_M_carry_L13 (l0 : xN) (l2 : Int32) (K13_65 : xH → Prop) (Q : xH → Prop) : Nat → Int32 → xH → Prop
  | 0, _, _ => False
  | f + 1, l3, h => (kd l0.1 = (1, 10)) ∧ (((hI h l0 0) ≤ l3 → K13_65 h) ∧ (¬ (hI h l0 0) ≤ l3 → (kd (hR h l0 6).1 = (3, 0)) ∧ (vp_in (((4 : Int32) * l3) + (3 : Int32)) (hS h (hR h l0 6) - 1)) ∧ (((hI h (hR h l0 6) (((4 : Int32) * l3) + (3 : Int32)).toNatClampNeg) = 0 → ∀ v13 : Int32, v13 = l3 + (1 : Int32) → (p_M_carry_L13 l0 l2 K13_65 Q f) v13 h) ∧ (¬ (hI h (hR h l0 6) (((4 : Int32) * l3) + (3 : Int32)).toNatClampNeg) = 0 → (kd (hR h l0 1).1 = (2, 0)) ∧ (vp_in l3 (hS h (hR h l0 1) - 1)) ∧ (((hI h (hR h l0 1) l3.toNatClampNeg) = (2 : Int32) → ∀ v18 : Int32, v18 = l3 + (1 : Int32) → (p_M_carry_L13 l0 l2 K13_65 Q f) v18 h) ∧ (¬ (hI h (hR h l0 1) l3.toNatClampNeg) = (2 : Int32) → (kd (hR h l0 16).1 = (2, 0)) ∧ (vp_in (((4 : Int32) * l3) + (3 : Int32)) (hS h (hR h l0 16) - 1)) ∧ (vp_in (((4 : Int32) * l3) + (3 : Int32)) (hS h (hR h l0 16) - 1)) ∧ ∀ h23 : xH, h23 = sI h (hR h l0 16) (((4 : Int32) * l3) + (3 : Int32)).toNatClampNeg ((hI h (hR h l0 16) (((4 : Int32) * l3) + (3 : Int32)).toNatClampNeg) + l2) → Q h23))))))
set_option maxRecDepth 100000 in
set_option maxHeartbeats 4000000 in
theorem t_M_carry_L13 (l0 : xN) (l2 : Int32) (K13_65 : xH → Prop) (Q : xH → Prop) (hK13_65 : ∀ (h : xH), K13_65 h → WP M_M_carry 65 [(0, xr l0), (2, xi l2)] [] h 0 (qv Q)) : ∀ (f : Nat) (l3 : Int32) (h : xH), p_M_carry_L13 l0 l2 K13_65 Q f l3 h → WP M_M_carry 13 [(0, xr l0), (2, xi l2), (3, xi l3)] [] h 0 (qv Q) := by
  intro f
  induction f with
  | zero => exact fun _ _ H => H.elim
  | succ f hB13 =>
    intro l3 h H
    unfold p_M_carry_L13 at H
    refine wp_iload_n 3 rfl rfl dX11_carry_13 ?_
    refine wp_aload_n 0 rfl rfl dX11_carry_14 ?_
    obtain ⟨q8, H⟩ := H
    refine wp_geti coX11 0 (Nat.le_of_ble_eq_true rfl) fl_X11_168 rfl q8 dX11_carry_15 ?_
    refine WP.at 18 rfl ?_
    refine wp_icmp_ge 65 (by decide) dX11_carry_18 (fun c9 => ?_) (fun c9 => ?_)
    · replace H := H.1 c9
      exact WP.pick [0, 1] rfl (hK13_65 _ H)
    · replace H := H.2 c9
      refine wp_aload_n 0 rfl rfl dX11_carry_21 ?_
      refine wp_getr coX11 6 (Nat.le_of_ble_eq_true rfl) fl_X11_26 rfl q8 dX11_carry_22 ?_
      refine wp_iconst (4 : Int32) (by decide) dX11_carry_25 ?_
      refine wp_iload_n 3 rfl rfl dX11_carry_26 ?_
      refine wp_imul dX11_carry_27 ?_
      refine wp_iconst (3 : Int32) (by decide) dX11_carry_28 ?_
      refine wp_iadd dX11_carry_29 ?_
      refine WP.at 30 rfl ?_
      obtain ⟨q10, H⟩ := H
      obtain ⟨q11, H⟩ := H
      refine wp_baload q10 q11 dX11_carry_30 ?_
      refine WP.at 31 rfl ?_
      refine wp_if_eq 59 (by decide) dX11_carry_31 (fun c12 => ?_) (fun c12 => ?_)
      · replace H := H.1 c12
        refine wp_iincN (1 : Int32) (by decide) rfl (Nat.le_of_ble_eq_true rfl) dX11_carry_59 (ls' := fun v13 => [(3, xi v13), (0, xr l0), (2, xi l2)]) (fun _ => rfl) (fun v13 e14 => ?_)
        replace H := H v13 e14
        refine WP.at 62 rfl ?_
        refine wp_goto 13 (by decide) dX11_carry_62 ?_
        exact WP.pick [1, 2, 0] rfl (hB13 v13 _ H)
      · replace H := H.2 c12
        refine wp_aload_n 0 rfl rfl dX11_carry_34 ?_
        refine wp_getr coX11 1 (Nat.le_of_ble_eq_true rfl) fl_X11_7 rfl q8 dX11_carry_35 ?_
        refine wp_iload_n 3 rfl rfl dX11_carry_38 ?_
        obtain ⟨q15, H⟩ := H
        obtain ⟨q16, H⟩ := H
        refine wp_iaload q15 q16 dX11_carry_39 ?_
        refine wp_iconst (2 : Int32) (by decide) dX11_carry_40 ?_
        refine WP.at 41 rfl ?_
        refine wp_icmp_eq 59 (by decide) dX11_carry_41 (fun c17 => ?_) (fun c17 => ?_)
        · replace H := H.1 c17
          refine wp_iincN (1 : Int32) (by decide) rfl (Nat.le_of_ble_eq_true rfl) dX11_carry_59 (ls' := fun v18 => [(3, xi v18), (0, xr l0), (2, xi l2)]) (fun _ => rfl) (fun v18 e19 => ?_)
          replace H := H v18 e19
          refine WP.at 62 rfl ?_
          refine wp_goto 13 (by decide) dX11_carry_62 ?_
          exact WP.pick [1, 2, 0] rfl (hB13 v18 _ H)
        · replace H := H.2 c17
          refine wp_aload_n 0 rfl rfl dX11_carry_44 ?_
          refine wp_getr coX11 16 (Nat.le_of_ble_eq_true rfl) fl_X11_50 rfl q8 dX11_carry_45 ?_
          refine wp_iconst (4 : Int32) (by decide) dX11_carry_48 ?_
          refine wp_iload_n 3 rfl rfl dX11_carry_49 ?_
          refine wp_imul dX11_carry_50 ?_
          refine wp_iconst (3 : Int32) (by decide) dX11_carry_51 ?_
          refine wp_iadd dX11_carry_52 ?_
          refine WP.at 53 rfl ?_
          refine wp_dup2 rfl rfl dX11_carry_53 ?_
          obtain ⟨q20, H⟩ := H
          obtain ⟨q21, H⟩ := H
          refine wp_iaload q20 q21 dX11_carry_54 ?_
          refine wp_iload_n 2 rfl rfl dX11_carry_55 ?_
          refine wp_iadd dX11_carry_56 ?_
          obtain ⟨q22, H⟩ := H
          refine wp_iastore q20 q22 dX11_carry_57 ?_
          refine wp_nh (fun h23 e24 => ?_)
          replace H := H h23 e24
          exact wp_vret trivial dX11_carry_58 H
def p_M_carry (l0 : xN) (l1 : Int32) (l2 : Int32) (h : xH) (Q : xH → Prop) : Prop := (kd l0.1 = (1, 10)) ∧ (kd (hR h l0 17).1 = (2, 0)) ∧ (vp_in l1 (hS h (hR h l0 17) - 1)) ∧ ∀ h4 : xH, h4 = sI h (hR h l0 17) l1.toNatClampNeg l2 → ∀ v6 : Int32, v6 = (l1 / (4 : Int32)) + (1 : Int32) → (∃ f28, p_M_carry_L13 l0 l2 (fun (h25 : xH) => ∀ h26 : xH, h26 = sI h25 l0 22 ((hI h25 l0 22) + l2) → Q h26) Q f28 v6 h4)
set_option maxRecDepth 100000 in
set_option maxHeartbeats 4000000 in
theorem t_M_carry (l0 : xN) (l1 : Int32) (l2 : Int32) (h : xH) (Q : xH → Prop) (H : p_M_carry l0 l1 l2 h Q) : WP M_M_carry 0 [(0, xr l0), (1, xi l1), (2, xi l2)] [] h 0 (qv Q) := by
  unfold p_M_carry at H
  refine wp_aload_n 0 rfl rfl dX11_carry_0 ?_
  obtain ⟨q1, H⟩ := H
  refine wp_getr coX11 17 (Nat.le_of_ble_eq_true rfl) fl_X11_53 rfl q1 dX11_carry_1 ?_
  refine wp_iload_n 1 rfl rfl dX11_carry_4 ?_
  refine wp_iload_n 2 rfl rfl dX11_carry_5 ?_
  obtain ⟨q2, H⟩ := H
  obtain ⟨q3, H⟩ := H
  refine wp_iastore q2 q3 dX11_carry_6 ?_
  refine wp_nh (fun h4 e5 => ?_)
  replace H := H h4 e5
  refine wp_iload_n 1 rfl rfl dX11_carry_7 ?_
  refine wp_iconst (4 : Int32) (by decide) dX11_carry_8 ?_
  refine WP.at 9 rfl ?_
  refine wp_idiv (by decide) dX11_carry_9 ?_
  refine wp_iconst (1 : Int32) (by decide) dX11_carry_10 ?_
  refine wp_iadd dX11_carry_11 ?_
  refine wp_nm (fun v6 e7 => ?_)
  replace H := H v6 e7
  refine wp_istore_n 3 rfl (Nat.le_of_ble_eq_true rfl) dX11_carry_12 (ls' := [(3, xi v6), (0, xr l0), (1, xi l1), (2, xi l2)]) rfl ?_
  refine WP.at 13 rfl ?_
  obtain ⟨f28, H⟩ := H
  refine WP.pick [1, 3, 0] rfl (t_M_carry_L13 l0 l2 _ Q ?_ f28 v6 _ H)
  · intro h25 H
    refine wp_aload_n 0 rfl rfl dX11_carry_65 ?_
    refine wp_dup rfl dX11_carry_66 ?_
    refine wp_geti coX11 22 (Nat.le_of_ble_eq_true rfl) fl_X11_252 rfl q1 dX11_carry_67 ?_
    refine wp_iload_n 2 rfl rfl dX11_carry_70 ?_
    refine wp_iadd dX11_carry_71 ?_
    refine wp_puti coX11 22 (Nat.le_of_ble_eq_true rfl) fl_X11_252 rfl rfl ⟨rfl, rfl⟩ q1 dX11_carry_72 ?_
    refine wp_nh (fun h26 e27 => ?_)
    replace H := H h26 e27
    exact wp_vret trivial dX11_carry_75 H
def p_M_groupOf_L2 (l0 : xN) (l1 : Int32) (K2_53 : Int32 → xH → Prop) (Q : Int32 → xH → Prop) : Nat → Int32 → xH → Prop
  | 0, _, _ => False
  | f + 1, l2, h => (kd l0.1 = (1, 10)) ∧ (kd (hR h l0 36).1 = (2, 0)) ∧ (vp_in l2 (hS h (hR h l0 36) - 1)) ∧ (kd (hR h l0 25).1 = (2, 0)) ∧ (vp_in l1 (hS h (hR h l0 25) - 1)) ∧ ((¬ (hI h (hR h l0 36) l2.toNatClampNeg) = (hI h (hR h l0 25) l1.toNatClampNeg) → ∀ v7 : Int32, v7 = l2 + (1 : Int32) → (p_M_groupOf_L2 l0 l1 K2_53 Q f) v7 h) ∧ ((hI h (hR h l0 36) l2.toNatClampNeg) = (hI h (hR h l0 25) l1.toNatClampNeg) → (kd (hR h l0 37).1 = (2, 0)) ∧ (vp_in l2 (hS h (hR h l0 37) - 1)) ∧ (kd (hR h l0 26).1 = (2, 0)) ∧ (vp_in l1 (hS h (hR h l0 26) - 1)) ∧ ((¬ (hI h (hR h l0 37) l2.toNatClampNeg) = (hI h (hR h l0 26) l1.toNatClampNeg) → ∀ v14 : Int32, v14 = l2 + (1 : Int32) → (p_M_groupOf_L2 l0 l1 K2_53 Q f) v14 h) ∧ ((hI h (hR h l0 37) l2.toNatClampNeg) = (hI h (hR h l0 26) l1.toNatClampNeg) → (kd (hR h l0 38).1 = (2, 0)) ∧ (vp_in l2 (hS h (hR h l0 38) - 1)) ∧ (kd (hR h l0 27).1 = (2, 0)) ∧ (vp_in l1 (hS h (hR h l0 27) - 1)) ∧ (((hI h (hR h l0 38) l2.toNatClampNeg) = (hI h (hR h l0 27) l1.toNatClampNeg) → K2_53 l2 h) ∧ (¬ (hI h (hR h l0 38) l2.toNatClampNeg) = (hI h (hR h l0 27) l1.toNatClampNeg) → ∀ v21 : Int32, v21 = l2 + (1 : Int32) → (p_M_groupOf_L2 l0 l1 K2_53 Q f) v21 h))))))
set_option maxRecDepth 100000 in
set_option maxHeartbeats 4000000 in
theorem t_M_groupOf_L2 (l0 : xN) (l1 : Int32) (K2_53 : Int32 → xH → Prop) (Q : Int32 → xH → Prop) (hK2_53 : ∀ (x2 : Int32) (h : xH), K2_53 x2 h → WP M_M_groupOf 53 [(2, xi x2)] [] h 0 (qi Q)) : ∀ (f : Nat) (l2 : Int32) (h : xH), p_M_groupOf_L2 l0 l1 K2_53 Q f l2 h → WP M_M_groupOf 2 [(0, xr l0), (1, xi l1), (2, xi l2)] [] h 0 (qi Q) := by
  intro f
  induction f with
  | zero => exact fun _ _ H => H.elim
  | succ f hB2 =>
    intro l2 h H
    unfold p_M_groupOf_L2 at H
    refine wp_aload_n 0 rfl rfl dX11_groupOf_2 ?_
    obtain ⟨q1, H⟩ := H
    refine wp_getr coX11 36 (Nat.le_of_ble_eq_true rfl) fl_X11_101 rfl q1 dX11_groupOf_3 ?_
    refine wp_iload_n 2 rfl rfl dX11_groupOf_6 ?_
    obtain ⟨q2, H⟩ := H
    obtain ⟨q3, H⟩ := H
    refine wp_iaload q2 q3 dX11_groupOf_7 ?_
    refine wp_aload_n 0 rfl rfl dX11_groupOf_8 ?_
    refine wp_getr coX11 25 (Nat.le_of_ble_eq_true rfl) fl_X11_71 rfl q1 dX11_groupOf_9 ?_
    refine wp_iload_n 1 rfl rfl dX11_groupOf_12 ?_
    refine WP.at 13 rfl ?_
    obtain ⟨q4, H⟩ := H
    obtain ⟨q5, H⟩ := H
    refine wp_iaload q4 q5 dX11_groupOf_13 ?_
    refine WP.at 14 rfl ?_
    refine wp_icmp_ne 47 (by decide) dX11_groupOf_14 (fun c6 => ?_) (fun c6 => ?_)
    · replace H := H.1 c6
      refine wp_iincN (1 : Int32) (by decide) rfl (Nat.le_of_ble_eq_true rfl) dX11_groupOf_47 (ls' := fun v7 => [(2, xi v7), (0, xr l0), (1, xi l1)]) (fun _ => rfl) (fun v7 e8 => ?_)
      replace H := H v7 e8
      refine WP.at 50 rfl ?_
      refine wp_goto 2 (by decide) dX11_groupOf_50 ?_
      exact WP.pick [1, 2, 0] rfl (hB2 v7 _ H)
    · replace H := H.2 c6
      refine wp_aload_n 0 rfl rfl dX11_groupOf_17 ?_
      refine wp_getr coX11 37 (Nat.le_of_ble_eq_true rfl) fl_X11_104 rfl q1 dX11_groupOf_18 ?_
      refine wp_iload_n 2 rfl rfl dX11_groupOf_21 ?_
      obtain ⟨q9, H⟩ := H
      obtain ⟨q10, H⟩ := H
      refine wp_iaload q9 q10 dX11_groupOf_22 ?_
      refine wp_aload_n 0 rfl rfl dX11_groupOf_23 ?_
      refine wp_getr coX11 26 (Nat.le_of_ble_eq_true rfl) fl_X11_74 rfl q1 dX11_groupOf_24 ?_
      refine wp_iload_n 1 rfl rfl dX11_groupOf_27 ?_
      refine WP.at 28 rfl ?_
      obtain ⟨q11, H⟩ := H
      obtain ⟨q12, H⟩ := H
      refine wp_iaload q11 q12 dX11_groupOf_28 ?_
      refine WP.at 29 rfl ?_
      refine wp_icmp_ne 47 (by decide) dX11_groupOf_29 (fun c13 => ?_) (fun c13 => ?_)
      · replace H := H.1 c13
        refine wp_iincN (1 : Int32) (by decide) rfl (Nat.le_of_ble_eq_true rfl) dX11_groupOf_47 (ls' := fun v14 => [(2, xi v14), (0, xr l0), (1, xi l1)]) (fun _ => rfl) (fun v14 e15 => ?_)
        replace H := H v14 e15
        refine WP.at 50 rfl ?_
        refine wp_goto 2 (by decide) dX11_groupOf_50 ?_
        exact WP.pick [1, 2, 0] rfl (hB2 v14 _ H)
      · replace H := H.2 c13
        refine wp_aload_n 0 rfl rfl dX11_groupOf_32 ?_
        refine wp_getr coX11 38 (Nat.le_of_ble_eq_true rfl) fl_X11_107 rfl q1 dX11_groupOf_33 ?_
        refine wp_iload_n 2 rfl rfl dX11_groupOf_36 ?_
        obtain ⟨q16, H⟩ := H
        obtain ⟨q17, H⟩ := H
        refine wp_iaload q16 q17 dX11_groupOf_37 ?_
        refine wp_aload_n 0 rfl rfl dX11_groupOf_38 ?_
        refine wp_getr coX11 27 (Nat.le_of_ble_eq_true rfl) fl_X11_77 rfl q1 dX11_groupOf_39 ?_
        refine wp_iload_n 1 rfl rfl dX11_groupOf_42 ?_
        refine WP.at 43 rfl ?_
        obtain ⟨q18, H⟩ := H
        obtain ⟨q19, H⟩ := H
        refine wp_iaload q18 q19 dX11_groupOf_43 ?_
        refine WP.at 44 rfl ?_
        refine wp_icmp_eq 53 (by decide) dX11_groupOf_44 (fun c20 => ?_) (fun c20 => ?_)
        · replace H := H.1 c20
          exact WP.pick [2] rfl (hK2_53 l2 _ H)
        · replace H := H.2 c20
          refine wp_iincN (1 : Int32) (by decide) rfl (Nat.le_of_ble_eq_true rfl) dX11_groupOf_47 (ls' := fun v21 => [(2, xi v21), (0, xr l0), (1, xi l1)]) (fun _ => rfl) (fun v21 e22 => ?_)
          replace H := H v21 e22
          refine WP.at 50 rfl ?_
          refine wp_goto 2 (by decide) dX11_groupOf_50 ?_
          exact WP.pick [1, 2, 0] rfl (hB2 v21 _ H)
def p_M_groupOf (l0 : xN) (l1 : Int32) (h : xH) (Q : Int32 → xH → Prop) : Prop := (∃ f25, p_M_groupOf_L2 l0 l1 (fun (x23 : Int32) (h24 : xH) => Q x23 h24) Q f25 (0 : Int32) h)
set_option maxRecDepth 100000 in
set_option maxHeartbeats 4000000 in
theorem t_M_groupOf (l0 : xN) (l1 : Int32) (h : xH) (Q : Int32 → xH → Prop) (H : p_M_groupOf l0 l1 h Q) : WP M_M_groupOf 0 [(0, xr l0), (1, xi l1)] [] h 0 (qi Q) := by
  unfold p_M_groupOf at H
  refine wp_iconst (0 : Int32) (by decide) dX11_groupOf_0 ?_
  refine wp_istore_n 2 rfl (Nat.le_of_ble_eq_true rfl) dX11_groupOf_1 (ls' := [(2, xi (0 : Int32)), (0, xr l0), (1, xi l1)]) rfl ?_
  refine WP.at 2 rfl ?_
  obtain ⟨f25, H⟩ := H
  refine WP.pick [1, 2, 0] rfl (t_M_groupOf_L2 l0 l1 _ Q ?_ f25 (0 : Int32) _ H)
  · intro x23 h24 H
    refine wp_iload_n 2 rfl rfl dX11_groupOf_53 ?_
    exact wp_iret trivial dX11_groupOf_54 H
def p_M_settle_L128 (l0 : xN) (l1 : Int32) (K128_195 : xH → Prop) (Q : xH → Prop) : Nat → Int32 → xH → Prop
  | 0, _, _ => False
  | f + 1, l3, h => (kd l0.1 = (1, 10)) ∧ (((hI h l0 23) ≤ l3 → K128_195 h) ∧ (¬ (hI h l0 23) ≤ l3 → (kd (hR h l0 24).1 = (2, 0)) ∧ (vp_in l3 (hS h (hR h l0 24) - 1)) ∧ ((¬ (hI h (hR h l0 24) l3.toNatClampNeg) = l1 → ∀ v25 : Int32, v25 = l3 + (1 : Int32) → (p_M_settle_L128 l0 l1 K128_195 Q f) v25 h) ∧ ((hI h (hR h l0 24) l3.toNatClampNeg) = l1 → (kd (hR h l0 29).1 = (2, 0)) ∧ (vp_in l3 (hS h (hR h l0 29) - 1)) ∧ ((¬ (hI h (hR h l0 29) l3.toNatClampNeg) = 0 → ∀ v30 : Int32, v30 = l3 + (1 : Int32) → (p_M_settle_L128 l0 l1 K128_195 Q f) v30 h) ∧ ((hI h (hR h l0 29) l3.toNatClampNeg) = 0 → (kd (hR h l0 32).1 = (3, 0)) ∧ (vp_in l3 (hS h (hR h l0 32) - 1)) ∧ ∀ h34 : xH, h34 = sI h (hR h l0 32) l3.toNatClampNeg (1 : Int32) → ((¬ (hI h34 l0 41) = 0 → p_M_groupOf l0 l3 h34 (fun (v38 : Int32) (h37 : xH) => (kd (hR h34 l0 40).1 = (2, 0)) ∧ (vp_in v38 (hS h37 (hR h34 l0 40) - 1)) ∧ (kd (hR h34 l0 31).1 = (2, 0)) ∧ (vp_in l3 (hS h37 (hR h34 l0 31) - 1)) ∧ ∀ h43 : xH, h43 = sI h37 (hR h34 l0 31) l3.toNatClampNeg (hI h37 (hR h34 l0 40) v38.toNatClampNeg) → ∀ v45 : Int32, v45 = l3 + (1 : Int32) → (p_M_settle_L128 l0 l1 K128_195 Q f) v45 h43)) ∧ ((hI h34 l0 41) = 0 → (kd (hR h34 l0 31).1 = (2, 0)) ∧ (vp_in l3 (hS h34 (hR h34 l0 31) - 1)) ∧ ∀ h49 : xH, h49 = sI h34 (hR h34 l0 31) l3.toNatClampNeg (0 : Int32) → ∀ v51 : Int32, v51 = l3 + (1 : Int32) → (p_M_settle_L128 l0 l1 K128_195 Q f) v51 h49))))))))
set_option maxRecDepth 100000 in
set_option maxHeartbeats 4000000 in
theorem t_M_settle_L128 (l0 : xN) (l1 : Int32) (K128_195 : xH → Prop) (Q : xH → Prop) (hK128_195 : ∀ (h : xH), K128_195 h → WP M_M_settle 195 [(0, xr l0), (1, xi l1)] [] h 0 (qv Q)) : ∀ (f : Nat) (l3 : Int32) (h : xH), p_M_settle_L128 l0 l1 K128_195 Q f l3 h → WP M_M_settle 128 [(0, xr l0), (1, xi l1), (3, xi l3)] [] h 0 (qv Q) := by
  intro f
  induction f with
  | zero => exact fun _ _ H => H.elim
  | succ f hB128 =>
    intro l3 h H
    unfold p_M_settle_L128 at H
    refine wp_iload_n 3 rfl rfl dX11_settle_128 ?_
    refine wp_aload_n 0 rfl rfl dX11_settle_129 ?_
    obtain ⟨q20, H⟩ := H
    refine wp_geti coX11 23 (Nat.le_of_ble_eq_true rfl) fl_X11_205 rfl q20 dX11_settle_130 ?_
    refine WP.at 133 rfl ?_
    refine wp_icmp_ge 195 (by decide) dX11_settle_133 (fun c21 => ?_) (fun c21 => ?_)
    · replace H := H.1 c21
      exact WP.pick [0, 1] rfl (hK128_195 _ H)
    · replace H := H.2 c21
      refine wp_aload_n 0 rfl rfl dX11_settle_136 ?_
      refine wp_getr coX11 24 (Nat.le_of_ble_eq_true rfl) fl_X11_68 rfl q20 dX11_settle_137 ?_
      refine wp_iload_n 3 rfl rfl dX11_settle_140 ?_
      obtain ⟨q22, H⟩ := H
      obtain ⟨q23, H⟩ := H
      refine wp_iaload q22 q23 dX11_settle_141 ?_
      refine wp_iload_n 1 rfl rfl dX11_settle_142 ?_
      refine WP.at 143 rfl ?_
      refine wp_icmp_ne 189 (by decide) dX11_settle_143 (fun c24 => ?_) (fun c24 => ?_)
      · replace H := H.1 c24
        refine wp_iincN (1 : Int32) (by decide) rfl (Nat.le_of_ble_eq_true rfl) dX11_settle_189 (ls' := fun v25 => [(3, xi v25), (0, xr l0), (1, xi l1)]) (fun _ => rfl) (fun v25 e26 => ?_)
        replace H := H v25 e26
        refine WP.at 192 rfl ?_
        refine wp_goto 128 (by decide) dX11_settle_192 ?_
        exact WP.pick [1, 2, 0] rfl (hB128 v25 _ H)
      · replace H := H.2 c24
        refine wp_aload_n 0 rfl rfl dX11_settle_146 ?_
        refine wp_getr coX11 29 (Nat.le_of_ble_eq_true rfl) fl_X11_83 rfl q20 dX11_settle_147 ?_
        refine wp_iload_n 3 rfl rfl dX11_settle_150 ?_
        obtain ⟨q27, H⟩ := H
        obtain ⟨q28, H⟩ := H
        refine wp_iaload q27 q28 dX11_settle_151 ?_
        refine WP.at 152 rfl ?_
        refine wp_if_ne 189 (by decide) dX11_settle_152 (fun c29 => ?_) (fun c29 => ?_)
        · replace H := H.1 c29
          refine wp_iincN (1 : Int32) (by decide) rfl (Nat.le_of_ble_eq_true rfl) dX11_settle_189 (ls' := fun v30 => [(3, xi v30), (0, xr l0), (1, xi l1)]) (fun _ => rfl) (fun v30 e31 => ?_)
          replace H := H v30 e31
          refine WP.at 192 rfl ?_
          refine wp_goto 128 (by decide) dX11_settle_192 ?_
          exact WP.pick [1, 2, 0] rfl (hB128 v30 _ H)
        · replace H := H.2 c29
          refine wp_aload_n 0 rfl rfl dX11_settle_155 ?_
          refine wp_getr coX11 32 (Nat.le_of_ble_eq_true rfl) fl_X11_92 rfl q20 dX11_settle_156 ?_
          refine wp_iload_n 3 rfl rfl dX11_settle_159 ?_
          refine wp_iconst (1 : Int32) (by decide) dX11_settle_160 ?_
          obtain ⟨q32, H⟩ := H
          obtain ⟨q33, H⟩ := H
          refine wp_bastore (Or.inr rfl) q32 q33 dX11_settle_161 ?_
          refine wp_nh (fun h34 e35 => ?_)
          replace H := H h34 e35
          refine wp_aload_n 0 rfl rfl dX11_settle_162 ?_
          refine wp_getr coX11 31 (Nat.le_of_ble_eq_true rfl) fl_X11_89 rfl q20 dX11_settle_163 ?_
          refine WP.at 166 rfl ?_
          refine wp_iload_n 3 rfl rfl dX11_settle_166 ?_
          refine wp_aload_n 0 rfl rfl dX11_settle_167 ?_
          refine wp_geti coX11 41 (Nat.le_of_ble_eq_true rfl) fl_X11_225 rfl q20 dX11_settle_168 ?_
          refine WP.at 171 rfl ?_
          refine wp_if_ne 178 (by decide) dX11_settle_171 (fun c36 => ?_) (fun c36 => ?_)
          · replace H := H.1 c36
            refine wp_aload_n 0 rfl rfl dX11_settle_178 ?_
            refine wp_getr coX11 40 (Nat.le_of_ble_eq_true rfl) fl_X11_113 rfl q20 dX11_settle_179 ?_
            refine wp_aload_n 0 rfl rfl dX11_settle_182 ?_
            refine wp_iload_n 3 rfl rfl dX11_settle_183 ?_
            refine WP.at 184 rfl ?_
            refine wp_cVi (M2 := M_M_groupOf) coX11 l0 q20 [xi l3] rfl lv_X11_265 mo_M_groupOf (Nat.le_of_ble_eq_true rfl) ⟨(Nat.le_of_ble_eq_true rfl), (Nat.le_of_ble_eq_true rfl)⟩ (Nat.le_of_ble_eq_true rfl) (Nat.le_of_ble_eq_true rfl) dX11_settle_184 (t_M_groupOf l0 l3 _ _ H) (fun v38 h37 H => ?_)
            obtain ⟨q39, H⟩ := H
            obtain ⟨q40, H⟩ := H
            refine wp_iaload q39 q40 dX11_settle_187 ?_
            obtain ⟨q41, H⟩ := H
            obtain ⟨q42, H⟩ := H
            refine wp_iastore q41 q42 dX11_settle_188 ?_
            refine wp_nh (fun h43 e44 => ?_)
            replace H := H h43 e44
            refine WP.at 189 rfl ?_
            refine wp_iincN (1 : Int32) (by decide) rfl (Nat.le_of_ble_eq_true rfl) dX11_settle_189 (ls' := fun v45 => [(3, xi v45), (0, xr l0), (1, xi l1)]) (fun _ => rfl) (fun v45 e46 => ?_)
            replace H := H v45 e46
            refine WP.at 192 rfl ?_
            refine wp_goto 128 (by decide) dX11_settle_192 ?_
            exact WP.pick [1, 2, 0] rfl (hB128 v45 _ H)
          · replace H := H.2 c36
            refine wp_iconst (0 : Int32) (by decide) dX11_settle_174 ?_
            refine WP.at 175 rfl ?_
            refine wp_goto 188 (by decide) dX11_settle_175 ?_
            obtain ⟨q47, H⟩ := H
            obtain ⟨q48, H⟩ := H
            refine wp_iastore q47 q48 dX11_settle_188 ?_
            refine wp_nh (fun h49 e50 => ?_)
            replace H := H h49 e50
            refine wp_iincN (1 : Int32) (by decide) rfl (Nat.le_of_ble_eq_true rfl) dX11_settle_189 (ls' := fun v51 => [(3, xi v51), (0, xr l0), (1, xi l1)]) (fun _ => rfl) (fun v51 e52 => ?_)
            replace H := H v51 e52
            refine WP.at 192 rfl ?_
            refine wp_goto 128 (by decide) dX11_settle_192 ?_
            exact WP.pick [1, 2, 0] rfl (hB128 v51 _ H)
def p_M_settle_j116 (l0 : xN) (l1 : Int32) (h : xH) (Q : xH → Prop) : Prop := (kd l0.1 = (1, 10)) ∧ (kd (hR h l0 15).1 = (2, 0)) ∧ (vp_in l1 (hS h (hR h l0 15) - 1)) ∧ ∀ h18 : xH, h18 = sI h (hR h l0 15) l1.toNatClampNeg (hI h l0 43) → (∃ f68, p_M_settle_L128 l0 l1 (fun (h53 : xH) => ((¬ (hI h53 l0 41) = 0 → (kd (hR h53 l0 19).1 = (2, 0)) ∧ (vp_in l1 (hS h53 (hR h53 l0 19) - 1)) ∧ ∀ h57 : xH, h57 = sI h53 (hR h53 l0 19) l1.toNatClampNeg (hI h53 l0 46) → (kd (hR h57 l0 20).1 = (2, 0)) ∧ (vp_in l1 (hS h57 (hR h57 l0 20) - 1)) ∧ ∀ h61 : xH, h61 = sI h57 (hR h57 l0 20) l1.toNatClampNeg (hI h57 l0 45) → (kd (hR h61 l0 18).1 = (2, 0)) ∧ (vp_in l1 (hS h61 (hR h61 l0 18) - 1)) ∧ ∀ h65 : xH, h65 = sI h61 (hR h61 l0 18) l1.toNatClampNeg (((hI h61 l0 44) + (hI h61 l0 46)) - (hI h61 l0 45)) → Q h65) ∧ ((hI h53 l0 41) = 0 → p_M_carry l0 l1 (hI h53 l0 44) h53 (fun h67 : xH => Q h67)))) Q f68 (0 : Int32) h18)
set_option maxRecDepth 100000 in
set_option maxHeartbeats 4000000 in
theorem t_M_settle_j116 (l0 : xN) (l1 : Int32) (h : xH) (Q : xH → Prop) (H : p_M_settle_j116 l0 l1 h Q) : WP M_M_settle 116 [(0, xr l0), (1, xi l1)] [] h 0 (qv Q) := by
  unfold p_M_settle_j116 at H
  refine wp_aload_n 0 rfl rfl dX11_settle_116 ?_
  obtain ⟨q15, H⟩ := H
  refine wp_getr coX11 15 (Nat.le_of_ble_eq_true rfl) fl_X11_47 rfl q15 dX11_settle_117 ?_
  refine wp_iload_n 1 rfl rfl dX11_settle_120 ?_
  refine wp_aload_n 0 rfl rfl dX11_settle_121 ?_
  refine wp_geti coX11 43 (Nat.le_of_ble_eq_true rfl) fl_X11_240 rfl q15 dX11_settle_122 ?_
  obtain ⟨q16, H⟩ := H
  obtain ⟨q17, H⟩ := H
  refine wp_iastore q16 q17 dX11_settle_125 ?_
  refine wp_nh (fun h18 e19 => ?_)
  replace H := H h18 e19
  refine wp_iconst (0 : Int32) (by decide) dX11_settle_126 ?_
  refine WP.at 127 rfl ?_
  refine wp_istore_n 3 rfl (Nat.le_of_ble_eq_true rfl) dX11_settle_127 (ls' := [(3, xi (0 : Int32)), (0, xr l0), (1, xi l1)]) rfl ?_
  refine WP.at 128 rfl ?_
  obtain ⟨f68, H⟩ := H
  refine WP.pick [1, 2, 0] rfl (t_M_settle_L128 l0 l1 _ Q ?_ f68 (0 : Int32) _ H)
  · intro h53 H
    refine wp_aload_n 0 rfl rfl dX11_settle_195 ?_
    refine wp_geti coX11 41 (Nat.le_of_ble_eq_true rfl) fl_X11_225 rfl q15 dX11_settle_196 ?_
    refine WP.at 199 rfl ?_
    refine wp_if_ne 212 (by decide) dX11_settle_199 (fun c54 => ?_) (fun c54 => ?_)
    · replace H := H.1 c54
      refine wp_aload_n 0 rfl rfl dX11_settle_212 ?_
      refine wp_getr coX11 19 (Nat.le_of_ble_eq_true rfl) fl_X11_59 rfl q15 dX11_settle_213 ?_
      refine wp_iload_n 1 rfl rfl dX11_settle_216 ?_
      refine wp_aload_n 0 rfl rfl dX11_settle_217 ?_
      refine wp_geti coX11 46 (Nat.le_of_ble_eq_true rfl) fl_X11_249 rfl q15 dX11_settle_218 ?_
      obtain ⟨q55, H⟩ := H
      obtain ⟨q56, H⟩ := H
      refine wp_iastore q55 q56 dX11_settle_221 ?_
      refine wp_nh (fun h57 e58 => ?_)
      replace H := H h57 e58
      refine wp_aload_n 0 rfl rfl dX11_settle_222 ?_
      refine WP.at 223 rfl ?_
      refine wp_getr coX11 20 (Nat.le_of_ble_eq_true rfl) fl_X11_62 rfl q15 dX11_settle_223 ?_
      refine wp_iload_n 1 rfl rfl dX11_settle_226 ?_
      refine wp_aload_n 0 rfl rfl dX11_settle_227 ?_
      refine wp_geti coX11 45 (Nat.le_of_ble_eq_true rfl) fl_X11_246 rfl q15 dX11_settle_228 ?_
      obtain ⟨q59, H⟩ := H
      obtain ⟨q60, H⟩ := H
      refine wp_iastore q59 q60 dX11_settle_231 ?_
      refine wp_nh (fun h61 e62 => ?_)
      replace H := H h61 e62
      refine wp_aload_n 0 rfl rfl dX11_settle_232 ?_
      refine wp_getr coX11 18 (Nat.le_of_ble_eq_true rfl) fl_X11_56 rfl q15 dX11_settle_233 ?_
      refine wp_iload_n 1 rfl rfl dX11_settle_236 ?_
      refine WP.at 237 rfl ?_
      refine wp_aload_n 0 rfl rfl dX11_settle_237 ?_
      refine wp_geti coX11 44 (Nat.le_of_ble_eq_true rfl) fl_X11_243 rfl q15 dX11_settle_238 ?_
      refine wp_aload_n 0 rfl rfl dX11_settle_241 ?_
      refine wp_geti coX11 46 (Nat.le_of_ble_eq_true rfl) fl_X11_249 rfl q15 dX11_settle_242 ?_
      refine wp_iadd dX11_settle_245 ?_
      refine wp_aload_n 0 rfl rfl dX11_settle_246 ?_
      refine wp_geti coX11 45 (Nat.le_of_ble_eq_true rfl) fl_X11_246 rfl q15 dX11_settle_247 ?_
      refine wp_isub dX11_settle_250 ?_
      refine WP.at 251 rfl ?_
      obtain ⟨q63, H⟩ := H
      obtain ⟨q64, H⟩ := H
      refine wp_iastore q63 q64 dX11_settle_251 ?_
      refine wp_nh (fun h65 e66 => ?_)
      replace H := H h65 e66
      exact wp_vret trivial dX11_settle_252 H
    · replace H := H.2 c54
      refine wp_aload_n 0 rfl rfl dX11_settle_202 ?_
      refine wp_iload_n 1 rfl rfl dX11_settle_203 ?_
      refine wp_aload_n 0 rfl rfl dX11_settle_204 ?_
      refine wp_geti coX11 44 (Nat.le_of_ble_eq_true rfl) fl_X11_243 rfl q15 dX11_settle_205 ?_
      refine WP.at 208 rfl ?_
      refine wp_cVv (M2 := M_M_carry) coX11 l0 q15 [xi l1, xi (hI h53 l0 44)] rfl lv_X11_261 mo_M_carry (Nat.le_of_ble_eq_true rfl) ⟨(Nat.le_of_ble_eq_true rfl), (Nat.le_of_ble_eq_true rfl)⟩ (Nat.le_of_ble_eq_true rfl) (Nat.le_of_ble_eq_true rfl) dX11_settle_208 (t_M_carry l0 l1 (hI h53 l0 44) _ _ H) (fun h67 H => ?_)
      exact wp_vret trivial dX11_settle_211 H
def p_M_settle_L62 (l0 : xN) (l1 : Int32) (l2 : Int32) (K62_100 : xH → Prop) (Q : xH → Prop) : Nat → Int32 → xH → Prop
  | 0, _, _ => False
  | f + 1, l3, h => (kd l0.1 = (1, 10)) ∧ (((hI h l0 23) ≤ l3 → K62_100 h) ∧ (¬ (hI h l0 23) ≤ l3 → (kd (hR h l0 24).1 = (2, 0)) ∧ (vp_in l3 (hS h (hR h l0 24) - 1)) ∧ ((¬ (hI h (hR h l0 24) l3.toNatClampNeg) = l1 → ∀ v75 : Int32, v75 = l3 + (1 : Int32) → (p_M_settle_L62 l0 l1 l2 K62_100 Q f) v75 h) ∧ ((hI h (hR h l0 24) l3.toNatClampNeg) = l1 → (kd (hR h l0 29).1 = (2, 0)) ∧ (vp_in l3 (hS h (hR h l0 29) - 1)) ∧ ((¬ (hI h (hR h l0 29) l3.toNatClampNeg) = 0 → ∀ v80 : Int32, v80 = l3 + (1 : Int32) → (p_M_settle_L62 l0 l1 l2 K62_100 Q f) v80 h) ∧ ((hI h (hR h l0 29) l3.toNatClampNeg) = 0 → p_M_refund l0 l3 h (fun h82 : xH => ∀ v83 : Int32, v83 = l3 + (1 : Int32) → (p_M_settle_L62 l0 l1 l2 K62_100 Q f) v83 h82)))))))
set_option maxRecDepth 100000 in
set_option maxHeartbeats 4000000 in
theorem t_M_settle_L62 (l0 : xN) (l1 : Int32) (l2 : Int32) (K62_100 : xH → Prop) (Q : xH → Prop) (hK62_100 : ∀ (h : xH), K62_100 h → WP M_M_settle 100 [(0, xr l0), (1, xi l1), (2, xi l2)] [] h 0 (qv Q)) : ∀ (f : Nat) (l3 : Int32) (h : xH), p_M_settle_L62 l0 l1 l2 K62_100 Q f l3 h → WP M_M_settle 62 [(0, xr l0), (1, xi l1), (2, xi l2), (3, xi l3)] [] h 0 (qv Q) := by
  intro f
  induction f with
  | zero => exact fun _ _ H => H.elim
  | succ f hB62 =>
    intro l3 h H
    unfold p_M_settle_L62 at H
    refine wp_iload_n 3 rfl rfl dX11_settle_62 ?_
    refine wp_aload_n 0 rfl rfl dX11_settle_63 ?_
    obtain ⟨q70, H⟩ := H
    refine wp_geti coX11 23 (Nat.le_of_ble_eq_true rfl) fl_X11_205 rfl q70 dX11_settle_64 ?_
    refine WP.at 67 rfl ?_
    refine wp_icmp_ge 100 (by decide) dX11_settle_67 (fun c71 => ?_) (fun c71 => ?_)
    · replace H := H.1 c71
      exact WP.pick [0, 1, 2] rfl (hK62_100 _ H)
    · replace H := H.2 c71
      refine wp_aload_n 0 rfl rfl dX11_settle_70 ?_
      refine wp_getr coX11 24 (Nat.le_of_ble_eq_true rfl) fl_X11_68 rfl q70 dX11_settle_71 ?_
      refine wp_iload_n 3 rfl rfl dX11_settle_74 ?_
      obtain ⟨q72, H⟩ := H
      obtain ⟨q73, H⟩ := H
      refine wp_iaload q72 q73 dX11_settle_75 ?_
      refine wp_iload_n 1 rfl rfl dX11_settle_76 ?_
      refine WP.at 77 rfl ?_
      refine wp_icmp_ne 94 (by decide) dX11_settle_77 (fun c74 => ?_) (fun c74 => ?_)
      · replace H := H.1 c74
        refine wp_iincN (1 : Int32) (by decide) rfl (Nat.le_of_ble_eq_true rfl) dX11_settle_94 (ls' := fun v75 => [(3, xi v75), (0, xr l0), (1, xi l1), (2, xi l2)]) (fun _ => rfl) (fun v75 e76 => ?_)
        replace H := H v75 e76
        refine WP.at 97 rfl ?_
        refine wp_goto 62 (by decide) dX11_settle_97 ?_
        exact WP.pick [1, 2, 3, 0] rfl (hB62 v75 _ H)
      · replace H := H.2 c74
        refine wp_aload_n 0 rfl rfl dX11_settle_80 ?_
        refine wp_getr coX11 29 (Nat.le_of_ble_eq_true rfl) fl_X11_83 rfl q70 dX11_settle_81 ?_
        refine wp_iload_n 3 rfl rfl dX11_settle_84 ?_
        obtain ⟨q77, H⟩ := H
        obtain ⟨q78, H⟩ := H
        refine wp_iaload q77 q78 dX11_settle_85 ?_
        refine WP.at 86 rfl ?_
        refine wp_if_ne 94 (by decide) dX11_settle_86 (fun c79 => ?_) (fun c79 => ?_)
        · replace H := H.1 c79
          refine wp_iincN (1 : Int32) (by decide) rfl (Nat.le_of_ble_eq_true rfl) dX11_settle_94 (ls' := fun v80 => [(3, xi v80), (0, xr l0), (1, xi l1), (2, xi l2)]) (fun _ => rfl) (fun v80 e81 => ?_)
          replace H := H v80 e81
          refine WP.at 97 rfl ?_
          refine wp_goto 62 (by decide) dX11_settle_97 ?_
          exact WP.pick [1, 2, 3, 0] rfl (hB62 v80 _ H)
        · replace H := H.2 c79
          refine wp_aload_n 0 rfl rfl dX11_settle_89 ?_
          refine wp_iload_n 3 rfl rfl dX11_settle_90 ?_
          refine WP.at 91 rfl ?_
          refine wp_cVv (M2 := M_M_refund) coX11 l0 q70 [xi l3] rfl lv_X11_208 mo_M_refund (Nat.le_of_ble_eq_true rfl) ⟨(Nat.le_of_ble_eq_true rfl), (Nat.le_of_ble_eq_true rfl)⟩ (Nat.le_of_ble_eq_true rfl) (Nat.le_of_ble_eq_true rfl) dX11_settle_91 (t_M_refund l0 l3 _ _ H) (fun h82 H => ?_)
          refine wp_iincN (1 : Int32) (by decide) rfl (Nat.le_of_ble_eq_true rfl) dX11_settle_94 (ls' := fun v83 => [(3, xi v83), (0, xr l0), (1, xi l1), (2, xi l2)]) (fun _ => rfl) (fun v83 e84 => ?_)
          replace H := H v83 e84
          refine WP.at 97 rfl ?_
          refine wp_goto 62 (by decide) dX11_settle_97 ?_
          exact WP.pick [1, 2, 3, 0] rfl (hB62 v83 _ H)
def p_M_settle_j40 (s0 : Int32) (l0 : xN) (l1 : Int32) (h : xH) (Q : xH → Prop) : Prop := (kd l0.1 = (1, 10)) ∧ ((¬ (hI h l0 41) = 0 → p_M_settle_j116 l0 l1 h Q) ∧ ((hI h l0 41) = 0 → ((s0 = 0 → (∃ f90, p_M_settle_L62 l0 l1 s0 (fun (h85 : xH) => ((s0 = 0 → Q h85) ∧ (¬ s0 = 0 → (kd (hR h85 l0 16).1 = (2, 0)) ∧ (vp_in l1 (hS h85 (hR h85 l0 16) - 1)) ∧ p_M_carry l0 l1 (hI h85 (hR h85 l0 16) l1.toNatClampNeg) h85 (fun h89 : xH => Q h89)))) Q f90 (0 : Int32) h)) ∧ (¬ s0 = 0 → p_M_isVoid l0 l1 h (fun (v92 : Int32) (h91 : xH) => ((v92 = 0 → p_M_settle_j116 l0 l1 h91 Q) ∧ (¬ v92 = 0 → (∃ f99, p_M_settle_L62 l0 l1 s0 (fun (h94 : xH) => ((s0 = 0 → Q h94) ∧ (¬ s0 = 0 → (kd (hR h94 l0 16).1 = (2, 0)) ∧ (vp_in l1 (hS h94 (hR h94 l0 16) - 1)) ∧ p_M_carry l0 l1 (hI h94 (hR h94 l0 16) l1.toNatClampNeg) h94 (fun h98 : xH => Q h98)))) Q f99 (0 : Int32) h91))))))))
set_option maxRecDepth 100000 in
set_option maxHeartbeats 4000000 in
theorem t_M_settle_j40 (s0 : Int32) (l0 : xN) (l1 : Int32) (h : xH) (Q : xH → Prop) (H : p_M_settle_j40 s0 l0 l1 h Q) : WP M_M_settle 40 [(0, xr l0), (1, xi l1)] [xi s0] h 0 (qv Q) := by
  unfold p_M_settle_j40 at H
  refine wp_istore_n 2 rfl (Nat.le_of_ble_eq_true rfl) dX11_settle_40 (ls' := [(2, xi s0), (0, xr l0), (1, xi l1)]) rfl ?_
  refine wp_aload_n 0 rfl rfl dX11_settle_41 ?_
  obtain ⟨q13, H⟩ := H
  refine wp_geti coX11 41 (Nat.le_of_ble_eq_true rfl) fl_X11_225 rfl q13 dX11_settle_42 ?_
  refine WP.at 45 rfl ?_
  refine wp_if_ne 116 (by decide) dX11_settle_45 (fun c14 => ?_) (fun c14 => ?_)
  · replace H := H.1 c14
    exact WP.pick [1, 2] rfl (t_M_settle_j116 l0 l1 _ _ H)
  · replace H := H.2 c14
    refine wp_iload_n 2 rfl rfl dX11_settle_48 ?_
    refine WP.at 49 rfl ?_
    refine wp_if_eq 60 (by decide) dX11_settle_49 (fun c69 => ?_) (fun c69 => ?_)
    · replace H := H.1 c69
      refine wp_iconst (0 : Int32) (by decide) dX11_settle_60 ?_
      refine wp_istore_n 3 rfl (Nat.le_of_ble_eq_true rfl) dX11_settle_61 (ls' := [(3, xi (0 : Int32)), (2, xi s0), (0, xr l0), (1, xi l1)]) rfl ?_
      refine WP.at 62 rfl ?_
      obtain ⟨f90, H⟩ := H
      refine WP.pick [2, 3, 1, 0] rfl (t_M_settle_L62 l0 l1 s0 _ Q ?_ f90 (0 : Int32) _ H)
      · intro h85 H
        refine wp_iload_n 2 rfl rfl dX11_settle_100 ?_
        refine WP.at 101 rfl ?_
        refine wp_if_eq 115 (by decide) dX11_settle_101 (fun c86 => ?_) (fun c86 => ?_)
        · replace H := H.1 c86
          exact wp_vret trivial dX11_settle_115 H
        · replace H := H.2 c86
          refine wp_aload_n 0 rfl rfl dX11_settle_104 ?_
          refine wp_iload_n 1 rfl rfl dX11_settle_105 ?_
          refine wp_aload_n 0 rfl rfl dX11_settle_106 ?_
          refine wp_getr coX11 16 (Nat.le_of_ble_eq_true rfl) fl_X11_50 rfl q13 dX11_settle_107 ?_
          refine wp_iload_n 1 rfl rfl dX11_settle_110 ?_
          obtain ⟨q87, H⟩ := H
          obtain ⟨q88, H⟩ := H
          refine wp_iaload q87 q88 dX11_settle_111 ?_
          refine WP.at 112 rfl ?_
          refine wp_cVv (M2 := M_M_carry) coX11 l0 q13 [xi l1, xi (hI h85 (hR h85 l0 16) l1.toNatClampNeg)] rfl lv_X11_261 mo_M_carry (Nat.le_of_ble_eq_true rfl) ⟨(Nat.le_of_ble_eq_true rfl), (Nat.le_of_ble_eq_true rfl)⟩ (Nat.le_of_ble_eq_true rfl) (Nat.le_of_ble_eq_true rfl) dX11_settle_112 (t_M_carry l0 l1 (hI h85 (hR h85 l0 16) l1.toNatClampNeg) _ _ H) (fun h89 H => ?_)
          refine WP.at 115 rfl ?_
          exact wp_vret trivial dX11_settle_115 H
    · replace H := H.2 c69
      refine wp_aload_n 0 rfl rfl dX11_settle_52 ?_
      refine wp_iload_n 1 rfl rfl dX11_settle_53 ?_
      refine WP.at 54 rfl ?_
      refine wp_cVi (M2 := M_M_isVoid) coX11 l0 q13 [xi l1] rfl lv_X11_231 mo_M_isVoid (Nat.le_of_ble_eq_true rfl) ⟨(Nat.le_of_ble_eq_true rfl), (Nat.le_of_ble_eq_true rfl)⟩ (Nat.le_of_ble_eq_true rfl) (Nat.le_of_ble_eq_true rfl) dX11_settle_54 (t_M_isVoid l0 l1 _ _ H) (fun v92 h91 H => ?_)
      refine WP.at 57 rfl ?_
      refine wp_if_eq 116 (by decide) dX11_settle_57 (fun c93 => ?_) (fun c93 => ?_)
      · replace H := H.1 c93
        exact WP.pick [1, 2] rfl (t_M_settle_j116 l0 l1 _ _ H)
      · replace H := H.2 c93
        refine wp_iconst (0 : Int32) (by decide) dX11_settle_60 ?_
        refine wp_istore_n 3 rfl (Nat.le_of_ble_eq_true rfl) dX11_settle_61 (ls' := [(3, xi (0 : Int32)), (2, xi s0), (0, xr l0), (1, xi l1)]) rfl ?_
        refine WP.at 62 rfl ?_
        obtain ⟨f99, H⟩ := H
        refine WP.pick [2, 3, 1, 0] rfl (t_M_settle_L62 l0 l1 s0 _ Q ?_ f99 (0 : Int32) _ H)
        · intro h94 H
          refine wp_iload_n 2 rfl rfl dX11_settle_100 ?_
          refine WP.at 101 rfl ?_
          refine wp_if_eq 115 (by decide) dX11_settle_101 (fun c95 => ?_) (fun c95 => ?_)
          · replace H := H.1 c95
            exact wp_vret trivial dX11_settle_115 H
          · replace H := H.2 c95
            refine wp_aload_n 0 rfl rfl dX11_settle_104 ?_
            refine wp_iload_n 1 rfl rfl dX11_settle_105 ?_
            refine wp_aload_n 0 rfl rfl dX11_settle_106 ?_
            refine wp_getr coX11 16 (Nat.le_of_ble_eq_true rfl) fl_X11_50 rfl q13 dX11_settle_107 ?_
            refine wp_iload_n 1 rfl rfl dX11_settle_110 ?_
            obtain ⟨q96, H⟩ := H
            obtain ⟨q97, H⟩ := H
            refine wp_iaload q96 q97 dX11_settle_111 ?_
            refine WP.at 112 rfl ?_
            refine wp_cVv (M2 := M_M_carry) coX11 l0 q13 [xi l1, xi (hI h94 (hR h94 l0 16) l1.toNatClampNeg)] rfl lv_X11_261 mo_M_carry (Nat.le_of_ble_eq_true rfl) ⟨(Nat.le_of_ble_eq_true rfl), (Nat.le_of_ble_eq_true rfl)⟩ (Nat.le_of_ble_eq_true rfl) (Nat.le_of_ble_eq_true rfl) dX11_settle_112 (t_M_carry l0 l1 (hI h94 (hR h94 l0 16) l1.toNatClampNeg) _ _ H) (fun h98 H => ?_)
            refine WP.at 115 rfl ?_
            exact wp_vret trivial dX11_settle_115 H
def p_M_settle (l0 : xN) (l1 : Int32) (h : xH) (Q : xH → Prop) : Prop := (kd l0.1 = (1, 10)) ∧ ∀ h2 : xH, h2 = sI h l0 35 (0 : Int32) → p_M_group l0 l1 h2 (fun h4 : xH => p_M_figure l0 l1 (0 : Int32) (hI h4 l0 35) h4 (fun h5 : xH => (kd (hR h5 l0 9).1 = (3, 0)) ∧ (vp_in l1 (hS h5 (hR h5 l0 9) - 1)) ∧ ∀ h8 : xH, h8 = sI h5 (hR h5 l0 9) l1.toNatClampNeg (1 : Int32) → p_M_kindOf l1 h8 (fun (v11 : Int32) (h10 : xH) => ((¬ v11 = (3 : Int32) → p_M_settle_j40 (0 : Int32) l0 l1 h10 Q) ∧ (v11 = (3 : Int32) → p_M_settle_j40 (1 : Int32) l0 l1 h10 Q)))))
set_option maxRecDepth 100000 in
set_option maxHeartbeats 4000000 in
theorem t_M_settle (l0 : xN) (l1 : Int32) (h : xH) (Q : xH → Prop) (H : p_M_settle l0 l1 h Q) : WP M_M_settle 0 [(0, xr l0), (1, xi l1)] [] h 0 (qv Q) := by
  unfold p_M_settle at H
  refine wp_aload_n 0 rfl rfl dX11_settle_0 ?_
  refine wp_iconst (0 : Int32) (by decide) dX11_settle_1 ?_
  obtain ⟨q1, H⟩ := H
  refine wp_puti coX11 35 (Nat.le_of_ble_eq_true rfl) fl_X11_215 rfl rfl ⟨rfl, rfl⟩ q1 dX11_settle_2 ?_
  refine wp_nh (fun h2 e3 => ?_)
  replace H := H h2 e3
  refine wp_aload_n 0 rfl rfl dX11_settle_5 ?_
  refine wp_iload_n 1 rfl rfl dX11_settle_6 ?_
  refine WP.at 7 rfl ?_
  refine wp_cVv (M2 := M_M_group) coX11 l0 q1 [xi l1] rfl lv_X11_255 mo_M_group (Nat.le_of_ble_eq_true rfl) ⟨(Nat.le_of_ble_eq_true rfl), (Nat.le_of_ble_eq_true rfl)⟩ (Nat.le_of_ble_eq_true rfl) (Nat.le_of_ble_eq_true rfl) dX11_settle_7 (t_M_group l0 l1 _ _ H) (fun h4 H => ?_)
  refine wp_aload_n 0 rfl rfl dX11_settle_10 ?_
  refine WP.at 11 rfl ?_
  refine wp_iload_n 1 rfl rfl dX11_settle_11 ?_
  refine wp_iconst (0 : Int32) (by decide) dX11_settle_12 ?_
  refine wp_aload_n 0 rfl rfl dX11_settle_13 ?_
  refine wp_geti coX11 35 (Nat.le_of_ble_eq_true rfl) fl_X11_215 rfl q1 dX11_settle_14 ?_
  refine WP.at 17 rfl ?_
  refine wp_cVv (M2 := M_M_figure) coX11 l0 q1 [xi l1, xi (0 : Int32), xi (hI h4 l0 35)] rfl lv_X11_258 mo_M_figure (Nat.le_of_ble_eq_true rfl) ⟨(Nat.le_of_ble_eq_true rfl), (Nat.le_of_ble_eq_true rfl)⟩ (Nat.le_of_ble_eq_true rfl) (Nat.le_of_ble_eq_true rfl) dX11_settle_17 (t_M_figure l0 l1 (0 : Int32) (hI h4 l0 35) _ _ H) (fun h5 H => ?_)
  refine wp_aload_n 0 rfl rfl dX11_settle_20 ?_
  refine wp_getr coX11 9 (Nat.le_of_ble_eq_true rfl) fl_X11_35 rfl q1 dX11_settle_21 ?_
  refine wp_iload_n 1 rfl rfl dX11_settle_24 ?_
  refine WP.at 25 rfl ?_
  refine wp_iconst (1 : Int32) (by decide) dX11_settle_25 ?_
  obtain ⟨q6, H⟩ := H
  obtain ⟨q7, H⟩ := H
  refine wp_bastore (Or.inr rfl) q6 q7 dX11_settle_26 ?_
  refine wp_nh (fun h8 e9 => ?_)
  replace H := H h8 e9
  refine wp_iload_n 1 rfl rfl dX11_settle_27 ?_
  refine WP.at 28 rfl ?_
  refine wp_cSi (M2 := M_M_kindOf) [xi l1] rfl ls_X11_218 mo_M_kindOf (Nat.le_of_ble_eq_true rfl) ⟨(Nat.le_of_ble_eq_true rfl), (Nat.le_of_ble_eq_true rfl)⟩ (Nat.le_of_ble_eq_true rfl) (Nat.le_of_ble_eq_true rfl) dX11_settle_28 (t_M_kindOf l1 _ _ H) (fun v11 h10 H => ?_)
  refine wp_iconst (3 : Int32) (by decide) dX11_settle_31 ?_
  refine WP.at 32 rfl ?_
  refine wp_icmp_ne 39 (by decide) dX11_settle_32 (fun c12 => ?_) (fun c12 => ?_)
  · replace H := H.1 c12
    refine wp_iconst (0 : Int32) (by decide) dX11_settle_39 ?_
    refine WP.at 40 rfl ?_
    exact WP.pick [0, 1] rfl (t_M_settle_j40 (0 : Int32) l0 l1 _ _ H)
  · replace H := H.2 c12
    refine wp_iconst (1 : Int32) (by decide) dX11_settle_35 ?_
    refine WP.at 36 rfl ?_
    refine wp_goto 40 (by decide) dX11_settle_36 ?_
    exact WP.pick [0, 1] rfl (t_M_settle_j40 (1 : Int32) l0 l1 _ _ H)
def p_M_official_L54 (l0 : xN) (l1 : Int32) (K54_86 : Int32 → xH → Prop) (Q : Int32 → xH → Prop) : Nat → Int32 → Int32 → xH → Prop
  | 0, _, _, _ => False
  | f + 1, l2, l3, h => (((((4 : Int32) * l1) + (4 : Int32)) ≤ l3 → K54_86 l2 h) ∧ (¬ (((4 : Int32) * l1) + (4 : Int32)) ≤ l3 → (kd l0.1 = (1, 10)) ∧ (kd (hR h l0 6).1 = (3, 0)) ∧ (vp_in l3 (hS h (hR h l0 6) - 1)) ∧ (((hI h (hR h l0 6) l3.toNatClampNeg) = 0 → ∀ v23 : Int32, v23 = l3 + (1 : Int32) → (p_M_official_L54 l0 l1 K54_86 Q f) l2 v23 h) ∧ (¬ (hI h (hR h l0 6) l3.toNatClampNeg) = 0 → p_M_settle l0 l3 h (fun h25 : xH => ∀ v26 : Int32, v26 = l2 + (1 : Int32) → ∀ v28 : Int32, v28 = l3 + (1 : Int32) → (p_M_official_L54 l0 l1 K54_86 Q f) v26 v28 h25)))))
set_option maxRecDepth 100000 in
set_option maxHeartbeats 4000000 in
theorem t_M_official_L54 (l0 : xN) (l1 : Int32) (K54_86 : Int32 → xH → Prop) (Q : Int32 → xH → Prop) (hK54_86 : ∀ (x2 : Int32) (h : xH), K54_86 x2 h → WP M_M_official 86 [(0, xr l0), (1, xi l1), (2, xi x2)] [] h 0 (qi Q)) : ∀ (f : Nat) (l2 : Int32) (l3 : Int32) (h : xH), p_M_official_L54 l0 l1 K54_86 Q f l2 l3 h → WP M_M_official 54 [(0, xr l0), (1, xi l1), (2, xi l2), (3, xi l3)] [] h 0 (qi Q) := by
  intro f
  induction f with
  | zero => exact fun _ _ _ H => H.elim
  | succ f hB54 =>
    intro l2 l3 h H
    unfold p_M_official_L54 at H
    refine wp_iload_n 3 rfl rfl dX11_official_54 ?_
    refine wp_iconst (4 : Int32) (by decide) dX11_official_55 ?_
    refine wp_iload_n 1 rfl rfl dX11_official_56 ?_
    refine wp_imul dX11_official_57 ?_
    refine wp_iconst (4 : Int32) (by decide) dX11_official_58 ?_
    refine wp_iadd dX11_official_59 ?_
    refine WP.at 60 rfl ?_
    refine wp_icmp_ge 86 (by decide) dX11_official_60 (fun c18 => ?_) (fun c18 => ?_)
    · replace H := H.1 c18
      exact WP.pick [0, 1, 2] rfl (hK54_86 l2 _ H)
    · replace H := H.2 c18
      refine wp_aload_n 0 rfl rfl dX11_official_63 ?_
      obtain ⟨q19, H⟩ := H
      refine wp_getr coX11 6 (Nat.le_of_ble_eq_true rfl) fl_X11_26 rfl q19 dX11_official_64 ?_
      refine wp_iload_n 3 rfl rfl dX11_official_67 ?_
      obtain ⟨q20, H⟩ := H
      obtain ⟨q21, H⟩ := H
      refine wp_baload q20 q21 dX11_official_68 ?_
      refine WP.at 69 rfl ?_
      refine wp_if_eq 80 (by decide) dX11_official_69 (fun c22 => ?_) (fun c22 => ?_)
      · replace H := H.1 c22
        refine wp_iincN (1 : Int32) (by decide) rfl (Nat.le_of_ble_eq_true rfl) dX11_official_80 (ls' := fun v23 => [(3, xi v23), (0, xr l0), (1, xi l1), (2, xi l2)]) (fun _ => rfl) (fun v23 e24 => ?_)
        replace H := H v23 e24
        refine WP.at 83 rfl ?_
        refine wp_goto 54 (by decide) dX11_official_83 ?_
        exact WP.pick [1, 2, 3, 0] rfl (hB54 l2 v23 _ H)
      · replace H := H.2 c22
        refine wp_aload_n 0 rfl rfl dX11_official_72 ?_
        refine wp_iload_n 3 rfl rfl dX11_official_73 ?_
        refine WP.at 74 rfl ?_
        refine wp_cVv (M2 := M_M_settle) coX11 l0 q19 [xi l3] rfl lv_X11_275 mo_M_settle (Nat.le_of_ble_eq_true rfl) ⟨(Nat.le_of_ble_eq_true rfl), (Nat.le_of_ble_eq_true rfl)⟩ (Nat.le_of_ble_eq_true rfl) (Nat.le_of_ble_eq_true rfl) dX11_official_74 (t_M_settle l0 l3 _ _ H) (fun h25 H => ?_)
        refine wp_iincN (1 : Int32) (by decide) rfl (Nat.le_of_ble_eq_true rfl) dX11_official_77 (ls' := fun v26 => [(2, xi v26), (0, xr l0), (1, xi l1), (3, xi l3)]) (fun _ => rfl) (fun v26 e27 => ?_)
        replace H := H v26 e27
        refine wp_iincN (1 : Int32) (by decide) rfl (Nat.le_of_ble_eq_true rfl) dX11_official_80 (ls' := fun v28 => [(3, xi v28), (2, xi v26), (0, xr l0), (1, xi l1)]) (fun _ => rfl) (fun v28 e29 => ?_)
        replace H := H v28 e29
        refine WP.at 83 rfl ?_
        refine wp_goto 54 (by decide) dX11_official_83 ?_
        exact WP.pick [2, 3, 1, 0] rfl (hB54 v26 v28 _ H)
def p_M_official_j112 (l0 : xN) (l2 : Int32) (h : xH) (Q : Int32 → xH → Prop) : Prop := (kd l0.1 = (1, 10)) ∧ (kd (hR h l0 1).1 = (2, 0)) ∧ (vp_in (hI h l0 10) (hS h (hR h l0 1) - 1)) ∧ ((¬ (hI h (hR h l0 1) (hI h l0 10).toNatClampNeg) = (2 : Int32) → Q l2 h) ∧ ((hI h (hR h l0 1) (hI h l0 10).toNatClampNeg) = (2 : Int32) → (vp_in (hI h l0 11) (hS h (hR h l0 1) - 1)) ∧ ((¬ (hI h (hR h l0 1) (hI h l0 11).toNatClampNeg) = (2 : Int32) → Q l2 h) ∧ ((hI h (hR h l0 1) (hI h l0 11).toNatClampNeg) = (2 : Int32) → p_M_takePositions l0 (hI h l0 10) (hR h l0 33) h (fun h42 : xH => p_M_takePositions l0 (hI h42 l0 11) (hR h42 l0 34) h42 (fun h43 : xH => p_M_settle l0 (48 : Int32) h43 (fun h44 : xH => ∀ v45 : Int32, v45 = l2 + (1 : Int32) → Q v45 h44)))))))
set_option maxRecDepth 100000 in
set_option maxHeartbeats 4000000 in
theorem t_M_official_j112 (l0 : xN) (l2 : Int32) (h : xH) (Q : Int32 → xH → Prop) (H : p_M_official_j112 l0 l2 h Q) : WP M_M_official 112 [(0, xr l0), (2, xi l2)] [] h 0 (qi Q) := by
  unfold p_M_official_j112 at H
  refine wp_aload_n 0 rfl rfl dX11_official_112 ?_
  obtain ⟨q36, H⟩ := H
  refine wp_getr coX11 1 (Nat.le_of_ble_eq_true rfl) fl_X11_7 rfl q36 dX11_official_113 ?_
  refine wp_aload_n 0 rfl rfl dX11_official_116 ?_
  refine wp_geti coX11 10 (Nat.le_of_ble_eq_true rfl) fl_X11_176 rfl q36 dX11_official_117 ?_
  obtain ⟨q37, H⟩ := H
  obtain ⟨q38, H⟩ := H
  refine wp_iaload q37 q38 dX11_official_120 ?_
  refine wp_iconst (2 : Int32) (by decide) dX11_official_121 ?_
  refine WP.at 122 rfl ?_
  refine wp_icmp_ne 171 (by decide) dX11_official_122 (fun c39 => ?_) (fun c39 => ?_)
  · replace H := H.1 c39
    refine wp_iload_n 2 rfl rfl dX11_official_171 ?_
    exact wp_iret trivial dX11_official_172 H
  · replace H := H.2 c39
    refine wp_aload_n 0 rfl rfl dX11_official_125 ?_
    refine wp_getr coX11 1 (Nat.le_of_ble_eq_true rfl) fl_X11_7 rfl q36 dX11_official_126 ?_
    refine wp_aload_n 0 rfl rfl dX11_official_129 ?_
    refine wp_geti coX11 11 (Nat.le_of_ble_eq_true rfl) fl_X11_191 rfl q36 dX11_official_130 ?_
    obtain ⟨q40, H⟩ := H
    refine wp_iaload q37 q40 dX11_official_133 ?_
    refine wp_iconst (2 : Int32) (by decide) dX11_official_134 ?_
    refine WP.at 135 rfl ?_
    refine wp_icmp_ne 171 (by decide) dX11_official_135 (fun c41 => ?_) (fun c41 => ?_)
    · replace H := H.1 c41
      refine wp_iload_n 2 rfl rfl dX11_official_171 ?_
      exact wp_iret trivial dX11_official_172 H
    · replace H := H.2 c41
      refine wp_aload_n 0 rfl rfl dX11_official_138 ?_
      refine wp_aload_n 0 rfl rfl dX11_official_139 ?_
      refine wp_geti coX11 10 (Nat.le_of_ble_eq_true rfl) fl_X11_176 rfl q36 dX11_official_140 ?_
      refine wp_aload_n 0 rfl rfl dX11_official_143 ?_
      refine wp_getr coX11 33 (Nat.le_of_ble_eq_true rfl) fl_X11_95 rfl q36 dX11_official_144 ?_
      refine WP.at 147 rfl ?_
      refine wp_cVv (M2 := M_M_takePositions) coX11 l0 q36 [xi (hI h l0 10), xr (hR h l0 33)] rfl lv_X11_271 mo_M_takePositions (Nat.le_of_ble_eq_true rfl) ⟨(Nat.le_of_ble_eq_true rfl), (Nat.le_of_ble_eq_true rfl)⟩ (Nat.le_of_ble_eq_true rfl) (Nat.le_of_ble_eq_true rfl) dX11_official_147 (t_M_takePositions l0 (hI h l0 10) (hR h l0 33) _ _ H) (fun h42 H => ?_)
      refine wp_aload_n 0 rfl rfl dX11_official_150 ?_
      refine WP.at 151 rfl ?_
      refine wp_aload_n 0 rfl rfl dX11_official_151 ?_
      refine wp_geti coX11 11 (Nat.le_of_ble_eq_true rfl) fl_X11_191 rfl q36 dX11_official_152 ?_
      refine wp_aload_n 0 rfl rfl dX11_official_155 ?_
      refine wp_getr coX11 34 (Nat.le_of_ble_eq_true rfl) fl_X11_98 rfl q36 dX11_official_156 ?_
      refine WP.at 159 rfl ?_
      refine wp_cVv (M2 := M_M_takePositions) coX11 l0 q36 [xi (hI h42 l0 11), xr (hR h42 l0 34)] rfl lv_X11_271 mo_M_takePositions (Nat.le_of_ble_eq_true rfl) ⟨(Nat.le_of_ble_eq_true rfl), (Nat.le_of_ble_eq_true rfl)⟩ (Nat.le_of_ble_eq_true rfl) (Nat.le_of_ble_eq_true rfl) dX11_official_159 (t_M_takePositions l0 (hI h42 l0 11) (hR h42 l0 34) _ _ H) (fun h43 H => ?_)
      refine wp_aload_n 0 rfl rfl dX11_official_162 ?_
      refine wp_bipush (48 : Int32) (by decide) dX11_official_163 ?_
      refine WP.at 165 rfl ?_
      refine wp_cVv (M2 := M_M_settle) coX11 l0 q36 [xi (48 : Int32)] rfl lv_X11_275 mo_M_settle (Nat.le_of_ble_eq_true rfl) ⟨(Nat.le_of_ble_eq_true rfl), (Nat.le_of_ble_eq_true rfl)⟩ (Nat.le_of_ble_eq_true rfl) (Nat.le_of_ble_eq_true rfl) dX11_official_165 (t_M_settle l0 (48 : Int32) _ _ H) (fun h44 H => ?_)
      refine WP.at 168 rfl ?_
      refine wp_iincN (1 : Int32) (by decide) rfl (Nat.le_of_ble_eq_true rfl) dX11_official_168 (ls' := fun v45 => [(2, xi v45), (0, xr l0)]) (fun _ => rfl) (fun v45 e46 => ?_)
      replace H := H v45 e46
      refine wp_iload_n 2 rfl rfl dX11_official_171 ?_
      exact wp_iret trivial dX11_official_172 H
def p_M_official (l0 : xN) (l1 : Int32) (h : xH) (Q : Int32 → xH → Prop) : Prop := (kd l0.1 = (1, 10)) ∧ p_M_isRace l0 l1 h (fun (v3 : Int32) (h2 : xH) => ((¬ v3 = 0 → (kd (hR h2 l0 1).1 = (2, 0)) ∧ (vp_in l1 (hS h2 (hR h2 l0 1) - 1)) ∧ ((¬ (hI h2 (hR h2 l0 1) l1.toNatClampNeg) = (1 : Int32) → Q (-6 : Int32) h2) ∧ ((hI h2 (hR h2 l0 1) l1.toNatClampNeg) = (1 : Int32) → p_M_areRight l0 l1 h2 (fun (v9 : Int32) (h8 : xH) => ((¬ v9 = 0 → (kd (hR h8 l0 1).1 = (2, 0)) ∧ (vp_in l1 (hS h8 (hR h8 l0 1) - 1)) ∧ ∀ h13 : xH, h13 = sI h8 (hR h8 l0 1) l1.toNatClampNeg (2 : Int32) → p_M_takePositions l0 l1 (hR h13 l0 33) h13 (fun h15 : xH => ∀ v16 : Int32, v16 = (4 : Int32) * l1 → (∃ f48, p_M_official_L54 l0 l1 (fun (x30 : Int32) (h31 : xH) => (kd (hR h31 l0 6).1 = (3, 0)) ∧ (vp_in (48 : Int32) (hS h31 (hR h31 l0 6) - 1)) ∧ (((hI h31 (hR h31 l0 6) (48 : Int32).toNatClampNeg) = 0 → Q x30 h31) ∧ (¬ (hI h31 (hR h31 l0 6) (48 : Int32).toNatClampNeg) = 0 → ((l1 = (hI h31 l0 10) → p_M_official_j112 l0 x30 h31 Q) ∧ (¬ l1 = (hI h31 l0 10) → ((¬ l1 = (hI h31 l0 11) → Q x30 h31) ∧ (l1 = (hI h31 l0 11) → p_M_official_j112 l0 x30 h31 Q))))))) Q f48 (0 : Int32) v16 h15))) ∧ (v9 = 0 → Q (-6 : Int32) h8)))))) ∧ (v3 = 0 → Q (-2 : Int32) h2)))
set_option maxRecDepth 100000 in
set_option maxHeartbeats 4000000 in
theorem t_M_official (l0 : xN) (l1 : Int32) (h : xH) (Q : Int32 → xH → Prop) (H : p_M_official l0 l1 h Q) : WP M_M_official 0 [(0, xr l0), (1, xi l1)] [] h 0 (qi Q) := by
  unfold p_M_official at H
  refine wp_aload_n 0 rfl rfl dX11_official_0 ?_
  refine wp_iload_n 1 rfl rfl dX11_official_1 ?_
  refine WP.at 2 rfl ?_
  obtain ⟨q1, H⟩ := H
  refine wp_cVi (M2 := M_M_isRace) coX11 l0 q1 [xi l1] rfl lv_X11_179 mo_M_isRace (Nat.le_of_ble_eq_true rfl) ⟨(Nat.le_of_ble_eq_true rfl), (Nat.le_of_ble_eq_true rfl)⟩ (Nat.le_of_ble_eq_true rfl) (Nat.le_of_ble_eq_true rfl) dX11_official_2 (t_M_isRace l0 l1 _ _ H) (fun v3 h2 H => ?_)
  refine WP.at 5 rfl ?_
  refine wp_if_ne 11 (by decide) dX11_official_5 (fun c4 => ?_) (fun c4 => ?_)
  · replace H := H.1 c4
    refine wp_aload_n 0 rfl rfl dX11_official_11 ?_
    refine wp_getr coX11 1 (Nat.le_of_ble_eq_true rfl) fl_X11_7 rfl q1 dX11_official_12 ?_
    refine wp_iload_n 1 rfl rfl dX11_official_15 ?_
    obtain ⟨q5, H⟩ := H
    obtain ⟨q6, H⟩ := H
    refine wp_iaload q5 q6 dX11_official_16 ?_
    refine wp_iconst (1 : Int32) (by decide) dX11_official_17 ?_
    refine WP.at 18 rfl ?_
    refine wp_icmp_ne 29 (by decide) dX11_official_18 (fun c7 => ?_) (fun c7 => ?_)
    · replace H := H.1 c7
      refine wp_bipush (-6 : Int32) (by decide) dX11_official_29 ?_
      exact wp_iret trivial dX11_official_31 H
    · replace H := H.2 c7
      refine wp_aload_n 0 rfl rfl dX11_official_21 ?_
      refine wp_iload_n 1 rfl rfl dX11_official_22 ?_
      refine WP.at 23 rfl ?_
      refine wp_cVi (M2 := M_M_areRight) coX11 l0 q1 [xi l1] rfl lv_X11_268 mo_M_areRight (Nat.le_of_ble_eq_true rfl) ⟨(Nat.le_of_ble_eq_true rfl), (Nat.le_of_ble_eq_true rfl)⟩ (Nat.le_of_ble_eq_true rfl) (Nat.le_of_ble_eq_true rfl) dX11_official_23 (t_M_areRight l0 l1 _ _ H) (fun v9 h8 H => ?_)
      refine WP.at 26 rfl ?_
      refine wp_if_ne 32 (by decide) dX11_official_26 (fun c10 => ?_) (fun c10 => ?_)
      · replace H := H.1 c10
        refine wp_aload_n 0 rfl rfl dX11_official_32 ?_
        refine wp_getr coX11 1 (Nat.le_of_ble_eq_true rfl) fl_X11_7 rfl q1 dX11_official_33 ?_
        refine wp_iload_n 1 rfl rfl dX11_official_36 ?_
        refine wp_iconst (2 : Int32) (by decide) dX11_official_37 ?_
        obtain ⟨q11, H⟩ := H
        obtain ⟨q12, H⟩ := H
        refine wp_iastore q11 q12 dX11_official_38 ?_
        refine wp_nh (fun h13 e14 => ?_)
        replace H := H h13 e14
        refine wp_iconst (0 : Int32) (by decide) dX11_official_39 ?_
        refine wp_istore_n 2 rfl (Nat.le_of_ble_eq_true rfl) dX11_official_40 (ls' := [(2, xi (0 : Int32)), (0, xr l0), (1, xi l1)]) rfl ?_
        refine WP.at 41 rfl ?_
        refine wp_aload_n 0 rfl rfl dX11_official_41 ?_
        refine wp_iload_n 1 rfl rfl dX11_official_42 ?_
        refine wp_aload_n 0 rfl rfl dX11_official_43 ?_
        refine wp_getr coX11 33 (Nat.le_of_ble_eq_true rfl) fl_X11_95 rfl q1 dX11_official_44 ?_
        refine WP.at 47 rfl ?_
        refine wp_cVv (M2 := M_M_takePositions) coX11 l0 q1 [xi l1, xr (hR h13 l0 33)] rfl lv_X11_271 mo_M_takePositions (Nat.le_of_ble_eq_true rfl) ⟨(Nat.le_of_ble_eq_true rfl), (Nat.le_of_ble_eq_true rfl)⟩ (Nat.le_of_ble_eq_true rfl) (Nat.le_of_ble_eq_true rfl) dX11_official_47 (t_M_takePositions l0 l1 (hR h13 l0 33) _ _ H) (fun h15 H => ?_)
        refine wp_iconst (4 : Int32) (by decide) dX11_official_50 ?_
        refine wp_iload_n 1 rfl rfl dX11_official_51 ?_
        refine wp_imul dX11_official_52 ?_
        refine WP.at 53 rfl ?_
        refine wp_nm (fun v16 e17 => ?_)
        replace H := H v16 e17
        refine wp_istore_n 3 rfl (Nat.le_of_ble_eq_true rfl) dX11_official_53 (ls' := [(3, xi v16), (2, xi (0 : Int32)), (0, xr l0), (1, xi l1)]) rfl ?_
        refine WP.at 54 rfl ?_
        obtain ⟨f48, H⟩ := H
        refine WP.pick [2, 3, 1, 0] rfl (t_M_official_L54 l0 l1 _ Q ?_ f48 (0 : Int32) v16 _ H)
        · intro x30 h31 H
          refine wp_aload_n 0 rfl rfl dX11_official_86 ?_
          refine wp_getr coX11 6 (Nat.le_of_ble_eq_true rfl) fl_X11_26 rfl q1 dX11_official_87 ?_
          refine wp_bipush (48 : Int32) (by decide) dX11_official_90 ?_
          obtain ⟨q32, H⟩ := H
          obtain ⟨q33, H⟩ := H
          refine wp_baload q32 q33 dX11_official_92 ?_
          refine WP.at 93 rfl ?_
          refine wp_if_eq 171 (by decide) dX11_official_93 (fun c34 => ?_) (fun c34 => ?_)
          · replace H := H.1 c34
            refine wp_iload_n 2 rfl rfl dX11_official_171 ?_
            exact wp_iret trivial dX11_official_172 H
          · replace H := H.2 c34
            refine wp_iload_n 1 rfl rfl dX11_official_96 ?_
            refine wp_aload_n 0 rfl rfl dX11_official_97 ?_
            refine wp_geti coX11 10 (Nat.le_of_ble_eq_true rfl) fl_X11_176 rfl q1 dX11_official_98 ?_
            refine WP.at 101 rfl ?_
            refine wp_icmp_eq 112 (by decide) dX11_official_101 (fun c35 => ?_) (fun c35 => ?_)
            · replace H := H.1 c35
              exact WP.pick [0, 2] rfl (t_M_official_j112 l0 x30 _ _ H)
            · replace H := H.2 c35
              refine wp_iload_n 1 rfl rfl dX11_official_104 ?_
              refine wp_aload_n 0 rfl rfl dX11_official_105 ?_
              refine wp_geti coX11 11 (Nat.le_of_ble_eq_true rfl) fl_X11_191 rfl q1 dX11_official_106 ?_
              refine WP.at 109 rfl ?_
              refine wp_icmp_ne 171 (by decide) dX11_official_109 (fun c47 => ?_) (fun c47 => ?_)
              · replace H := H.1 c47
                refine wp_iload_n 2 rfl rfl dX11_official_171 ?_
                exact wp_iret trivial dX11_official_172 H
              · replace H := H.2 c47
                exact WP.pick [0, 2] rfl (t_M_official_j112 l0 x30 _ _ H)
      · replace H := H.2 c10
        refine wp_bipush (-6 : Int32) (by decide) dX11_official_29 ?_
        exact wp_iret trivial dX11_official_31 H
  · replace H := H.2 c4
    refine wp_bipush (-2 : Int32) (by decide) dX11_official_8 ?_
    exact wp_iret trivial dX11_official_10 H
def p_T_carriedInto (l0 : xN) (l1 : Int32) (h : xH) (Q : Int32 → xH → Prop) : Prop := (kd l0.1 = (1, 9)) ∧ p_T_poolNumber l1 (3 : Int32) h (fun (v3 : Int32) (h2 : xH) => (kd (hR h l0 1).1 = (5, 3)) ∧ (vp_in v3 (hS h2 (hR h l0 1) - 1)) ∧ ∀ v6 : xN, v6 = hR h2 (hR h l0 1) v3.toNatClampNeg → ((¬ v6.1 = 0 → (kd v6.1 = (1, 3)) ∧ (kd (hR h2 v6 8).1 = (2, 0)) ∧ (vp_in (4 : Int32) (hS h2 (hR h2 v6 8) - 1)) ∧ Q (hI h2 (hR h2 v6 8) (4 : Int32).toNatClampNeg) h2) ∧ (v6.1 = 0 → Q (0 : Int32) h2)))
set_option maxRecDepth 100000 in
set_option maxHeartbeats 4000000 in
theorem t_T_carriedInto (l0 : xN) (l1 : Int32) (h : xH) (Q : Int32 → xH → Prop) (H : p_T_carriedInto l0 l1 h Q) : WP M_T_carriedInto 0 [(0, xr l0), (1, xi l1)] [] h 0 (qi Q) := by
  unfold p_T_carriedInto at H
  refine wp_aload_n 0 rfl rfl dX10_carriedInto_0 ?_
  obtain ⟨q1, H⟩ := H
  refine wp_getr coX10 1 (Nat.le_of_ble_eq_true rfl) fl_X10_17 rfl q1 dX10_carriedInto_1 ?_
  refine wp_iload_n 1 rfl rfl dX10_carriedInto_4 ?_
  refine wp_iconst (3 : Int32) (by decide) dX10_carriedInto_5 ?_
  refine WP.at 6 rfl ?_
  refine wp_cSi (M2 := M_T_poolNumber) [xi l1, xi (3 : Int32)] rfl ls_X10_84 mo_T_poolNumber (Nat.le_of_ble_eq_true rfl) ⟨(Nat.le_of_ble_eq_true rfl), (Nat.le_of_ble_eq_true rfl)⟩ (Nat.le_of_ble_eq_true rfl) (Nat.le_of_ble_eq_true rfl) dX10_carriedInto_6 (t_T_poolNumber l1 (3 : Int32) _ _ H) (fun v3 h2 H => ?_)
  obtain ⟨q4, H⟩ := H
  obtain ⟨q5, H⟩ := H
  refine wp_aaload q4 q5 dX10_carriedInto_9 ?_
  refine wp_nmr (fun v6 e7 => ?_)
  replace H := H v6 e7
  refine wp_astore_n 2 rfl (Nat.le_of_ble_eq_true rfl) dX10_carriedInto_10 (ls' := [(2, xr v6), (0, xr l0), (1, xi l1)]) rfl ?_
  refine WP.at 11 rfl ?_
  refine wp_aload_n 2 rfl rfl dX10_carriedInto_11 ?_
  refine WP.at 12 rfl ?_
  refine wp_ifnonnull 19 (by decide) dX10_carriedInto_12 (fun c8 => ?_) (fun c8 => ?_)
  · replace H := H.1 c8
    refine wp_aload_n 2 rfl rfl dX10_carriedInto_19 ?_
    obtain ⟨q9, H⟩ := H
    refine wp_getr coX4 8 (Nat.le_of_ble_eq_true rfl) fl_X10_259 rfl q9 dX10_carriedInto_20 ?_
    refine wp_iconst (4 : Int32) (by decide) dX10_carriedInto_23 ?_
    obtain ⟨q10, H⟩ := H
    obtain ⟨q11, H⟩ := H
    refine wp_iaload q10 q11 dX10_carriedInto_24 ?_
    exact wp_iret trivial dX10_carriedInto_25 H
  · replace H := H.2 c8
    refine wp_iconst (0 : Int32) (by decide) dX10_carriedInto_15 ?_
    refine WP.at 16 rfl ?_
    refine wp_goto 25 (by decide) dX10_carriedInto_16 ?_
    exact wp_iret trivial dX10_carriedInto_25 H
def p_R_standing (l0 : xN) (l1 : Int32) (h : xH) (Q : Int32 → xH → Prop) : Prop := (kd l0.1 = (1, 4)) ∧ (kd (hR h l0 1).1 = (3, 0)) ∧ (vp_in l1 (hS h (hR h l0 1) - 1)) ∧ (((hI h (hR h l0 1) l1.toNatClampNeg) = 0 → (kd (hR h l0 2).1 = (2, 0)) ∧ (vp_in l1 (hS h (hR h l0 2) - 1)) ∧ Q (hI h (hR h l0 2) l1.toNatClampNeg) h) ∧ (¬ (hI h (hR h l0 1) l1.toNatClampNeg) = 0 → Q (-1 : Int32) h))
set_option maxRecDepth 100000 in
set_option maxHeartbeats 4000000 in
theorem t_R_standing (l0 : xN) (l1 : Int32) (h : xH) (Q : Int32 → xH → Prop) (H : p_R_standing l0 l1 h Q) : WP M_R_standing 0 [(0, xr l0), (1, xi l1)] [] h 0 (qi Q) := by
  unfold p_R_standing at H
  refine wp_aload_n 0 rfl rfl dX5_standing_0 ?_
  obtain ⟨q1, H⟩ := H
  refine wp_getr coX5 1 (Nat.le_of_ble_eq_true rfl) fl_X5_9 rfl q1 dX5_standing_1 ?_
  refine wp_iload_n 1 rfl rfl dX5_standing_4 ?_
  obtain ⟨q2, H⟩ := H
  obtain ⟨q3, H⟩ := H
  refine wp_baload q2 q3 dX5_standing_5 ?_
  refine WP.at 6 rfl ?_
  refine wp_if_eq 13 (by decide) dX5_standing_6 (fun c4 => ?_) (fun c4 => ?_)
  · replace H := H.1 c4
    refine wp_aload_n 0 rfl rfl dX5_standing_13 ?_
    refine wp_getr coX5 2 (Nat.le_of_ble_eq_true rfl) fl_X5_15 rfl q1 dX5_standing_14 ?_
    refine wp_iload_n 1 rfl rfl dX5_standing_17 ?_
    obtain ⟨q5, H⟩ := H
    obtain ⟨q6, H⟩ := H
    refine wp_iaload q5 q6 dX5_standing_18 ?_
    exact wp_iret trivial dX5_standing_19 H
  · replace H := H.2 c4
    refine wp_iconst (-1 : Int32) (by decide) dX5_standing_9 ?_
    refine WP.at 10 rfl ?_
    refine wp_goto 19 (by decide) dX5_standing_10 ?_
    exact wp_iret trivial dX5_standing_19 H
def p_T_raceAt (l0 : xN) (l1 : Int32) (l2 : Int32) (h : xH) (Q : Int32 → xH → Prop) : Prop := (kd l0.1 = (1, 9)) ∧ p_T_findRace l0 l1 h (fun (v3 : xN) (h2 : xH) => ((¬ v3.1 = 0 → ((l2 = (0 : Int32) → (kd v3.1 = (1, 4)) ∧ Q (hI h2 v3 7) h2) ∧ (l2 = (1 : Int32) → (kd v3.1 = (1, 4)) ∧ Q (hI h2 v3 0) h2) ∧ (l2 = (2 : Int32) → (kd v3.1 = (1, 4)) ∧ Q (hI h2 v3 6) h2) ∧ (l2 = (3 : Int32) → (kd v3.1 = (1, 4)) ∧ Q (hI h2 v3 8) h2) ∧ (l2 = (4 : Int32) → p_T_carriedInto l0 l1 h2 (fun (v10 : Int32) (h9 : xH) => Q v10 h9)) ∧ ((∀ q ∈ ([(0 : Int32), (1 : Int32), (2 : Int32), (3 : Int32), (4 : Int32)] : List Int32), l2 ≠ q) → (kd v3.1 = (1, 4)) ∧ p_R_hasRunner v3 (l2 - (10 : Int32)) h2 (fun (v13 : Int32) (h12 : xH) => ((v13 = 0 → Q (-3 : Int32) h12) ∧ (¬ v13 = 0 → p_R_standing v3 (l2 - (10 : Int32)) h12 (fun (v16 : Int32) (h15 : xH) => Q v16 h15))))))) ∧ (v3.1 = 0 → Q (-2 : Int32) h2)))
set_option maxRecDepth 100000 in
set_option maxHeartbeats 4000000 in
theorem t_T_raceAt (l0 : xN) (l1 : Int32) (l2 : Int32) (h : xH) (Q : Int32 → xH → Prop) (H : p_T_raceAt l0 l1 l2 h Q) : WP M_T_raceAt 0 [(0, xr l0), (1, xi l1), (2, xi l2)] [] h 0 (qi Q) := by
  unfold p_T_raceAt at H
  refine wp_aload_n 0 rfl rfl dX10_raceAt_0 ?_
  refine wp_iload_n 1 rfl rfl dX10_raceAt_1 ?_
  refine WP.at 2 rfl ?_
  obtain ⟨q1, H⟩ := H
  refine wp_cVr (M2 := M_T_findRace) coX10 l0 q1 [xi l1] rfl lv_X10_76 mo_T_findRace (Nat.le_of_ble_eq_true rfl) ⟨(Nat.le_of_ble_eq_true rfl), (Nat.le_of_ble_eq_true rfl)⟩ (Nat.le_of_ble_eq_true rfl) (Nat.le_of_ble_eq_true rfl) dX10_raceAt_2 (t_T_findRace l0 l1 _ _ H) (fun v3 h2 H => ?_)
  refine wp_astore_n 3 rfl (Nat.le_of_ble_eq_true rfl) dX10_raceAt_5 (ls' := [(3, xr v3), (0, xr l0), (1, xi l1), (2, xi l2)]) rfl ?_
  refine wp_aload_n 3 rfl rfl dX10_raceAt_6 ?_
  refine WP.at 7 rfl ?_
  refine wp_ifnonnull 13 (by decide) dX10_raceAt_7 (fun c4 => ?_) (fun c4 => ?_)
  · replace H := H.1 c4
    refine wp_iload_n 2 rfl rfl dX10_raceAt_13 ?_
    refine WP.at 14 rfl ?_
    refine wp_tsw dX10_raceAt_14 [((0 : Int32), 48), ((1 : Int32), 53), ((2 : Int32), 58), ((3 : Int32), 63), ((4 : Int32), 68)] 74 (by decide) (by decide +kernel) (by decide +kernel) ?_ ?_
    · refine List.forall_mem_cons.mpr ⟨fun c0 => ?_, List.forall_mem_cons.mpr ⟨fun c0 => ?_, List.forall_mem_cons.mpr ⟨fun c0 => ?_, List.forall_mem_cons.mpr ⟨fun c0 => ?_, List.forall_mem_cons.mpr ⟨fun c0 => ?_, fun _ z => absurd z List.not_mem_nil⟩⟩⟩⟩⟩
      · replace H := H.1 c0
        refine wp_aload_n 3 rfl rfl dX10_raceAt_48 ?_
        obtain ⟨q5, H⟩ := H
        refine wp_geti coX5 7 (Nat.le_of_ble_eq_true rfl) fl_X10_88 rfl q5 dX10_raceAt_49 ?_
        exact wp_iret trivial dX10_raceAt_52 H
      · replace H := H.2.1 c0
        refine wp_aload_n 3 rfl rfl dX10_raceAt_53 ?_
        obtain ⟨q6, H⟩ := H
        refine wp_geti coX5 0 (Nat.le_of_ble_eq_true rfl) fl_X10_144 rfl q6 dX10_raceAt_54 ?_
        exact wp_iret trivial dX10_raceAt_57 H
      · replace H := H.2.2.1 c0
        refine wp_aload_n 3 rfl rfl dX10_raceAt_58 ?_
        obtain ⟨q7, H⟩ := H
        refine wp_geti coX5 6 (Nat.le_of_ble_eq_true rfl) fl_X10_116 rfl q7 dX10_raceAt_59 ?_
        exact wp_iret trivial dX10_raceAt_62 H
      · replace H := H.2.2.2.1 c0
        refine wp_aload_n 3 rfl rfl dX10_raceAt_63 ?_
        obtain ⟨q8, H⟩ := H
        refine wp_geti coX5 8 (Nat.le_of_ble_eq_true rfl) fl_X10_98 rfl q8 dX10_raceAt_64 ?_
        exact wp_iret trivial dX10_raceAt_67 H
      · replace H := H.2.2.2.2.1 c0
        refine wp_aload_n 0 rfl rfl dX10_raceAt_68 ?_
        refine wp_iload_n 1 rfl rfl dX10_raceAt_69 ?_
        refine WP.at 70 rfl ?_
        refine wp_cVi (M2 := M_T_carriedInto) coX10 l0 q1 [xi l1] rfl lv_X10_147 mo_T_carriedInto (Nat.le_of_ble_eq_true rfl) ⟨(Nat.le_of_ble_eq_true rfl), (Nat.le_of_ble_eq_true rfl)⟩ (Nat.le_of_ble_eq_true rfl) (Nat.le_of_ble_eq_true rfl) dX10_raceAt_70 (t_T_carriedInto l0 l1 _ _ H) (fun v10 h9 H => ?_)
        exact wp_iret trivial dX10_raceAt_73 H
    · intro c0
      replace H := H.2.2.2.2.2 c0
      refine wp_aload_n 3 rfl rfl dX10_raceAt_74 ?_
      refine wp_iload_n 2 rfl rfl dX10_raceAt_75 ?_
      refine wp_bipush (10 : Int32) (by decide) dX10_raceAt_76 ?_
      refine wp_isub dX10_raceAt_78 ?_
      refine WP.at 79 rfl ?_
      obtain ⟨q11, H⟩ := H
      refine wp_cVi (M2 := M_R_hasRunner) coX5 v3 q11 [xi (l2 - (10 : Int32))] rfl lv_X10_151 mo_R_hasRunner (Nat.le_of_ble_eq_true rfl) ⟨(Nat.le_of_ble_eq_true rfl), (Nat.le_of_ble_eq_true rfl)⟩ (Nat.le_of_ble_eq_true rfl) (Nat.le_of_ble_eq_true rfl) dX10_raceAt_79 (t_R_hasRunner v3 (l2 - (10 : Int32)) _ _ H) (fun v13 h12 H => ?_)
      refine WP.at 82 rfl ?_
      refine wp_if_eq 96 (by decide) dX10_raceAt_82 (fun c14 => ?_) (fun c14 => ?_)
      · replace H := H.1 c14
        refine wp_bipush (-3 : Int32) (by decide) dX10_raceAt_96 ?_
        exact wp_iret trivial dX10_raceAt_98 H
      · replace H := H.2 c14
        refine wp_aload_n 3 rfl rfl dX10_raceAt_85 ?_
        refine wp_iload_n 2 rfl rfl dX10_raceAt_86 ?_
        refine wp_bipush (10 : Int32) (by decide) dX10_raceAt_87 ?_
        refine wp_isub dX10_raceAt_89 ?_
        refine WP.at 90 rfl ?_
        refine wp_cVi (M2 := M_R_standing) coX5 v3 q11 [xi (l2 - (10 : Int32))] rfl lv_X10_155 mo_R_standing (Nat.le_of_ble_eq_true rfl) ⟨(Nat.le_of_ble_eq_true rfl), (Nat.le_of_ble_eq_true rfl)⟩ (Nat.le_of_ble_eq_true rfl) (Nat.le_of_ble_eq_true rfl) dX10_raceAt_90 (t_R_standing v3 (l2 - (10 : Int32)) _ _ H) (fun v16 h15 H => ?_)
        refine WP.at 93 rfl ?_
        refine wp_goto 98 (by decide) dX10_raceAt_93 ?_
        exact wp_iret trivial dX10_raceAt_98 H
  · replace H := H.2 c4
    refine wp_bipush (-2 : Int32) (by decide) dX10_raceAt_10 ?_
    exact wp_iret trivial dX10_raceAt_12 H
def p_M_raceAt (l0 : xN) (l1 : Int32) (l2 : Int32) (h : xH) (Q : Int32 → xH → Prop) : Prop := (kd l0.1 = (1, 10)) ∧ p_M_isRace l0 l1 h (fun (v3 : Int32) (h2 : xH) => ((¬ v3 = 0 → ((l2 = (0 : Int32) → (kd (hR h2 l0 1).1 = (2, 0)) ∧ (vp_in l1 (hS h2 (hR h2 l0 1) - 1)) ∧ Q (hI h2 (hR h2 l0 1) l1.toNatClampNeg) h2) ∧ (l2 = (1 : Int32) → (kd (hR h2 l0 2).1 = (2, 0)) ∧ (vp_in l1 (hS h2 (hR h2 l0 2) - 1)) ∧ Q (hI h2 (hR h2 l0 2) l1.toNatClampNeg) h2) ∧ (l2 = (2 : Int32) → p_M_running l0 l1 h2 (fun (v10 : Int32) (h9 : xH) => Q v10 h9)) ∧ (l2 = (3 : Int32) → (kd (hR h2 l0 3).1 = (2, 0)) ∧ (vp_in l1 (hS h2 (hR h2 l0 3) - 1)) ∧ Q (hI h2 (hR h2 l0 3) l1.toNatClampNeg) h2) ∧ (l2 = (4 : Int32) → (kd (hR h2 l0 16).1 = (2, 0)) ∧ (vp_in (((4 : Int32) * l1) + (3 : Int32)) (hS h2 (hR h2 l0 16) - 1)) ∧ Q (hI h2 (hR h2 l0 16) (((4 : Int32) * l1) + (3 : Int32)).toNatClampNeg) h2) ∧ ((∀ q ∈ ([(0 : Int32), (1 : Int32), (2 : Int32), (3 : Int32), (4 : Int32)] : List Int32), l2 ≠ q) → (kd (hR h2 l0 2).1 = (2, 0)) ∧ (vp_in l1 (hS h2 (hR h2 l0 2) - 1)) ∧ p_M_in l2 (11 : Int32) ((10 : Int32) + (hI h2 (hR h2 l0 2) l1.toNatClampNeg)) h2 (fun (v18 : Int32) (h17 : xH) => ((¬ v18 = 0 → ∀ v20 : Int32, v20 = (((13 : Int32) * l1) + l2) - (10 : Int32) → (kd (hR h17 l0 4).1 = (3, 0)) ∧ (vp_in v20 (hS h17 (hR h17 l0 4) - 1)) ∧ (((hI h17 (hR h17 l0 4) v20.toNatClampNeg) = 0 → (kd (hR h17 l0 5).1 = (2, 0)) ∧ (vp_in v20 (hS h17 (hR h17 l0 5) - 1)) ∧ Q (hI h17 (hR h17 l0 5) v20.toNatClampNeg) h17) ∧ (¬ (hI h17 (hR h17 l0 4) v20.toNatClampNeg) = 0 → Q (-1 : Int32) h17))) ∧ (v18 = 0 → Q (-3 : Int32) h17)))))) ∧ (v3 = 0 → Q (-2 : Int32) h2)))
set_option maxRecDepth 100000 in
set_option maxHeartbeats 4000000 in
theorem t_M_raceAt (l0 : xN) (l1 : Int32) (l2 : Int32) (h : xH) (Q : Int32 → xH → Prop) (H : p_M_raceAt l0 l1 l2 h Q) : WP M_M_raceAt 0 [(0, xr l0), (1, xi l1), (2, xi l2)] [] h 0 (qi Q) := by
  unfold p_M_raceAt at H
  refine wp_aload_n 0 rfl rfl dX11_raceAt_0 ?_
  refine wp_iload_n 1 rfl rfl dX11_raceAt_1 ?_
  refine WP.at 2 rfl ?_
  obtain ⟨q1, H⟩ := H
  refine wp_cVi (M2 := M_M_isRace) coX11 l0 q1 [xi l1] rfl lv_X11_179 mo_M_isRace (Nat.le_of_ble_eq_true rfl) ⟨(Nat.le_of_ble_eq_true rfl), (Nat.le_of_ble_eq_true rfl)⟩ (Nat.le_of_ble_eq_true rfl) (Nat.le_of_ble_eq_true rfl) dX11_raceAt_2 (t_M_isRace l0 l1 _ _ H) (fun v3 h2 H => ?_)
  refine WP.at 5 rfl ?_
  refine wp_if_ne 11 (by decide) dX11_raceAt_5 (fun c4 => ?_) (fun c4 => ?_)
  · replace H := H.1 c4
    refine wp_iload_n 2 rfl rfl dX11_raceAt_11 ?_
    refine WP.at 12 rfl ?_
    refine wp_tsw dX11_raceAt_12 [((0 : Int32), 48), ((1 : Int32), 55), ((2 : Int32), 62), ((3 : Int32), 68), ((4 : Int32), 75)] 86 (by decide) (by decide +kernel) (by decide +kernel) ?_ ?_
    · refine List.forall_mem_cons.mpr ⟨fun c0 => ?_, List.forall_mem_cons.mpr ⟨fun c0 => ?_, List.forall_mem_cons.mpr ⟨fun c0 => ?_, List.forall_mem_cons.mpr ⟨fun c0 => ?_, List.forall_mem_cons.mpr ⟨fun c0 => ?_, fun _ z => absurd z List.not_mem_nil⟩⟩⟩⟩⟩
      · replace H := H.1 c0
        refine wp_aload_n 0 rfl rfl dX11_raceAt_48 ?_
        refine wp_getr coX11 1 (Nat.le_of_ble_eq_true rfl) fl_X11_7 rfl q1 dX11_raceAt_49 ?_
        refine wp_iload_n 1 rfl rfl dX11_raceAt_52 ?_
        obtain ⟨q5, H⟩ := H
        obtain ⟨q6, H⟩ := H
        refine wp_iaload q5 q6 dX11_raceAt_53 ?_
        exact wp_iret trivial dX11_raceAt_54 H
      · replace H := H.2.1 c0
        refine wp_aload_n 0 rfl rfl dX11_raceAt_55 ?_
        refine wp_getr coX11 2 (Nat.le_of_ble_eq_true rfl) fl_X11_13 rfl q1 dX11_raceAt_56 ?_
        refine wp_iload_n 1 rfl rfl dX11_raceAt_59 ?_
        obtain ⟨q7, H⟩ := H
        obtain ⟨q8, H⟩ := H
        refine wp_iaload q7 q8 dX11_raceAt_60 ?_
        exact wp_iret trivial dX11_raceAt_61 H
      · replace H := H.2.2.1 c0
        refine wp_aload_n 0 rfl rfl dX11_raceAt_62 ?_
        refine wp_iload_n 1 rfl rfl dX11_raceAt_63 ?_
        refine WP.at 64 rfl ?_
        refine wp_cVi (M2 := M_M_running) coX11 l0 q1 [xi l1] rfl lv_X11_212 mo_M_running (Nat.le_of_ble_eq_true rfl) ⟨(Nat.le_of_ble_eq_true rfl), (Nat.le_of_ble_eq_true rfl)⟩ (Nat.le_of_ble_eq_true rfl) (Nat.le_of_ble_eq_true rfl) dX11_raceAt_64 (t_M_running l0 l1 _ _ H) (fun v10 h9 H => ?_)
        exact wp_iret trivial dX11_raceAt_67 H
      · replace H := H.2.2.2.1 c0
        refine wp_aload_n 0 rfl rfl dX11_raceAt_68 ?_
        refine wp_getr coX11 3 (Nat.le_of_ble_eq_true rfl) fl_X11_16 rfl q1 dX11_raceAt_69 ?_
        refine wp_iload_n 1 rfl rfl dX11_raceAt_72 ?_
        obtain ⟨q11, H⟩ := H
        obtain ⟨q12, H⟩ := H
        refine wp_iaload q11 q12 dX11_raceAt_73 ?_
        exact wp_iret trivial dX11_raceAt_74 H
      · replace H := H.2.2.2.2.1 c0
        refine wp_aload_n 0 rfl rfl dX11_raceAt_75 ?_
        refine wp_getr coX11 16 (Nat.le_of_ble_eq_true rfl) fl_X11_50 rfl q1 dX11_raceAt_76 ?_
        refine wp_iconst (4 : Int32) (by decide) dX11_raceAt_79 ?_
        refine wp_iload_n 1 rfl rfl dX11_raceAt_80 ?_
        refine wp_imul dX11_raceAt_81 ?_
        refine wp_iconst (3 : Int32) (by decide) dX11_raceAt_82 ?_
        refine wp_iadd dX11_raceAt_83 ?_
        refine WP.at 84 rfl ?_
        obtain ⟨q13, H⟩ := H
        obtain ⟨q14, H⟩ := H
        refine wp_iaload q13 q14 dX11_raceAt_84 ?_
        exact wp_iret trivial dX11_raceAt_85 H
    · intro c0
      replace H := H.2.2.2.2.2 c0
      refine wp_iload_n 2 rfl rfl dX11_raceAt_86 ?_
      refine wp_bipush (11 : Int32) (by decide) dX11_raceAt_87 ?_
      refine wp_bipush (10 : Int32) (by decide) dX11_raceAt_89 ?_
      refine wp_aload_n 0 rfl rfl dX11_raceAt_91 ?_
      refine wp_getr coX11 2 (Nat.le_of_ble_eq_true rfl) fl_X11_13 rfl q1 dX11_raceAt_92 ?_
      refine wp_iload_n 1 rfl rfl dX11_raceAt_95 ?_
      obtain ⟨q15, H⟩ := H
      obtain ⟨q16, H⟩ := H
      refine wp_iaload q15 q16 dX11_raceAt_96 ?_
      refine WP.at 97 rfl ?_
      refine wp_iadd dX11_raceAt_97 ?_
      refine WP.at 98 rfl ?_
      refine wp_cSi (M2 := M_M_in) [xi l2, xi (11 : Int32), xi ((10 : Int32) + (hI h2 (hR h2 l0 2) l1.toNatClampNeg))] rfl ls_X11_172 mo_M_in (Nat.le_of_ble_eq_true rfl) ⟨(Nat.le_of_ble_eq_true rfl), (Nat.le_of_ble_eq_true rfl)⟩ (Nat.le_of_ble_eq_true rfl) (Nat.le_of_ble_eq_true rfl) dX11_raceAt_98 (t_M_in l2 (11 : Int32) ((10 : Int32) + (hI h2 (hR h2 l0 2) l1.toNatClampNeg)) _ _ H) (fun v18 h17 H => ?_)
      refine WP.at 101 rfl ?_
      refine wp_if_ne 107 (by decide) dX11_raceAt_101 (fun c19 => ?_) (fun c19 => ?_)
      · replace H := H.1 c19
        refine wp_bipush (13 : Int32) (by decide) dX11_raceAt_107 ?_
        refine wp_iload_n 1 rfl rfl dX11_raceAt_109 ?_
        refine wp_imul dX11_raceAt_110 ?_
        refine wp_iload_n 2 rfl rfl dX11_raceAt_111 ?_
        refine wp_iadd dX11_raceAt_112 ?_
        refine wp_bipush (10 : Int32) (by decide) dX11_raceAt_113 ?_
        refine wp_isub dX11_raceAt_115 ?_
        refine WP.at 116 rfl ?_
        refine wp_nm (fun v20 e21 => ?_)
        replace H := H v20 e21
        refine wp_istore_n 3 rfl (Nat.le_of_ble_eq_true rfl) dX11_raceAt_116 (ls' := [(3, xi v20), (0, xr l0), (1, xi l1), (2, xi l2)]) rfl ?_
        refine wp_aload_n 0 rfl rfl dX11_raceAt_117 ?_
        refine wp_getr coX11 4 (Nat.le_of_ble_eq_true rfl) fl_X11_19 rfl q1 dX11_raceAt_118 ?_
        refine wp_iload_n 3 rfl rfl dX11_raceAt_121 ?_
        obtain ⟨q22, H⟩ := H
        obtain ⟨q23, H⟩ := H
        refine wp_baload q22 q23 dX11_raceAt_122 ?_
        refine WP.at 123 rfl ?_
        refine wp_if_eq 130 (by decide) dX11_raceAt_123 (fun c24 => ?_) (fun c24 => ?_)
        · replace H := H.1 c24
          refine wp_aload_n 0 rfl rfl dX11_raceAt_130 ?_
          refine wp_getr coX11 5 (Nat.le_of_ble_eq_true rfl) fl_X11_23 rfl q1 dX11_raceAt_131 ?_
          refine wp_iload_n 3 rfl rfl dX11_raceAt_134 ?_
          obtain ⟨q25, H⟩ := H
          obtain ⟨q26, H⟩ := H
          refine wp_iaload q25 q26 dX11_raceAt_135 ?_
          exact wp_iret trivial dX11_raceAt_136 H
        · replace H := H.2 c24
          refine wp_iconst (-1 : Int32) (by decide) dX11_raceAt_126 ?_
          refine WP.at 127 rfl ?_
          refine wp_goto 136 (by decide) dX11_raceAt_127 ?_
          exact wp_iret trivial dX11_raceAt_136 H
      · replace H := H.2 c19
        refine wp_bipush (-3 : Int32) (by decide) dX11_raceAt_104 ?_
        exact wp_iret trivial dX11_raceAt_106 H
  · replace H := H.2 c4
    refine wp_bipush (-2 : Int32) (by decide) dX11_raceAt_8 ?_
    exact wp_iret trivial dX11_raceAt_10 H
def p_T_findPool (l0 : xN) (l1 : Int32) (h : xH) (Q : xN → xH → Prop) : Prop := ((l1 < 0 → Q ((0, 0) : xN) h) ∧ (¬ l1 < 0 → ((l1 ≤ (48 : Int32) → (kd l0.1 = (1, 9)) ∧ (kd (hR h l0 1).1 = (5, 3)) ∧ (vp_in l1 (hS h (hR h l0 1) - 1)) ∧ Q (hR h (hR h l0 1) l1.toNatClampNeg) h) ∧ (¬ l1 ≤ (48 : Int32) → Q ((0, 0) : xN) h))))
set_option maxRecDepth 100000 in
set_option maxHeartbeats 4000000 in
theorem t_T_findPool (l0 : xN) (l1 : Int32) (h : xH) (Q : xN → xH → Prop) (H : p_T_findPool l0 l1 h Q) : WP M_T_findPool 0 [(0, xr l0), (1, xi l1)] [] h 0 (qr Q) := by
  unfold p_T_findPool at H
  refine wp_iload_n 1 rfl rfl dX10_findPool_0 ?_
  refine WP.at 1 rfl ?_
  refine wp_if_lt 10 (by decide) dX10_findPool_1 (fun c1 => ?_) (fun c1 => ?_)
  · replace H := H.1 c1
    refine wp_null dX10_findPool_10 ?_
    refine WP.at 11 rfl ?_
    refine wp_goto 20 (by decide) dX10_findPool_11 ?_
    exact wp_aret trivial dX10_findPool_20 H
  · replace H := H.2 c1
    refine wp_iload_n 1 rfl rfl dX10_findPool_4 ?_
    refine wp_bipush (48 : Int32) (by decide) dX10_findPool_5 ?_
    refine WP.at 7 rfl ?_
    refine wp_icmp_le 14 (by decide) dX10_findPool_7 (fun c2 => ?_) (fun c2 => ?_)
    · replace H := H.1 c2
      refine wp_aload_n 0 rfl rfl dX10_findPool_14 ?_
      obtain ⟨q3, H⟩ := H
      refine wp_getr coX10 1 (Nat.le_of_ble_eq_true rfl) fl_X10_17 rfl q3 dX10_findPool_15 ?_
      refine wp_iload_n 1 rfl rfl dX10_findPool_18 ?_
      obtain ⟨q4, H⟩ := H
      obtain ⟨q5, H⟩ := H
      refine wp_aaload q4 q5 dX10_findPool_19 ?_
      exact wp_aret trivial dX10_findPool_20 H
    · replace H := H.2 c2
      refine wp_null dX10_findPool_10 ?_
      refine WP.at 11 rfl ?_
      refine wp_goto 20 (by decide) dX10_findPool_11 ?_
      exact wp_aret trivial dX10_findPool_20 H
def p_T_isWindow (l0 : Int32) (h : xH) (Q : Int32 → xH → Prop) : Prop := ((l0 < 0 → Q (0 : Int32) h) ∧ (¬ l0 < 0 → (((6 : Int32) ≤ l0 → Q (0 : Int32) h) ∧ (¬ (6 : Int32) ≤ l0 → Q (1 : Int32) h))))
set_option maxRecDepth 100000 in
set_option maxHeartbeats 4000000 in
theorem t_T_isWindow (l0 : Int32) (h : xH) (Q : Int32 → xH → Prop) (H : p_T_isWindow l0 h Q) : WP M_T_isWindow 0 [(0, xi l0)] [] h 0 (qi Q) := by
  unfold p_T_isWindow at H
  refine wp_iload_n 0 rfl rfl dX10_isWindow_0 ?_
  refine WP.at 1 rfl ?_
  refine wp_if_lt 14 (by decide) dX10_isWindow_1 (fun c1 => ?_) (fun c1 => ?_)
  · replace H := H.1 c1
    refine wp_iconst (0 : Int32) (by decide) dX10_isWindow_14 ?_
    exact wp_iret (Or.inl rfl) dX10_isWindow_15 H
  · replace H := H.2 c1
    refine wp_iload_n 0 rfl rfl dX10_isWindow_4 ?_
    refine wp_bipush (6 : Int32) (by decide) dX10_isWindow_5 ?_
    refine WP.at 7 rfl ?_
    refine wp_icmp_ge 14 (by decide) dX10_isWindow_7 (fun c2 => ?_) (fun c2 => ?_)
    · replace H := H.1 c2
      refine wp_iconst (0 : Int32) (by decide) dX10_isWindow_14 ?_
      exact wp_iret (Or.inl rfl) dX10_isWindow_15 H
    · replace H := H.2 c2
      refine wp_iconst (1 : Int32) (by decide) dX10_isWindow_10 ?_
      refine WP.at 11 rfl ?_
      refine wp_goto 15 (by decide) dX10_isWindow_11 ?_
      exact wp_iret (Or.inr rfl) dX10_isWindow_15 H
def p_Po_refuseLine_j119 (s0 : Int32) (l0 : xN) (h : xH) (Q : Int32 → xH → Prop) : Prop := (kd l0.1 = (1, 3)) ∧ (((hI h l0 1) = (4 : Int32) → Q (0 : Int32) h) ∧ (¬ (hI h l0 1) = (4 : Int32) → ((s0 = 0 → Q (0 : Int32) h) ∧ (¬ s0 = 0 → Q (-4 : Int32) h))))
set_option maxRecDepth 100000 in
set_option maxHeartbeats 4000000 in
theorem t_Po_refuseLine_j119 (s0 : Int32) (l0 : xN) (h : xH) (Q : Int32 → xH → Prop) (H : p_Po_refuseLine_j119 s0 l0 h Q) : WP M_Po_refuseLine 119 [(0, xr l0)] [xi s0] h 0 (qi Q) := by
  unfold p_Po_refuseLine_j119 at H
  refine wp_istore (Nat.le_of_ble_eq_true rfl) dX4_refuseLine_119 (ls' := [(6, xi s0), (0, xr l0)]) rfl ?_
  refine wp_aload_n 0 rfl rfl dX4_refuseLine_121 ?_
  obtain ⟨q15, H⟩ := H
  refine wp_geti coX4 1 (Nat.le_of_ble_eq_true rfl) fl_X4_19 rfl q15 dX4_refuseLine_122 ?_
  refine wp_iconst (4 : Int32) (by decide) dX4_refuseLine_125 ?_
  refine WP.at 126 rfl ?_
  refine wp_icmp_eq 139 (by decide) dX4_refuseLine_126 (fun c16 => ?_) (fun c16 => ?_)
  · replace H := H.1 c16
    refine wp_iconst (0 : Int32) (by decide) dX4_refuseLine_139 ?_
    exact wp_iret trivial dX4_refuseLine_140 H
  · replace H := H.2 c16
    refine wp_iload rfl dX4_refuseLine_129 ?_
    refine WP.at 131 rfl ?_
    refine wp_if_eq 139 (by decide) dX4_refuseLine_131 (fun c17 => ?_) (fun c17 => ?_)
    · replace H := H.1 c17
      refine wp_iconst (0 : Int32) (by decide) dX4_refuseLine_139 ?_
      exact wp_iret trivial dX4_refuseLine_140 H
    · replace H := H.2 c17
      refine wp_bipush (-4 : Int32) (by decide) dX4_refuseLine_134 ?_
      refine WP.at 136 rfl ?_
      refine wp_goto 140 (by decide) dX4_refuseLine_136 ?_
      exact wp_iret trivial dX4_refuseLine_140 H
def p_Po_refuseLine_j65 (s0 : Int32) (l0 : xN) (l1 : Int32) (l2 : Int32) (l3 : Int32) (l4 : Int32) (h : xH) (Q : Int32 → xH → Prop) : Prop := (kd l0.1 = (1, 3)) ∧ (kd (hR h l0 2).1 = (1, 4)) ∧ p_R_hasRunner (hR h l0 2) l1 h (fun (v10 : Int32) (h9 : xH) => ((v10 = 0 → Q (-3 : Int32) h9) ∧ (¬ v10 = 0 → ((l4 = 0 → Q (-3 : Int32) h9) ∧ (¬ l4 = 0 → ((¬ s0 = 0 → ((l1 = l2 → p_Po_refuseLine_j119 (1 : Int32) l0 h9 Q) ∧ (¬ l1 = l2 → ((¬ (hI h9 l0 1) = (3 : Int32) → p_Po_refuseLine_j119 (0 : Int32) l0 h9 Q) ∧ ((hI h9 l0 1) = (3 : Int32) → ((l1 = l3 → p_Po_refuseLine_j119 (1 : Int32) l0 h9 Q) ∧ (¬ l1 = l3 → ((¬ l2 = l3 → p_Po_refuseLine_j119 (0 : Int32) l0 h9 Q) ∧ (l2 = l3 → p_Po_refuseLine_j119 (1 : Int32) l0 h9 Q))))))))) ∧ (s0 = 0 → Q (-3 : Int32) h9)))))))
set_option maxRecDepth 100000 in
set_option maxHeartbeats 4000000 in
theorem t_Po_refuseLine_j65 (s0 : Int32) (l0 : xN) (l1 : Int32) (l2 : Int32) (l3 : Int32) (l4 : Int32) (h : xH) (Q : Int32 → xH → Prop) (H : p_Po_refuseLine_j65 s0 l0 l1 l2 l3 l4 h Q) : WP M_Po_refuseLine 65 [(0, xr l0), (1, xi l1), (2, xi l2), (3, xi l3), (4, xi l4)] [xi s0] h 0 (qi Q) := by
  unfold p_Po_refuseLine_j65 at H
  refine wp_istore (Nat.le_of_ble_eq_true rfl) dX4_refuseLine_65 (ls' := [(5, xi s0), (0, xr l0), (1, xi l1), (2, xi l2), (3, xi l3), (4, xi l4)]) rfl ?_
  refine wp_aload_n 0 rfl rfl dX4_refuseLine_67 ?_
  obtain ⟨q7, H⟩ := H
  refine wp_getr coX4 2 (Nat.le_of_ble_eq_true rfl) fl_X4_22 rfl q7 dX4_refuseLine_68 ?_
  refine wp_iload_n 1 rfl rfl dX4_refuseLine_71 ?_
  refine WP.at 72 rfl ?_
  obtain ⟨q8, H⟩ := H
  refine wp_cVi (M2 := M_R_hasRunner) coX5 (hR h l0 2) q8 [xi l1] rfl lv_X4_41 mo_R_hasRunner (Nat.le_of_ble_eq_true rfl) ⟨(Nat.le_of_ble_eq_true rfl), (Nat.le_of_ble_eq_true rfl)⟩ (Nat.le_of_ble_eq_true rfl) (Nat.le_of_ble_eq_true rfl) dX4_refuseLine_72 (t_R_hasRunner (hR h l0 2) l1 _ _ H) (fun v10 h9 H => ?_)
  refine WP.at 75 rfl ?_
  refine wp_if_eq 88 (by decide) dX4_refuseLine_75 (fun c11 => ?_) (fun c11 => ?_)
  · replace H := H.1 c11
    refine wp_bipush (-3 : Int32) (by decide) dX4_refuseLine_88 ?_
    exact wp_iret trivial dX4_refuseLine_90 H
  · replace H := H.2 c11
    refine wp_iload rfl dX4_refuseLine_78 ?_
    refine WP.at 80 rfl ?_
    refine wp_if_eq 88 (by decide) dX4_refuseLine_80 (fun c12 => ?_) (fun c12 => ?_)
    · replace H := H.1 c12
      refine wp_bipush (-3 : Int32) (by decide) dX4_refuseLine_88 ?_
      exact wp_iret trivial dX4_refuseLine_90 H
    · replace H := H.2 c12
      refine wp_iload rfl dX4_refuseLine_83 ?_
      refine WP.at 85 rfl ?_
      refine wp_if_ne 91 (by decide) dX4_refuseLine_85 (fun c13 => ?_) (fun c13 => ?_)
      · replace H := H.1 c13
        refine wp_iload_n 1 rfl rfl dX4_refuseLine_91 ?_
        refine wp_iload_n 2 rfl rfl dX4_refuseLine_92 ?_
        refine WP.at 93 rfl ?_
        refine wp_icmp_eq 114 (by decide) dX4_refuseLine_93 (fun c14 => ?_) (fun c14 => ?_)
        · replace H := H.1 c14
          refine wp_iconst (1 : Int32) (by decide) dX4_refuseLine_114 ?_
          refine WP.at 115 rfl ?_
          refine wp_goto 119 (by decide) dX4_refuseLine_115 ?_
          exact WP.pick [1] rfl (t_Po_refuseLine_j119 (1 : Int32) l0 _ _ H)
        · replace H := H.2 c14
          refine wp_aload_n 0 rfl rfl dX4_refuseLine_96 ?_
          refine wp_geti coX4 1 (Nat.le_of_ble_eq_true rfl) fl_X4_19 rfl q7 dX4_refuseLine_97 ?_
          refine wp_iconst (3 : Int32) (by decide) dX4_refuseLine_100 ?_
          refine WP.at 101 rfl ?_
          refine wp_icmp_ne 118 (by decide) dX4_refuseLine_101 (fun c18 => ?_) (fun c18 => ?_)
          · replace H := H.1 c18
            refine wp_iconst (0 : Int32) (by decide) dX4_refuseLine_118 ?_
            refine WP.at 119 rfl ?_
            exact WP.pick [1] rfl (t_Po_refuseLine_j119 (0 : Int32) l0 _ _ H)
          · replace H := H.2 c18
            refine wp_iload_n 1 rfl rfl dX4_refuseLine_104 ?_
            refine wp_iload_n 3 rfl rfl dX4_refuseLine_105 ?_
            refine WP.at 106 rfl ?_
            refine wp_icmp_eq 114 (by decide) dX4_refuseLine_106 (fun c19 => ?_) (fun c19 => ?_)
            · replace H := H.1 c19
              refine wp_iconst (1 : Int32) (by decide) dX4_refuseLine_114 ?_
              refine WP.at 115 rfl ?_
              refine wp_goto 119 (by decide) dX4_refuseLine_115 ?_
              exact WP.pick [1] rfl (t_Po_refuseLine_j119 (1 : Int32) l0 _ _ H)
            · replace H := H.2 c19
              refine wp_iload_n 2 rfl rfl dX4_refuseLine_109 ?_
              refine wp_iload_n 3 rfl rfl dX4_refuseLine_110 ?_
              refine WP.at 111 rfl ?_
              refine wp_icmp_ne 118 (by decide) dX4_refuseLine_111 (fun c20 => ?_) (fun c20 => ?_)
              · replace H := H.1 c20
                refine wp_iconst (0 : Int32) (by decide) dX4_refuseLine_118 ?_
                refine WP.at 119 rfl ?_
                exact WP.pick [1] rfl (t_Po_refuseLine_j119 (0 : Int32) l0 _ _ H)
              · replace H := H.2 c20
                refine wp_iconst (1 : Int32) (by decide) dX4_refuseLine_114 ?_
                refine WP.at 115 rfl ?_
                refine wp_goto 119 (by decide) dX4_refuseLine_115 ?_
                exact WP.pick [1] rfl (t_Po_refuseLine_j119 (1 : Int32) l0 _ _ H)
      · replace H := H.2 c13
        refine wp_bipush (-3 : Int32) (by decide) dX4_refuseLine_88 ?_
        exact wp_iret trivial dX4_refuseLine_90 H
def p_Po_refuseLine_j35 (s0 : Int32) (l0 : xN) (l1 : Int32) (l2 : Int32) (l3 : Int32) (h : xH) (Q : Int32 → xH → Prop) : Prop := (kd l0.1 = (1, 3)) ∧ ((¬ (hI h l0 1) = (3 : Int32) → ((¬ l3 = 0 → p_Po_refuseLine_j65 (0 : Int32) l0 l1 l2 l3 s0 h Q) ∧ (l3 = 0 → p_Po_refuseLine_j65 (1 : Int32) l0 l1 l2 l3 s0 h Q))) ∧ ((hI h l0 1) = (3 : Int32) → (kd (hR h l0 2).1 = (1, 4)) ∧ p_R_hasRunner (hR h l0 2) l3 h (fun (v23 : Int32) (h22 : xH) => p_Po_refuseLine_j65 v23 l0 l1 l2 l3 s0 h22 Q)))
set_option maxRecDepth 100000 in
set_option maxHeartbeats 4000000 in
theorem t_Po_refuseLine_j35 (s0 : Int32) (l0 : xN) (l1 : Int32) (l2 : Int32) (l3 : Int32) (h : xH) (Q : Int32 → xH → Prop) (H : p_Po_refuseLine_j35 s0 l0 l1 l2 l3 h Q) : WP M_Po_refuseLine 35 [(0, xr l0), (1, xi l1), (2, xi l2), (3, xi l3)] [xi s0] h 0 (qi Q) := by
  unfold p_Po_refuseLine_j35 at H
  refine wp_istore (Nat.le_of_ble_eq_true rfl) dX4_refuseLine_35 (ls' := [(4, xi s0), (0, xr l0), (1, xi l1), (2, xi l2), (3, xi l3)]) rfl ?_
  refine wp_aload_n 0 rfl rfl dX4_refuseLine_37 ?_
  obtain ⟨q4, H⟩ := H
  refine wp_geti coX4 1 (Nat.le_of_ble_eq_true rfl) fl_X4_19 rfl q4 dX4_refuseLine_38 ?_
  refine wp_iconst (3 : Int32) (by decide) dX4_refuseLine_41 ?_
  refine WP.at 42 rfl ?_
  refine wp_icmp_ne 56 (by decide) dX4_refuseLine_42 (fun c5 => ?_) (fun c5 => ?_)
  · replace H := H.1 c5
    refine wp_iload_n 3 rfl rfl dX4_refuseLine_56 ?_
    refine WP.at 57 rfl ?_
    refine wp_if_ne 64 (by decide) dX4_refuseLine_57 (fun c6 => ?_) (fun c6 => ?_)
    · replace H := H.1 c6
      refine wp_iconst (0 : Int32) (by decide) dX4_refuseLine_64 ?_
      refine WP.at 65 rfl ?_
      exact WP.pick [1, 2, 3, 4, 0] rfl (t_Po_refuseLine_j65 (0 : Int32) l0 l1 l2 l3 s0 _ _ H)
    · replace H := H.2 c6
      refine wp_iconst (1 : Int32) (by decide) dX4_refuseLine_60 ?_
      refine WP.at 61 rfl ?_
      refine wp_goto 65 (by decide) dX4_refuseLine_61 ?_
      exact WP.pick [1, 2, 3, 4, 0] rfl (t_Po_refuseLine_j65 (1 : Int32) l0 l1 l2 l3 s0 _ _ H)
  · replace H := H.2 c5
    refine wp_aload_n 0 rfl rfl dX4_refuseLine_45 ?_
    refine wp_getr coX4 2 (Nat.le_of_ble_eq_true rfl) fl_X4_22 rfl q4 dX4_refuseLine_46 ?_
    refine wp_iload_n 3 rfl rfl dX4_refuseLine_49 ?_
    refine WP.at 50 rfl ?_
    obtain ⟨q21, H⟩ := H
    refine wp_cVi (M2 := M_R_hasRunner) coX5 (hR h l0 2) q21 [xi l3] rfl lv_X4_41 mo_R_hasRunner (Nat.le_of_ble_eq_true rfl) ⟨(Nat.le_of_ble_eq_true rfl), (Nat.le_of_ble_eq_true rfl)⟩ (Nat.le_of_ble_eq_true rfl) (Nat.le_of_ble_eq_true rfl) dX4_refuseLine_50 (t_R_hasRunner (hR h l0 2) l3 _ _ H) (fun v23 h22 H => ?_)
    refine WP.at 53 rfl ?_
    refine wp_goto 65 (by decide) dX4_refuseLine_53 ?_
    exact WP.pick [1, 2, 3, 4, 0] rfl (t_Po_refuseLine_j65 v23 l0 l1 l2 l3 s0 _ _ H)
def p_Po_refuseLine_j15 (l0 : xN) (l1 : Int32) (l2 : Int32) (l3 : Int32) (h : xH) (Q : Int32 → xH → Prop) : Prop := ((¬ l2 = 0 → p_Po_refuseLine_j35 (0 : Int32) l0 l1 l2 l3 h Q) ∧ (l2 = 0 → p_Po_refuseLine_j35 (1 : Int32) l0 l1 l2 l3 h Q))
set_option maxRecDepth 100000 in
set_option maxHeartbeats 4000000 in
theorem t_Po_refuseLine_j15 (l0 : xN) (l1 : Int32) (l2 : Int32) (l3 : Int32) (h : xH) (Q : Int32 → xH → Prop) (H : p_Po_refuseLine_j15 l0 l1 l2 l3 h Q) : WP M_Po_refuseLine 15 [(0, xr l0), (1, xi l1), (2, xi l2), (3, xi l3)] [] h 0 (qi Q) := by
  unfold p_Po_refuseLine_j15 at H
  refine wp_iload_n 2 rfl rfl dX4_refuseLine_15 ?_
  refine WP.at 16 rfl ?_
  refine wp_if_ne 23 (by decide) dX4_refuseLine_16 (fun c3 => ?_) (fun c3 => ?_)
  · replace H := H.1 c3
    refine wp_iconst (0 : Int32) (by decide) dX4_refuseLine_23 ?_
    refine WP.at 24 rfl ?_
    refine wp_goto 35 (by decide) dX4_refuseLine_24 ?_
    exact WP.pick [0, 1, 2, 3] rfl (t_Po_refuseLine_j35 (0 : Int32) l0 l1 l2 l3 _ _ H)
  · replace H := H.2 c3
    refine wp_iconst (1 : Int32) (by decide) dX4_refuseLine_19 ?_
    refine WP.at 20 rfl ?_
    refine wp_goto 35 (by decide) dX4_refuseLine_20 ?_
    exact WP.pick [0, 1, 2, 3] rfl (t_Po_refuseLine_j35 (1 : Int32) l0 l1 l2 l3 _ _ H)
def p_Po_refuseLine (l0 : xN) (l1 : Int32) (l2 : Int32) (l3 : Int32) (h : xH) (Q : Int32 → xH → Prop) : Prop := (kd l0.1 = (1, 3)) ∧ (((hI h l0 1) = 0 → p_Po_refuseLine_j15 l0 l1 l2 l3 h Q) ∧ (¬ (hI h l0 1) = 0 → ((¬ (hI h l0 1) = (1 : Int32) → (kd (hR h l0 3).1 = (1, 4)) ∧ p_R_hasRunner (hR h l0 3) l2 h (fun (v27 : Int32) (h26 : xH) => p_Po_refuseLine_j35 v27 l0 l1 l2 l3 h26 Q)) ∧ ((hI h l0 1) = (1 : Int32) → p_Po_refuseLine_j15 l0 l1 l2 l3 h Q))))
set_option maxRecDepth 100000 in
set_option maxHeartbeats 4000000 in
theorem t_Po_refuseLine (l0 : xN) (l1 : Int32) (l2 : Int32) (l3 : Int32) (h : xH) (Q : Int32 → xH → Prop) (H : p_Po_refuseLine l0 l1 l2 l3 h Q) : WP M_Po_refuseLine 0 [(0, xr l0), (1, xi l1), (2, xi l2), (3, xi l3)] [] h 0 (qi Q) := by
  unfold p_Po_refuseLine at H
  refine wp_aload_n 0 rfl rfl dX4_refuseLine_0 ?_
  obtain ⟨q1, H⟩ := H
  refine wp_geti coX4 1 (Nat.le_of_ble_eq_true rfl) fl_X4_19 rfl q1 dX4_refuseLine_1 ?_
  refine WP.at 4 rfl ?_
  refine wp_if_eq 15 (by decide) dX4_refuseLine_4 (fun c2 => ?_) (fun c2 => ?_)
  · replace H := H.1 c2
    exact WP.pick [0, 1, 2, 3] rfl (t_Po_refuseLine_j15 l0 l1 l2 l3 _ _ H)
  · replace H := H.2 c2
    refine wp_aload_n 0 rfl rfl dX4_refuseLine_7 ?_
    refine wp_geti coX4 1 (Nat.le_of_ble_eq_true rfl) fl_X4_19 rfl q1 dX4_refuseLine_8 ?_
    refine wp_iconst (1 : Int32) (by decide) dX4_refuseLine_11 ?_
    refine WP.at 12 rfl ?_
    refine wp_icmp_ne 27 (by decide) dX4_refuseLine_12 (fun c24 => ?_) (fun c24 => ?_)
    · replace H := H.1 c24
      refine wp_aload_n 0 rfl rfl dX4_refuseLine_27 ?_
      refine wp_getr coX4 3 (Nat.le_of_ble_eq_true rfl) fl_X4_26 rfl q1 dX4_refuseLine_28 ?_
      refine wp_iload_n 2 rfl rfl dX4_refuseLine_31 ?_
      refine WP.at 32 rfl ?_
      obtain ⟨q25, H⟩ := H
      refine wp_cVi (M2 := M_R_hasRunner) coX5 (hR h l0 3) q25 [xi l2] rfl lv_X4_41 mo_R_hasRunner (Nat.le_of_ble_eq_true rfl) ⟨(Nat.le_of_ble_eq_true rfl), (Nat.le_of_ble_eq_true rfl)⟩ (Nat.le_of_ble_eq_true rfl) (Nat.le_of_ble_eq_true rfl) dX4_refuseLine_32 (t_R_hasRunner (hR h l0 3) l2 _ _ H) (fun v27 h26 H => ?_)
      refine WP.at 35 rfl ?_
      exact WP.pick [0, 1, 2, 3] rfl (t_Po_refuseLine_j35 v27 l0 l1 l2 l3 _ _ H)
    · replace H := H.2 c24
      exact WP.pick [0, 1, 2, 3] rfl (t_Po_refuseLine_j15 l0 l1 l2 l3 _ _ H)
def p_Po_hasOut (l0 : xN) (l1 : Int32) (l2 : Int32) (l3 : Int32) (h : xH) (Q : Int32 → xH → Prop) : Prop := (kd l0.1 = (1, 3)) ∧ (kd (hR h l0 2).1 = (1, 4)) ∧ p_R_isOut (hR h l0 2) l1 h (fun (v4 : Int32) (h3 : xH) => ((¬ v4 = 0 → Q (1 : Int32) h3) ∧ (v4 = 0 → (kd (hR h3 l0 3).1 = (1, 4)) ∧ p_R_isOut (hR h3 l0 3) l2 h3 (fun (v8 : Int32) (h7 : xH) => ((¬ v8 = 0 → Q (1 : Int32) h7) ∧ (v8 = 0 → (kd (hR h7 l0 2).1 = (1, 4)) ∧ p_R_isOut (hR h7 l0 2) l3 h7 (fun (v12 : Int32) (h11 : xH) => ((v12 = 0 → Q (0 : Int32) h11) ∧ (¬ v12 = 0 → Q (1 : Int32) h11)))))))))
set_option maxRecDepth 100000 in
set_option maxHeartbeats 4000000 in
theorem t_Po_hasOut (l0 : xN) (l1 : Int32) (l2 : Int32) (l3 : Int32) (h : xH) (Q : Int32 → xH → Prop) (H : p_Po_hasOut l0 l1 l2 l3 h Q) : WP M_Po_hasOut 0 [(0, xr l0), (1, xi l1), (2, xi l2), (3, xi l3)] [] h 0 (qi Q) := by
  unfold p_Po_hasOut at H
  refine wp_aload_n 0 rfl rfl dX4_hasOut_0 ?_
  obtain ⟨q1, H⟩ := H
  refine wp_getr coX4 2 (Nat.le_of_ble_eq_true rfl) fl_X4_22 rfl q1 dX4_hasOut_1 ?_
  refine wp_iload_n 1 rfl rfl dX4_hasOut_4 ?_
  refine WP.at 5 rfl ?_
  obtain ⟨q2, H⟩ := H
  refine wp_cVi (M2 := M_R_isOut) coX5 (hR h l0 2) q2 [xi l1] rfl lv_X4_47 mo_R_isOut (Nat.le_of_ble_eq_true rfl) ⟨(Nat.le_of_ble_eq_true rfl), (Nat.le_of_ble_eq_true rfl)⟩ (Nat.le_of_ble_eq_true rfl) (Nat.le_of_ble_eq_true rfl) dX4_hasOut_5 (t_R_isOut (hR h l0 2) l1 _ _ H) (fun v4 h3 H => ?_)
  refine WP.at 8 rfl ?_
  refine wp_if_ne 33 (by decide) dX4_hasOut_8 (fun c5 => ?_) (fun c5 => ?_)
  · replace H := H.1 c5
    refine wp_iconst (1 : Int32) (by decide) dX4_hasOut_33 ?_
    refine WP.at 34 rfl ?_
    refine wp_goto 38 (by decide) dX4_hasOut_34 ?_
    exact wp_iret (Or.inr rfl) dX4_hasOut_38 H
  · replace H := H.2 c5
    refine wp_aload_n 0 rfl rfl dX4_hasOut_11 ?_
    refine wp_getr coX4 3 (Nat.le_of_ble_eq_true rfl) fl_X4_26 rfl q1 dX4_hasOut_12 ?_
    refine wp_iload_n 2 rfl rfl dX4_hasOut_15 ?_
    refine WP.at 16 rfl ?_
    obtain ⟨q6, H⟩ := H
    refine wp_cVi (M2 := M_R_isOut) coX5 (hR h3 l0 3) q6 [xi l2] rfl lv_X4_47 mo_R_isOut (Nat.le_of_ble_eq_true rfl) ⟨(Nat.le_of_ble_eq_true rfl), (Nat.le_of_ble_eq_true rfl)⟩ (Nat.le_of_ble_eq_true rfl) (Nat.le_of_ble_eq_true rfl) dX4_hasOut_16 (t_R_isOut (hR h3 l0 3) l2 _ _ H) (fun v8 h7 H => ?_)
    refine WP.at 19 rfl ?_
    refine wp_if_ne 33 (by decide) dX4_hasOut_19 (fun c9 => ?_) (fun c9 => ?_)
    · replace H := H.1 c9
      refine wp_iconst (1 : Int32) (by decide) dX4_hasOut_33 ?_
      refine WP.at 34 rfl ?_
      refine wp_goto 38 (by decide) dX4_hasOut_34 ?_
      exact wp_iret (Or.inr rfl) dX4_hasOut_38 H
    · replace H := H.2 c9
      refine wp_aload_n 0 rfl rfl dX4_hasOut_22 ?_
      refine wp_getr coX4 2 (Nat.le_of_ble_eq_true rfl) fl_X4_22 rfl q1 dX4_hasOut_23 ?_
      refine wp_iload_n 3 rfl rfl dX4_hasOut_26 ?_
      refine WP.at 27 rfl ?_
      obtain ⟨q10, H⟩ := H
      refine wp_cVi (M2 := M_R_isOut) coX5 (hR h7 l0 2) q10 [xi l3] rfl lv_X4_47 mo_R_isOut (Nat.le_of_ble_eq_true rfl) ⟨(Nat.le_of_ble_eq_true rfl), (Nat.le_of_ble_eq_true rfl)⟩ (Nat.le_of_ble_eq_true rfl) (Nat.le_of_ble_eq_true rfl) dX4_hasOut_27 (t_R_isOut (hR h7 l0 2) l3 _ _ H) (fun v12 h11 H => ?_)
      refine WP.at 30 rfl ?_
      refine wp_if_eq 37 (by decide) dX4_hasOut_30 (fun c13 => ?_) (fun c13 => ?_)
      · replace H := H.1 c13
        refine wp_iconst (0 : Int32) (by decide) dX4_hasOut_37 ?_
        exact wp_iret (Or.inl rfl) dX4_hasOut_38 H
      · replace H := H.2 c13
        refine wp_iconst (1 : Int32) (by decide) dX4_hasOut_33 ?_
        refine WP.at 34 rfl ?_
        refine wp_goto 38 (by decide) dX4_hasOut_34 ?_
        exact wp_iret (Or.inr rfl) dX4_hasOut_38 H
def p_Ti_init (l0 : xN) (l1 : xN) (l2 : Int32) (l3 : Int32) (h : xH) (Q : xH → Prop) : Prop := (2 ≤ l0.1) ∧ (kd l0.1 = (1, 8)) ∧ ∀ h3 : xH, h3 = sI h l0 6 (0 : Int32) → (l1.1 ≠ 1) ∧ ∀ h6 : xH, h6 = sR h3 l0 0 l1 → ∀ h8 : xH, h8 = sI h6 l0 1 l2 → ∀ h10 : xH, h10 = sI h8 l0 2 l3 → Q h10
set_option maxRecDepth 100000 in
set_option maxHeartbeats 4000000 in
theorem t_Ti_init (l0 : xN) (l1 : xN) (l2 : Int32) (l3 : Int32) (h : xH) (Q : xH → Prop) (H : p_Ti_init l0 l1 l2 l3 h Q) : WP M_Ti_init 0 [(0, xr l0), (1, xr l1), (2, xi l2), (3, xi l3)] [] h 0 (qv Q) := by
  unfold p_Ti_init at H
  refine wp_aload_n 0 rfl rfl dX9_init_0 ?_
  obtain ⟨q1, H⟩ := H
  refine wp_oinit q1 lo_X9_3 op3.1 op3.2 (Nat.le_of_ble_eq_true rfl) (Nat.le_of_ble_eq_true rfl) (Nat.le_of_ble_eq_true rfl) dX9_init_1 ?_
  refine wp_aload_n 0 rfl rfl dX9_init_4 ?_
  refine wp_iconst (0 : Int32) (by decide) dX9_init_5 ?_
  obtain ⟨q2, H⟩ := H
  refine wp_puti coX9 6 (Nat.le_of_ble_eq_true rfl) fl_X9_9 rfl rfl ⟨rfl, rfl⟩ q2 dX9_init_6 ?_
  refine wp_nh (fun h3 e4 => ?_)
  replace H := H h3 e4
  refine wp_aload_n 0 rfl rfl dX9_init_9 ?_
  refine wp_aload_n 1 rfl rfl dX9_init_10 ?_
  refine WP.at 11 rfl ?_
  obtain ⟨q5, H⟩ := H
  refine wp_putrF coX9 0 (Nat.le_of_ble_eq_true rfl) fl_X9_15 rfl rfl ⟨rfl, by decide⟩ rfl (Or.inl ⟨_, rfl⟩) q2 q5 dX9_init_11 ?_
  refine wp_nh (fun h6 e7 => ?_)
  replace H := H h6 e7
  refine wp_aload_n 0 rfl rfl dX9_init_14 ?_
  refine wp_iload_n 2 rfl rfl dX9_init_15 ?_
  refine wp_putiF coX9 1 (Nat.le_of_ble_eq_true rfl) fl_X9_19 rfl rfl ⟨rfl, by decide⟩ rfl ⟨rfl, rfl⟩ q2 dX9_init_16 ?_
  refine wp_nh (fun h8 e9 => ?_)
  replace H := H h8 e9
  refine wp_aload_n 0 rfl rfl dX9_init_19 ?_
  refine wp_iload_n 3 rfl rfl dX9_init_20 ?_
  refine wp_putiF coX9 2 (Nat.le_of_ble_eq_true rfl) fl_X9_22 rfl rfl ⟨rfl, by decide⟩ rfl ⟨rfl, rfl⟩ q2 dX9_init_21 ?_
  refine wp_nh (fun h10 e11 => ?_)
  replace H := H h10 e11
  exact wp_vret trivial dX9_init_24 H
def p_Ti_begin_j48 (s0 : Int32) (s1 : xN) (l0 : xN) (l3 : Int32) (h : xH) (Q : xH → Prop) : Prop := (kd s1.1 = (1, 8)) ∧ ∀ h10 : xH, h10 = sI h s1 4 s0 → (kd l0.1 = (1, 8)) ∧ ∀ h13 : xH, h13 = sI h10 l0 5 l3 → p_Ti_line l0 h13 (fun (v16 : Int32) (h15 : xH) => (kd (hR h13 l0 0).1 = (1, 3)) ∧ p_Po_addLive (hR h13 l0 0) v16 (hI h15 l0 2) h15 (fun h18 : xH => (kd (hR h18 l0 0).1 = (1, 3)) ∧ (kd (hR h18 (hR h18 l0 0) 8).1 = (2, 0)) ∧ (vp_in (0 : Int32) (hS h18 (hR h18 (hR h18 l0 0) 8) - 1)) ∧ p_Ti_stake l0 h18 (fun (v23 : Int32) (h22 : xH) => (vp_in (0 : Int32) (hS h22 (hR h18 (hR h18 l0 0) 8) - 1)) ∧ ∀ h25 : xH, h25 = sI h22 (hR h18 (hR h18 l0 0) 8) (0 : Int32).toNatClampNeg ((hI h18 (hR h18 (hR h18 l0 0) 8) (0 : Int32).toNatClampNeg) + v23) → Q h25)))
set_option maxRecDepth 100000 in
set_option maxHeartbeats 4000000 in
theorem t_Ti_begin_j48 (s0 : Int32) (s1 : xN) (l0 : xN) (l3 : Int32) (h : xH) (Q : xH → Prop) (H : p_Ti_begin_j48 s0 s1 l0 l3 h Q) : WP M_Ti_begin 48 [(0, xr l0), (3, xi l3)] [xi s0, xr s1] h 0 (qv Q) := by
  unfold p_Ti_begin_j48 at H
  obtain ⟨q9, H⟩ := H
  refine wp_puti coX9 4 (Nat.le_of_ble_eq_true rfl) fl_X9_33 rfl rfl ⟨rfl, rfl⟩ q9 dX9_begin_48 ?_
  refine wp_nh (fun h10 e11 => ?_)
  replace H := H h10 e11
  refine wp_aload_n 0 rfl rfl dX9_begin_51 ?_
  refine wp_iload_n 3 rfl rfl dX9_begin_52 ?_
  obtain ⟨q12, H⟩ := H
  refine wp_puti coX9 5 (Nat.le_of_ble_eq_true rfl) fl_X9_36 rfl rfl ⟨rfl, rfl⟩ q12 dX9_begin_53 ?_
  refine wp_nh (fun h13 e14 => ?_)
  replace H := H h13 e14
  refine wp_aload_n 0 rfl rfl dX9_begin_56 ?_
  refine wp_getr coX9 0 (Nat.le_of_ble_eq_true rfl) fl_X9_15 rfl q12 dX9_begin_57 ?_
  refine wp_aload_n 0 rfl rfl dX9_begin_60 ?_
  refine WP.at 61 rfl ?_
  refine WP.at 61 rfl ?_
  refine wp_cVi (M2 := M_Ti_line) coX9 l0 q12 [] rfl lv_X9_39 mo_Ti_line (Nat.le_of_ble_eq_true rfl) ⟨(Nat.le_of_ble_eq_true rfl), (Nat.le_of_ble_eq_true rfl)⟩ (Nat.le_of_ble_eq_true rfl) (Nat.le_of_ble_eq_true rfl) dX9_begin_61 (t_Ti_line l0 _ _ H) (fun v16 h15 H => ?_)
  refine wp_aload_n 0 rfl rfl dX9_begin_64 ?_
  refine wp_geti coX9 2 (Nat.le_of_ble_eq_true rfl) fl_X9_22 rfl q12 dX9_begin_65 ?_
  refine WP.at 68 rfl ?_
  obtain ⟨q17, H⟩ := H
  refine wp_cVv (M2 := M_Po_addLive) coX4 (hR h13 l0 0) q17 [xi v16, xi (hI h15 l0 2)] rfl lv_X9_43 mo_Po_addLive (Nat.le_of_ble_eq_true rfl) ⟨(Nat.le_of_ble_eq_true rfl), (Nat.le_of_ble_eq_true rfl)⟩ (Nat.le_of_ble_eq_true rfl) (Nat.le_of_ble_eq_true rfl) dX9_begin_68 (t_Po_addLive (hR h13 l0 0) v16 (hI h15 l0 2) _ _ H) (fun h18 H => ?_)
  refine wp_aload_n 0 rfl rfl dX9_begin_71 ?_
  refine wp_getr coX9 0 (Nat.le_of_ble_eq_true rfl) fl_X9_15 rfl q12 dX9_begin_72 ?_
  obtain ⟨q19, H⟩ := H
  refine wp_getr coX4 8 (Nat.le_of_ble_eq_true rfl) fl_X9_47 rfl q19 dX9_begin_75 ?_
  refine wp_iconst (0 : Int32) (by decide) dX9_begin_78 ?_
  refine WP.at 79 rfl ?_
  refine wp_dup2 rfl rfl dX9_begin_79 ?_
  obtain ⟨q20, H⟩ := H
  obtain ⟨q21, H⟩ := H
  refine wp_iaload q20 q21 dX9_begin_80 ?_
  refine wp_aload_n 0 rfl rfl dX9_begin_81 ?_
  refine WP.at 82 rfl ?_
  refine wp_cVi (M2 := M_Ti_stake) coX9 l0 q12 [] rfl lv_X9_51 mo_Ti_stake (Nat.le_of_ble_eq_true rfl) ⟨(Nat.le_of_ble_eq_true rfl), (Nat.le_of_ble_eq_true rfl)⟩ (Nat.le_of_ble_eq_true rfl) (Nat.le_of_ble_eq_true rfl) dX9_begin_82 (t_Ti_stake l0 _ _ H) (fun v23 h22 H => ?_)
  refine wp_iadd dX9_begin_85 ?_
  obtain ⟨q24, H⟩ := H
  refine wp_iastore q20 q24 dX9_begin_86 ?_
  refine wp_nh (fun h25 e26 => ?_)
  replace H := H h25 e26
  exact wp_vret trivial dX9_begin_87 H
def p_Ti_begin_j34 (s0 : Int32) (s1 : xN) (l0 : xN) (l1 : Int32) (l2 : Int32) (l3 : Int32) (l4 : Int32) (h : xH) (Q : xH → Prop) : Prop := (kd s1.1 = (1, 8)) ∧ ∀ h6 : xH, h6 = sI h s1 3 s0 → ((l4 = 0 → p_Ti_begin_j48 l2 l0 l0 l3 h6 Q) ∧ (¬ l4 = 0 → p_Ti_begin_j48 l1 l0 l0 l3 h6 Q))
set_option maxRecDepth 100000 in
set_option maxHeartbeats 4000000 in
theorem t_Ti_begin_j34 (s0 : Int32) (s1 : xN) (l0 : xN) (l1 : Int32) (l2 : Int32) (l3 : Int32) (l4 : Int32) (h : xH) (Q : xH → Prop) (H : p_Ti_begin_j34 s0 s1 l0 l1 l2 l3 l4 h Q) : WP M_Ti_begin 34 [(0, xr l0), (1, xi l1), (2, xi l2), (3, xi l3), (4, xi l4)] [xi s0, xr s1] h 0 (qv Q) := by
  unfold p_Ti_begin_j34 at H
  obtain ⟨q5, H⟩ := H
  refine wp_puti coX9 3 (Nat.le_of_ble_eq_true rfl) fl_X9_30 rfl rfl ⟨rfl, rfl⟩ q5 dX9_begin_34 ?_
  refine wp_nh (fun h6 e7 => ?_)
  replace H := H h6 e7
  refine wp_aload_n 0 rfl rfl dX9_begin_37 ?_
  refine wp_iload rfl dX9_begin_38 ?_
  refine WP.at 40 rfl ?_
  refine wp_if_eq 47 (by decide) dX9_begin_40 (fun c8 => ?_) (fun c8 => ?_)
  · replace H := H.1 c8
    refine wp_iload_n 2 rfl rfl dX9_begin_47 ?_
    refine WP.at 48 rfl ?_
    exact WP.pick [0, 3] rfl (t_Ti_begin_j48 l2 l0 l0 l3 _ _ H)
  · replace H := H.2 c8
    refine wp_iload_n 1 rfl rfl dX9_begin_43 ?_
    refine WP.at 44 rfl ?_
    refine wp_goto 48 (by decide) dX9_begin_44 ?_
    exact WP.pick [0, 3] rfl (t_Ti_begin_j48 l1 l0 l0 l3 _ _ H)
def p_Ti_begin_j21 (s0 : Int32) (l0 : xN) (l1 : Int32) (l2 : Int32) (l3 : Int32) (h : xH) (Q : xH → Prop) : Prop := ((s0 = 0 → p_Ti_begin_j34 l1 l0 l0 l1 l2 l3 s0 h Q) ∧ (¬ s0 = 0 → p_Ti_begin_j34 l2 l0 l0 l1 l2 l3 s0 h Q))
set_option maxRecDepth 100000 in
set_option maxHeartbeats 4000000 in
theorem t_Ti_begin_j21 (s0 : Int32) (l0 : xN) (l1 : Int32) (l2 : Int32) (l3 : Int32) (h : xH) (Q : xH → Prop) (H : p_Ti_begin_j21 s0 l0 l1 l2 l3 h Q) : WP M_Ti_begin 21 [(0, xr l0), (1, xi l1), (2, xi l2), (3, xi l3)] [xi s0] h 0 (qv Q) := by
  unfold p_Ti_begin_j21 at H
  refine wp_istore (Nat.le_of_ble_eq_true rfl) dX9_begin_21 (ls' := [(4, xi s0), (0, xr l0), (1, xi l1), (2, xi l2), (3, xi l3)]) rfl ?_
  refine wp_aload_n 0 rfl rfl dX9_begin_23 ?_
  refine wp_iload rfl dX9_begin_24 ?_
  refine WP.at 26 rfl ?_
  refine wp_if_eq 33 (by decide) dX9_begin_26 (fun c4 => ?_) (fun c4 => ?_)
  · replace H := H.1 c4
    refine wp_iload_n 1 rfl rfl dX9_begin_33 ?_
    refine WP.at 34 rfl ?_
    exact WP.pick [1, 2, 3, 4, 0] rfl (t_Ti_begin_j34 l1 l0 l0 l1 l2 l3 s0 _ _ H)
  · replace H := H.2 c4
    refine wp_iload_n 2 rfl rfl dX9_begin_29 ?_
    refine WP.at 30 rfl ?_
    refine wp_goto 34 (by decide) dX9_begin_30 ?_
    exact WP.pick [1, 2, 3, 4, 0] rfl (t_Ti_begin_j34 l2 l0 l0 l1 l2 l3 s0 _ _ H)
def p_Ti_begin (l0 : xN) (l1 : Int32) (l2 : Int32) (l3 : Int32) (h : xH) (Q : xH → Prop) : Prop := (kd l0.1 = (1, 8)) ∧ (kd (hR h l0 0).1 = (1, 3)) ∧ ((¬ (hI h (hR h l0 0) 1) = (2 : Int32) → p_Ti_begin_j21 (0 : Int32) l0 l1 l2 l3 h Q) ∧ ((hI h (hR h l0 0) 1) = (2 : Int32) → ((l1 ≤ l2 → p_Ti_begin_j21 (0 : Int32) l0 l1 l2 l3 h Q) ∧ (¬ l1 ≤ l2 → p_Ti_begin_j21 (1 : Int32) l0 l1 l2 l3 h Q))))
set_option maxRecDepth 100000 in
set_option maxHeartbeats 4000000 in
theorem t_Ti_begin (l0 : xN) (l1 : Int32) (l2 : Int32) (l3 : Int32) (h : xH) (Q : xH → Prop) (H : p_Ti_begin l0 l1 l2 l3 h Q) : WP M_Ti_begin 0 [(0, xr l0), (1, xi l1), (2, xi l2), (3, xi l3)] [] h 0 (qv Q) := by
  unfold p_Ti_begin at H
  refine wp_aload_n 0 rfl rfl dX9_begin_0 ?_
  obtain ⟨q1, H⟩ := H
  refine wp_getr coX9 0 (Nat.le_of_ble_eq_true rfl) fl_X9_15 rfl q1 dX9_begin_1 ?_
  obtain ⟨q2, H⟩ := H
  refine wp_geti coX4 1 (Nat.le_of_ble_eq_true rfl) fl_X9_25 rfl q2 dX9_begin_4 ?_
  refine wp_iconst (2 : Int32) (by decide) dX9_begin_7 ?_
  refine WP.at 8 rfl ?_
  refine wp_icmp_ne 20 (by decide) dX9_begin_8 (fun c3 => ?_) (fun c3 => ?_)
  · replace H := H.1 c3
    refine wp_iconst (0 : Int32) (by decide) dX9_begin_20 ?_
    refine WP.at 21 rfl ?_
    exact WP.pick [0, 1, 2, 3] rfl (t_Ti_begin_j21 (0 : Int32) l0 l1 l2 l3 _ _ H)
  · replace H := H.2 c3
    refine wp_iload_n 1 rfl rfl dX9_begin_11 ?_
    refine wp_iload_n 2 rfl rfl dX9_begin_12 ?_
    refine WP.at 13 rfl ?_
    refine wp_icmp_le 20 (by decide) dX9_begin_13 (fun c27 => ?_) (fun c27 => ?_)
    · replace H := H.1 c27
      refine wp_iconst (0 : Int32) (by decide) dX9_begin_20 ?_
      refine WP.at 21 rfl ?_
      exact WP.pick [0, 1, 2, 3] rfl (t_Ti_begin_j21 (0 : Int32) l0 l1 l2 l3 _ _ H)
    · replace H := H.2 c27
      refine wp_iconst (1 : Int32) (by decide) dX9_begin_16 ?_
      refine WP.at 17 rfl ?_
      refine wp_goto 21 (by decide) dX9_begin_17 ?_
      exact WP.pick [0, 1, 2, 3] rfl (t_Ti_begin_j21 (1 : Int32) l0 l1 l2 l3 _ _ H)
def p_T_sell (l0 : xN) (l1 : Int32) (l2 : Int32) (l3 : Int32) (l4 : Int32) (l5 : Int32) (l6 : Int32) (h : xH) (Q : Int32 → xH → Prop) : Prop := (kd l0.1 = (1, 9)) ∧ p_T_findPool l0 l2 h (fun (v3 : xN) (h2 : xH) => p_T_isWindow l1 h2 (fun (v5 : Int32) (h4 : xH) => ((v5 = 0 → Q (-2 : Int32) h4) ∧ (¬ v5 = 0 → ((¬ v3.1 = 0 → ((l6 < (1 : Int32) → Q (-3 : Int32) h4) ∧ (¬ l6 < (1 : Int32) → ((l6 ≤ (1000 : Int32) → (kd v3.1 = (1, 3)) ∧ p_Po_refuseLine v3 l3 l4 l5 h4 (fun (v12 : Int32) (h11 : xH) => ((v12 = 0 → p_Po_hasOut v3 l3 l4 l5 h11 (fun (v15 : Int32) (h14 : xH) => ((v15 = 0 → (kd (hR h14 v3 2).1 = (1, 4)) ∧ ((¬ (hI h14 (hR h14 v3 2) 7) = 0 → Q (-6 : Int32) h14) ∧ ((hI h14 (hR h14 v3 2) 7) = 0 → (kd (hR h14 v3 3).1 = (1, 4)) ∧ (((hI h14 (hR h14 v3 3) 7) = 0 → (((hI h14 l0 11) < (200 : Int32) → (hS h14 ((10, (hI h14 l0 11).toNatClampNeg) : xN) = 0) ∧ ∀ h23 : xH, h23 = nW h14 ((10, (hI h14 l0 11).toNatClampNeg) : xN) 0 → p_Ti_init ((10, (hI h14 l0 11).toNatClampNeg) : xN) v3 l1 l6 h23 (fun h25 : xH => (kd (hR h14 l0 2).1 = (5, 8)) ∧ (vp_in (hI h14 l0 11) (hS h25 (hR h14 l0 2) - 1)) ∧ ∀ h28 : xH, h28 = sR h25 (hR h14 l0 2) (hI h14 l0 11).toNatClampNeg ((10, (hI h14 l0 11).toNatClampNeg) : xN) → (kd (hR h28 l0 2).1 = (5, 8)) ∧ (vp_in (hI h28 l0 11) (hS h28 (hR h28 l0 2) - 1)) ∧ (kd (hR h28 (hR h28 l0 2) (hI h28 l0 11).toNatClampNeg).1 = (1, 8)) ∧ p_Ti_begin (hR h28 (hR h28 l0 2) (hI h28 l0 11).toNatClampNeg) l3 l4 l5 h28 (fun h33 : xH => ∀ h34 : xH, h34 = sI h33 l0 11 ((hI h33 l0 11) + (1 : Int32)) → Q ((hI h34 l0 11) - (1 : Int32)) h34))) ∧ (¬ (hI h14 l0 11) < (200 : Int32) → Q (-7 : Int32) h14))) ∧ (¬ (hI h14 (hR h14 v3 3) 7) = 0 → Q (-6 : Int32) h14))))) ∧ (¬ v15 = 0 → Q (-5 : Int32) h14)))) ∧ (¬ v12 = 0 → Q v12 h11)))) ∧ (¬ l6 ≤ (1000 : Int32) → Q (-3 : Int32) h4))))) ∧ (v3.1 = 0 → Q (-2 : Int32) h4))))))
set_option maxRecDepth 100000 in
set_option maxHeartbeats 4000000 in
theorem t_T_sell (l0 : xN) (l1 : Int32) (l2 : Int32) (l3 : Int32) (l4 : Int32) (l5 : Int32) (l6 : Int32) (h : xH) (Q : Int32 → xH → Prop) (H : p_T_sell l0 l1 l2 l3 l4 l5 l6 h Q) : WP M_T_sell 0 [(0, xr l0), (1, xi l1), (2, xi l2), (3, xi l3), (4, xi l4), (5, xi l5), (6, xi l6)] [] h 0 (qi Q) := by
  unfold p_T_sell at H
  refine wp_aload_n 0 rfl rfl dX10_sell_0 ?_
  refine wp_iload_n 2 rfl rfl dX10_sell_1 ?_
  refine WP.at 2 rfl ?_
  obtain ⟨q1, H⟩ := H
  refine wp_cVr (M2 := M_T_findPool) coX10 l0 q1 [xi l2] rfl lv_X10_158 mo_T_findPool (Nat.le_of_ble_eq_true rfl) ⟨(Nat.le_of_ble_eq_true rfl), (Nat.le_of_ble_eq_true rfl)⟩ (Nat.le_of_ble_eq_true rfl) (Nat.le_of_ble_eq_true rfl) dX10_sell_2 (t_T_findPool l0 l2 _ _ H) (fun v3 h2 H => ?_)
  refine wp_astore (Nat.le_of_ble_eq_true rfl) dX10_sell_5 (ls' := [(7, xr v3), (0, xr l0), (1, xi l1), (2, xi l2), (3, xi l3), (4, xi l4), (5, xi l5), (6, xi l6)]) rfl ?_
  refine wp_iload_n 1 rfl rfl dX10_sell_7 ?_
  refine WP.at 8 rfl ?_
  refine wp_cSi (M2 := M_T_isWindow) [xi l1] rfl ls_X10_162 mo_T_isWindow (Nat.le_of_ble_eq_true rfl) ⟨(Nat.le_of_ble_eq_true rfl), (Nat.le_of_ble_eq_true rfl)⟩ (Nat.le_of_ble_eq_true rfl) (Nat.le_of_ble_eq_true rfl) dX10_sell_8 (t_T_isWindow l1 _ _ H) (fun v5 h4 H => ?_)
  refine WP.at 11 rfl ?_
  refine wp_if_eq 19 (by decide) dX10_sell_11 (fun c6 => ?_) (fun c6 => ?_)
  · replace H := H.1 c6
    refine wp_bipush (-2 : Int32) (by decide) dX10_sell_19 ?_
    exact wp_iret trivial dX10_sell_21 H
  · replace H := H.2 c6
    refine wp_aload rfl dX10_sell_14 ?_
    refine WP.at 16 rfl ?_
    refine wp_ifnonnull 22 (by decide) dX10_sell_16 (fun c7 => ?_) (fun c7 => ?_)
    · replace H := H.1 c7
      refine wp_iload rfl dX10_sell_22 ?_
      refine wp_iconst (1 : Int32) (by decide) dX10_sell_24 ?_
      refine WP.at 25 rfl ?_
      refine wp_icmp_lt 36 (by decide) dX10_sell_25 (fun c8 => ?_) (fun c8 => ?_)
      · replace H := H.1 c8
        refine wp_bipush (-3 : Int32) (by decide) dX10_sell_36 ?_
        exact wp_iret trivial dX10_sell_38 H
      · replace H := H.2 c8
        refine wp_iload rfl dX10_sell_28 ?_
        refine wp_sipush (1000 : Int32) (by decide) dX10_sell_30 ?_
        refine WP.at 33 rfl ?_
        refine wp_icmp_le 39 (by decide) dX10_sell_33 (fun c9 => ?_) (fun c9 => ?_)
        · replace H := H.1 c9
          refine wp_aload rfl dX10_sell_39 ?_
          refine wp_iload_n 3 rfl rfl dX10_sell_41 ?_
          refine wp_iload rfl dX10_sell_42 ?_
          refine wp_iload rfl dX10_sell_44 ?_
          refine WP.at 46 rfl ?_
          obtain ⟨q10, H⟩ := H
          refine wp_cVi (M2 := M_Po_refuseLine) coX4 v3 q10 [xi l3, xi l4, xi l5] rfl lv_X10_165 mo_Po_refuseLine (Nat.le_of_ble_eq_true rfl) ⟨(Nat.le_of_ble_eq_true rfl), (Nat.le_of_ble_eq_true rfl)⟩ (Nat.le_of_ble_eq_true rfl) (Nat.le_of_ble_eq_true rfl) dX10_sell_46 (t_Po_refuseLine v3 l3 l4 l5 _ _ H) (fun v12 h11 H => ?_)
          refine wp_istore (Nat.le_of_ble_eq_true rfl) dX10_sell_49 (ls' := [(8, xi v12), (7, xr v3), (0, xr l0), (1, xi l1), (2, xi l2), (3, xi l3), (4, xi l4), (5, xi l5), (6, xi l6)]) rfl ?_
          refine wp_iload rfl dX10_sell_51 ?_
          refine WP.at 53 rfl ?_
          refine WP.at 53 rfl ?_
          refine wp_if_eq 59 (by decide) dX10_sell_53 (fun c13 => ?_) (fun c13 => ?_)
          · replace H := H.1 c13
            refine wp_aload rfl dX10_sell_59 ?_
            refine wp_iload_n 3 rfl rfl dX10_sell_61 ?_
            refine wp_iload rfl dX10_sell_62 ?_
            refine wp_iload rfl dX10_sell_64 ?_
            refine WP.at 66 rfl ?_
            refine wp_cVi (M2 := M_Po_hasOut) coX4 v3 q10 [xi l3, xi l4, xi l5] rfl lv_X10_169 mo_Po_hasOut (Nat.le_of_ble_eq_true rfl) ⟨(Nat.le_of_ble_eq_true rfl), (Nat.le_of_ble_eq_true rfl)⟩ (Nat.le_of_ble_eq_true rfl) (Nat.le_of_ble_eq_true rfl) dX10_sell_66 (t_Po_hasOut v3 l3 l4 l5 _ _ H) (fun v15 h14 H => ?_)
            refine WP.at 69 rfl ?_
            refine wp_if_eq 75 (by decide) dX10_sell_69 (fun c16 => ?_) (fun c16 => ?_)
            · replace H := H.1 c16
              refine wp_aload rfl dX10_sell_75 ?_
              refine wp_getr coX4 2 (Nat.le_of_ble_eq_true rfl) fl_X10_173 rfl q10 dX10_sell_77 ?_
              obtain ⟨q17, H⟩ := H
              refine wp_geti coX5 7 (Nat.le_of_ble_eq_true rfl) fl_X10_88 rfl q17 dX10_sell_80 ?_
              refine WP.at 83 rfl ?_
              refine wp_if_ne 97 (by decide) dX10_sell_83 (fun c18 => ?_) (fun c18 => ?_)
              · replace H := H.1 c18
                refine wp_bipush (-6 : Int32) (by decide) dX10_sell_97 ?_
                exact wp_iret trivial dX10_sell_99 H
              · replace H := H.2 c18
                refine wp_aload rfl dX10_sell_86 ?_
                refine wp_getr coX4 3 (Nat.le_of_ble_eq_true rfl) fl_X10_177 rfl q10 dX10_sell_88 ?_
                obtain ⟨q19, H⟩ := H
                refine wp_geti coX5 7 (Nat.le_of_ble_eq_true rfl) fl_X10_88 rfl q19 dX10_sell_91 ?_
                refine WP.at 94 rfl ?_
                refine wp_if_eq 100 (by decide) dX10_sell_94 (fun c20 => ?_) (fun c20 => ?_)
                · replace H := H.1 c20
                  refine wp_aload_n 0 rfl rfl dX10_sell_100 ?_
                  refine wp_geti coX10 11 (Nat.le_of_ble_eq_true rfl) fl_X10_104 rfl q1 dX10_sell_101 ?_
                  refine wp_sipush (200 : Int32) (by decide) dX10_sell_104 ?_
                  refine WP.at 107 rfl ?_
                  refine wp_icmp_lt 113 (by decide) dX10_sell_107 (fun c21 => ?_) (fun c21 => ?_)
                  · replace H := H.1 c21
                    refine wp_aload_n 0 rfl rfl dX10_sell_113 ?_
                    refine wp_getr coX10 2 (Nat.le_of_ble_eq_true rfl) fl_X10_23 rfl q1 dX10_sell_114 ?_
                    refine wp_aload_n 0 rfl rfl dX10_sell_117 ?_
                    refine wp_geti coX10 11 (Nat.le_of_ble_eq_true rfl) fl_X10_104 rfl q1 dX10_sell_118 ?_
                    obtain ⟨q22, H⟩ := H
                    refine wp_new coX9 ((10, (hI h14 l0 11).toNatClampNeg) : xN) rfl q22 dfX9 (Nat.le_of_ble_eq_true rfl) (Nat.le_of_ble_eq_true rfl) cl_X10_21.1 cl_X10_21.2.1 cl_X10_21.2.2 dX10_sell_121 ?_
                    refine wp_nh (fun h23 e24 => ?_)
                    replace H := H h23 e24
                    refine wp_dup rfl dX10_sell_124 ?_
                    refine wp_aload rfl dX10_sell_125 ?_
                    refine WP.at 127 rfl ?_
                    refine wp_iload_n 1 rfl rfl dX10_sell_127 ?_
                    refine wp_iload rfl dX10_sell_128 ?_
                    refine WP.at 130 rfl ?_
                    refine wp_cI (M2 := M_Ti_init) ((10, (hI h14 l0 11).toNatClampNeg) : xN) (Nat.le_of_ble_eq_true rfl) [xr v3, xi l1, xi l6] rfl lI_X10_180 ⟨rfl, rfl⟩ mo_Ti_init (Nat.le_of_ble_eq_true rfl) ⟨(Nat.le_of_ble_eq_true rfl), (Nat.le_of_ble_eq_true rfl)⟩ (Nat.le_of_ble_eq_true rfl) (Nat.le_of_ble_eq_true rfl) dX10_sell_130 (t_Ti_init ((10, (hI h14 l0 11).toNatClampNeg) : xN) v3 l1 l6 _ _ H) (fun h25 H => ?_)
                    obtain ⟨q26, H⟩ := H
                    obtain ⟨q27, H⟩ := H
                    refine wp_aastore coX9 q26 (rfl : kd (((10, (hI h14 l0 11).toNatClampNeg) : xN)).1 = (1, 8)) q27 dX10_sell_133 ?_
                    refine wp_nh (fun h28 e29 => ?_)
                    replace H := H h28 e29
                    refine wp_aload_n 0 rfl rfl dX10_sell_134 ?_
                    refine wp_getr coX10 2 (Nat.le_of_ble_eq_true rfl) fl_X10_23 rfl q1 dX10_sell_135 ?_
                    refine wp_aload_n 0 rfl rfl dX10_sell_138 ?_
                    refine wp_geti coX10 11 (Nat.le_of_ble_eq_true rfl) fl_X10_104 rfl q1 dX10_sell_139 ?_
                    refine WP.at 142 rfl ?_
                    obtain ⟨q30, H⟩ := H
                    obtain ⟨q31, H⟩ := H
                    refine wp_aaload q30 q31 dX10_sell_142 ?_
                    refine wp_iload_n 3 rfl rfl dX10_sell_143 ?_
                    refine wp_iload rfl dX10_sell_144 ?_
                    refine wp_iload rfl dX10_sell_146 ?_
                    refine WP.at 148 rfl ?_
                    obtain ⟨q32, H⟩ := H
                    refine wp_cVv (M2 := M_Ti_begin) coX9 (hR h28 (hR h28 l0 2) (hI h28 l0 11).toNatClampNeg) q32 [xi l3, xi l4, xi l5] rfl lv_X10_183 mo_Ti_begin (Nat.le_of_ble_eq_true rfl) ⟨(Nat.le_of_ble_eq_true rfl), (Nat.le_of_ble_eq_true rfl)⟩ (Nat.le_of_ble_eq_true rfl) (Nat.le_of_ble_eq_true rfl) dX10_sell_148 (t_Ti_begin (hR h28 (hR h28 l0 2) (hI h28 l0 11).toNatClampNeg) l3 l4 l5 _ _ H) (fun h33 H => ?_)
                    refine wp_aload_n 0 rfl rfl dX10_sell_151 ?_
                    refine wp_dup rfl dX10_sell_152 ?_
                    refine wp_geti coX10 11 (Nat.le_of_ble_eq_true rfl) fl_X10_104 rfl q1 dX10_sell_153 ?_
                    refine WP.at 156 rfl ?_
                    refine wp_iconst (1 : Int32) (by decide) dX10_sell_156 ?_
                    refine wp_iadd dX10_sell_157 ?_
                    refine wp_puti coX10 11 (Nat.le_of_ble_eq_true rfl) fl_X10_104 rfl rfl ⟨rfl, rfl⟩ q1 dX10_sell_158 ?_
                    refine wp_nh (fun h34 e35 => ?_)
                    replace H := H h34 e35
                    refine wp_aload_n 0 rfl rfl dX10_sell_161 ?_
                    refine wp_geti coX10 11 (Nat.le_of_ble_eq_true rfl) fl_X10_104 rfl q1 dX10_sell_162 ?_
                    refine wp_iconst (1 : Int32) (by decide) dX10_sell_165 ?_
                    refine wp_isub dX10_sell_166 ?_
                    exact wp_iret trivial dX10_sell_167 H
                  · replace H := H.2 c21
                    refine wp_bipush (-7 : Int32) (by decide) dX10_sell_110 ?_
                    exact wp_iret trivial dX10_sell_112 H
                · replace H := H.2 c20
                  refine wp_bipush (-6 : Int32) (by decide) dX10_sell_97 ?_
                  exact wp_iret trivial dX10_sell_99 H
            · replace H := H.2 c16
              refine wp_bipush (-5 : Int32) (by decide) dX10_sell_72 ?_
              exact wp_iret trivial dX10_sell_74 H
          · replace H := H.2 c13
            refine wp_iload rfl dX10_sell_56 ?_
            exact wp_iret trivial dX10_sell_58 H
        · replace H := H.2 c9
          refine wp_bipush (-3 : Int32) (by decide) dX10_sell_36 ?_
          exact wp_iret trivial dX10_sell_38 H
    · replace H := H.2 c7
      refine wp_bipush (-2 : Int32) (by decide) dX10_sell_19 ?_
      exact wp_iret trivial dX10_sell_21 H
