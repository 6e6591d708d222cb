def p_B_init (l0 : xN) (h : xH) (Q : xH → Prop) : Prop := (2 ≤ l0.1) ∧ (hS h ((13, l0.2) : xN) = 0) ∧ ∀ h3 : xH, h3 = nW h ((13, l0.2) : xN) (100) → (kd l0.1 = (1, 0)) ∧ ∀ h6 : xH, h6 = sR h3 l0 0 ((13, l0.2) : xN) → Q h6
set_option maxRecDepth 100000 in
set_option maxHeartbeats 4000000 in
theorem t_B_init (l0 : xN) (h : xH) (Q : xH → Prop) (H : p_B_init l0 h Q) : WP M_B_init 0 [(0, xr l0)] [] h 0 (qv Q) := by
  unfold p_B_init at H
  refine wp_aload_n 0 rfl rfl dX0_init_0 ?_
  obtain ⟨q1, H⟩ := H
  refine wp_oinit q1 lo_X0_3 op3.1 op3.2 (Nat.le_of_ble_eq_true rfl) (Nat.le_of_ble_eq_true rfl) (Nat.le_of_ble_eq_true rfl) dX0_init_1 ?_
  refine wp_aload_n 0 rfl rfl dX0_init_4 ?_
  refine wp_bipush (100 : Int32) (by decide) dX0_init_5 ?_
  obtain ⟨q2, H⟩ := H
  refine wp_newai ((13, l0.2) : xN) (100) (by decide) rfl q2 1 ⟨(Nat.le_of_ble_eq_true rfl), (Nat.le_of_ble_eq_true rfl), (Nat.le_of_ble_eq_true rfl)⟩ (Nat.le_of_ble_eq_true rfl) ac_int dX0_init_7 ?_
  refine wp_nh (fun h3 e4 => ?_)
  replace H := H h3 e4
  obtain ⟨q5, H⟩ := H
  refine wp_putrF coX0 0 (Nat.le_of_ble_eq_true rfl) fl_X0_9 rfl rfl ⟨rfl, by decide⟩ rfl (Or.inr ⟨_, rfl⟩) q5 (by intro z; cases z) dX0_init_9 ?_
  refine wp_nh (fun h6 e7 => ?_)
  replace H := H h6 e7
  exact wp_vret trivial dX0_init_12 H
def p_F_init (l0 : xN) (h : xH) (Q : xH → Prop) : Prop := (2 ≤ l0.1) ∧ (hS h ((15, l0.2) : xN) = 0) ∧ ∀ h3 : xH, h3 = nW h ((15, l0.2) : xN) (12) → (kd l0.1 = (1, 2)) ∧ ∀ h6 : xH, h6 = sR h3 l0 0 ((15, l0.2) : xN) → (hS h6 ((16, l0.2) : xN) = 0) ∧ ∀ h9 : xH, h9 = nW h6 ((16, l0.2) : xN) (12) → ∀ h11 : xH, h11 = sR h9 l0 1 ((16, l0.2) : xN) → Q h11
set_option maxRecDepth 100000 in
set_option maxHeartbeats 4000000 in
theorem t_F_init (l0 : xN) (h : xH) (Q : xH → Prop) (H : p_F_init l0 h Q) : WP M_F_init 0 [(0, xr l0)] [] h 0 (qv Q) := by
  unfold p_F_init at H
  refine wp_aload_n 0 rfl rfl dX2_init_0 ?_
  obtain ⟨q1, H⟩ := H
  refine wp_oinit q1 lo_X2_3 op3.1 op3.2 (Nat.le_of_ble_eq_true rfl) (Nat.le_of_ble_eq_true rfl) (Nat.le_of_ble_eq_true rfl) dX2_init_1 ?_
  refine wp_aload_n 0 rfl rfl dX2_init_4 ?_
  refine wp_bipush (12 : Int32) (by decide) dX2_init_5 ?_
  obtain ⟨q2, H⟩ := H
  refine wp_newai ((15, l0.2) : xN) (12) (by decide) rfl q2 1 ⟨(Nat.le_of_ble_eq_true rfl), (Nat.le_of_ble_eq_true rfl), (Nat.le_of_ble_eq_true rfl)⟩ (Nat.le_of_ble_eq_true rfl) ac_int dX2_init_7 ?_
  refine wp_nh (fun h3 e4 => ?_)
  replace H := H h3 e4
  obtain ⟨q5, H⟩ := H
  refine wp_putrF coX2 0 (Nat.le_of_ble_eq_true rfl) fl_X2_9 rfl rfl ⟨rfl, by decide⟩ rfl (Or.inr ⟨_, rfl⟩) q5 (by intro z; cases z) dX2_init_9 ?_
  refine wp_nh (fun h6 e7 => ?_)
  replace H := H h6 e7
  refine wp_aload_n 0 rfl rfl dX2_init_12 ?_
  refine WP.at 13 rfl ?_
  refine wp_bipush (12 : Int32) (by decide) dX2_init_13 ?_
  obtain ⟨q8, H⟩ := H
  refine wp_newai ((16, l0.2) : xN) (12) (by decide) rfl q8 1 ⟨(Nat.le_of_ble_eq_true rfl), (Nat.le_of_ble_eq_true rfl), (Nat.le_of_ble_eq_true rfl)⟩ (Nat.le_of_ble_eq_true rfl) ac_int dX2_init_15 ?_
  refine wp_nh (fun h9 e10 => ?_)
  replace H := H h9 e10
  refine wp_putrF coX2 1 (Nat.le_of_ble_eq_true rfl) fl_X2_15 rfl rfl ⟨rfl, by decide⟩ rfl (Or.inr ⟨_, rfl⟩) q5 (by intro z; cases z) dX2_init_17 ?_
  refine wp_nh (fun h11 e12 => ?_)
  replace H := H h11 e12
  exact wp_vret trivial dX2_init_20 H
def p_Se_init (l0 : xN) (h : xH) (Q : xH → Prop) : Prop := (2 ≤ l0.1) ∧ (hS h ((24, l0.2) : xN) = 0) ∧ ∀ h3 : xH, h3 = nW h ((24, l0.2) : xN) (200) → (kd l0.1 = (1, 6)) ∧ ∀ h6 : xH, h6 = sR h3 l0 0 ((24, l0.2) : xN) → (hS h6 ((25, l0.2) : xN) = 0) ∧ ∀ h9 : xH, h9 = nW h6 ((25, l0.2) : xN) (200) → ∀ h11 : xH, h11 = sR h9 l0 1 ((25, l0.2) : xN) → Q h11
set_option maxRecDepth 100000 in
set_option maxHeartbeats 4000000 in
theorem t_Se_init (l0 : xN) (h : xH) (Q : xH → Prop) (H : p_Se_init l0 h Q) : WP M_Se_init 0 [(0, xr l0)] [] h 0 (qv Q) := by
  unfold p_Se_init at H
  refine wp_aload_n 0 rfl rfl dX7_init_0 ?_
  obtain ⟨q1, H⟩ := H
  refine wp_oinit q1 lo_X7_3 op3.1 op3.2 (Nat.le_of_ble_eq_true rfl) (Nat.le_of_ble_eq_true rfl) (Nat.le_of_ble_eq_true rfl) dX7_init_1 ?_
  refine wp_aload_n 0 rfl rfl dX7_init_4 ?_
  refine wp_sipush (200 : Int32) (by decide) dX7_init_5 ?_
  obtain ⟨q2, H⟩ := H
  refine wp_newai ((24, l0.2) : xN) (200) (by decide) rfl q2 1 ⟨(Nat.le_of_ble_eq_true rfl), (Nat.le_of_ble_eq_true rfl), (Nat.le_of_ble_eq_true rfl)⟩ (Nat.le_of_ble_eq_true rfl) ac_int dX7_init_8 ?_
  refine wp_nh (fun h3 e4 => ?_)
  replace H := H h3 e4
  obtain ⟨q5, H⟩ := H
  refine wp_putrF coX7 0 (Nat.le_of_ble_eq_true rfl) fl_X7_9 rfl rfl ⟨rfl, by decide⟩ rfl (Or.inr ⟨_, rfl⟩) q5 (by intro z; cases z) dX7_init_10 ?_
  refine wp_nh (fun h6 e7 => ?_)
  replace H := H h6 e7
  refine wp_aload_n 0 rfl rfl dX7_init_13 ?_
  refine WP.at 14 rfl ?_
  refine wp_sipush (200 : Int32) (by decide) dX7_init_14 ?_
  obtain ⟨q8, H⟩ := H
  refine wp_newai ((25, l0.2) : xN) (200) (by decide) rfl q8 1 ⟨(Nat.le_of_ble_eq_true rfl), (Nat.le_of_ble_eq_true rfl), (Nat.le_of_ble_eq_true rfl)⟩ (Nat.le_of_ble_eq_true rfl) ac_int dX7_init_17 ?_
  refine wp_nh (fun h9 e10 => ?_)
  replace H := H h9 e10
  refine wp_putrF coX7 1 (Nat.le_of_ble_eq_true rfl) fl_X7_15 rfl rfl ⟨rfl, by decide⟩ rfl (Or.inr ⟨_, rfl⟩) q5 (by intro z; cases z) dX7_init_19 ?_
  refine wp_nh (fun h11 e12 => ?_)
  replace H := H h11 e12
  exact wp_vret trivial dX7_init_22 H
def p_Sl_init (l0 : xN) (h : xH) (Q : xH → Prop) : Prop := (2 ≤ l0.1) ∧ (hS h ((26, l0.2) : xN) = 0) ∧ ∀ h3 : xH, h3 = nW h ((26, l0.2) : xN) (8) → (kd l0.1 = (1, 7)) ∧ ∀ h6 : xH, h6 = sR h3 l0 0 ((26, l0.2) : xN) → ∀ h8 : xH, h8 = sI h6 l0 1 (0 : Int32) → ∀ h10 : xH, h10 = sI h8 l0 2 (-1 : Int32) → Q h10
set_option maxRecDepth 100000 in
set_option maxHeartbeats 4000000 in
theorem t_Sl_init (l0 : xN) (h : xH) (Q : xH → Prop) (H : p_Sl_init l0 h Q) : WP M_Sl_init 0 [(0, xr l0)] [] h 0 (qv Q) := by
  unfold p_Sl_init at H
  refine wp_aload_n 0 rfl rfl dX8_init_0 ?_
  obtain ⟨q1, H⟩ := H
  refine wp_oinit q1 lo_X8_3 op3.1 op3.2 (Nat.le_of_ble_eq_true rfl) (Nat.le_of_ble_eq_true rfl) (Nat.le_of_ble_eq_true rfl) dX8_init_1 ?_
  refine wp_aload_n 0 rfl rfl dX8_init_4 ?_
  refine wp_bipush (8 : Int32) (by decide) dX8_init_5 ?_
  obtain ⟨q2, H⟩ := H
  refine wp_newai ((26, l0.2) : xN) (8) (by decide) rfl q2 1 ⟨(Nat.le_of_ble_eq_true rfl), (Nat.le_of_ble_eq_true rfl), (Nat.le_of_ble_eq_true rfl)⟩ (Nat.le_of_ble_eq_true rfl) ac_int dX8_init_7 ?_
  refine wp_nh (fun h3 e4 => ?_)
  replace H := H h3 e4
  obtain ⟨q5, H⟩ := H
  refine wp_putrF coX8 0 (Nat.le_of_ble_eq_true rfl) fl_X8_9 rfl rfl ⟨rfl, by decide⟩ rfl (Or.inr ⟨_, rfl⟩) q5 (by intro z; cases z) dX8_init_9 ?_
  refine wp_nh (fun h6 e7 => ?_)
  replace H := H h6 e7
  refine wp_aload_n 0 rfl rfl dX8_init_12 ?_
  refine WP.at 13 rfl ?_
  refine wp_iconst (0 : Int32) (by decide) dX8_init_13 ?_
  refine wp_puti coX8 1 (Nat.le_of_ble_eq_true rfl) fl_X8_15 rfl rfl ⟨rfl, rfl⟩ q5 dX8_init_14 ?_
  refine wp_nh (fun h8 e9 => ?_)
  replace H := H h8 e9
  refine wp_aload_n 0 rfl rfl dX8_init_17 ?_
  refine wp_iconst (-1 : Int32) (by decide) dX8_init_18 ?_
  refine wp_puti coX8 2 (Nat.le_of_ble_eq_true rfl) fl_X8_19 rfl rfl ⟨rfl, rfl⟩ q5 dX8_init_19 ?_
  refine wp_nh (fun h10 e11 => ?_)
  replace H := H h10 e11
  exact wp_vret trivial dX8_init_22 H
def p_D_init_L20 (l0 : xN) (K20_45 : Nat → xH → Prop) (Q : xH → Prop) : Nat → Int32 → Nat → xH → Prop
  | 0, _, _, _ => False
  | f + 1, l1, k, h => (((12 : Int32) ≤ l1 → K20_45 (k) h) ∧ (¬ (12 : Int32) ≤ l1 → (kd l0.1 = (1, 1)) ∧ (hS h ((9, 12 * l0.2 + l1.toNatClampNeg) : xN) = 0) ∧ (k + 1 ≤ 25) ∧ ∀ h14 : xH, h14 = nW h ((9, 12 * l0.2 + l1.toNatClampNeg) : xN) 0 → (k + 2 ≤ 25) ∧ p_Sl_init ((9, 12 * l0.2 + l1.toNatClampNeg) : xN) h14 (fun h17 : xH => (kd (hR h l0 0).1 = (5, 7)) ∧ (vp_in l1 (hS h17 (hR h l0 0) - 1)) ∧ ∀ h20 : xH, h20 = sR h17 (hR h l0 0) l1.toNatClampNeg ((9, 12 * l0.2 + l1.toNatClampNeg) : xN) → ∀ v22 : Int32, v22 = l1 + (1 : Int32) → (p_D_init_L20 l0 K20_45 Q f) v22 (k + 2) h20)))
set_option maxRecDepth 100000 in
set_option maxHeartbeats 4000000 in
theorem t_D_init_L20 (l0 : xN) (K20_45 : Nat → xH → Prop) (Q : xH → Prop) (hK20_45 : ∀ (k : Nat) (h : xH), K20_45 k h → WP M_D_init 45 [] [] h k (qv Q)) : ∀ (f : Nat) (l1 : Int32) (k : Nat) (h : xH), p_D_init_L20 l0 K20_45 Q f l1 k h → WP M_D_init 20 [(0, xr l0), (1, xi l1)] [] h k (qv Q) := by
  intro f
  induction f with
  | zero => exact fun _ _ _ H => H.elim
  | succ f hB20 =>
    intro l1 k h H
    unfold p_D_init_L20 at H
    refine wp_iload_n 1 rfl rfl dX1_init_20 ?_
    refine wp_bipush (12 : Int32) (by decide) dX1_init_21 ?_
    refine WP.at 23 rfl ?_
    refine wp_icmp_ge 45 (by decide) dX1_init_23 (fun c10 => ?_) (fun c10 => ?_)
    · replace H := H.1 c10
      exact WP.pick [] rfl (hK20_45 (k) _ H)
    · replace H := H.2 c10
      refine wp_aload_n 0 rfl rfl dX1_init_26 ?_
      obtain ⟨q11, H⟩ := H
      refine wp_getr coX1 0 (Nat.le_of_ble_eq_true rfl) fl_X1_11 rfl q11 dX1_init_27 ?_
      refine wp_iload_n 1 rfl rfl dX1_init_30 ?_
      obtain ⟨q12, H⟩ := H
      obtain ⟨q13, H⟩ := H
      refine wp_new coX8 ((9, 12 * l0.2 + l1.toNatClampNeg) : xN) rfl q12 dfX8 (Nat.le_of_ble_eq_true rfl) q13 cl_X1_9.1 cl_X1_9.2.1 cl_X1_9.2.2 dX1_init_31 ?_
      refine wp_nh (fun h14 e15 => ?_)
      replace H := H h14 e15
      refine wp_dup rfl dX1_init_34 ?_
      refine WP.at 35 rfl ?_
      obtain ⟨q16, H⟩ := H
      refine wp_cN (M2 := M_Sl_init) ((9, 12 * l0.2 + l1.toNatClampNeg) : xN) (Nat.le_of_ble_eq_true rfl) [] rfl lN_X1_21 ⟨rfl, rfl⟩ mo_Sl_init (Nat.le_of_ble_eq_true rfl) ⟨(Nat.le_of_ble_eq_true rfl), (Nat.le_of_ble_eq_true rfl)⟩ (Nat.le_of_ble_eq_true rfl) q16 dX1_init_35 (t_Sl_init ((9, 12 * l0.2 + l1.toNatClampNeg) : xN) _ _ H) (fun h17 H => ?_)
      obtain ⟨q18, H⟩ := H
      obtain ⟨q19, H⟩ := H
      refine wp_aastore coX8 q18 (rfl : kd (((9, 12 * l0.2 + l1.toNatClampNeg) : xN)).1 = (1, 7)) q19 dX1_init_38 ?_
      refine wp_nh (fun h20 e21 => ?_)
      replace H := H h20 e21
      refine WP.at 39 rfl ?_
      refine wp_iincN (1 : Int32) (by decide) rfl (Nat.le_of_ble_eq_true rfl) dX1_init_39 (ls' := fun v22 => [(1, xi v22), (0, xr l0)]) (fun _ => rfl) (fun v22 e23 => ?_)
      replace H := H v22 e23
      refine WP.at 42 rfl ?_
      refine wp_goto 20 (by decide) dX1_init_42 ?_
      exact WP.pick [1, 0] rfl (hB20 v22 (k + 2) _ H)
def p_D_init (l0 : xN) (h : xH) (Q : xH → Prop) : Prop := (2 ≤ l0.1) ∧ (hS h ((14, l0.2) : xN) = 0) ∧ ∀ h3 : xH, h3 = nW h ((14, l0.2) : xN) (12) → (kd l0.1 = (1, 1)) ∧ ∀ h6 : xH, h6 = sR h3 l0 0 ((14, l0.2) : xN) → ∀ h8 : xH, h8 = sI h6 l0 1 (-1 : Int32) → (∃ f26, p_D_init_L20 l0 (fun (k24 : Nat) (h25 : xH) => Q h25) Q f26 (0 : Int32) (1) h8)
set_option maxRecDepth 100000 in
set_option maxHeartbeats 4000000 in
theorem t_D_init (l0 : xN) (h : xH) (Q : xH → Prop) (H : p_D_init l0 h Q) : WP M_D_init 0 [(0, xr l0)] [] h 0 (qv Q) := by
  unfold p_D_init at H
  refine wp_aload_n 0 rfl rfl dX1_init_0 ?_
  obtain ⟨q1, H⟩ := H
  refine wp_oinit q1 lo_X1_3 op3.1 op3.2 (Nat.le_of_ble_eq_true rfl) (Nat.le_of_ble_eq_true rfl) (Nat.le_of_ble_eq_true rfl) dX1_init_1 ?_
  refine wp_aload_n 0 rfl rfl dX1_init_4 ?_
  refine wp_bipush (12 : Int32) (by decide) dX1_init_5 ?_
  obtain ⟨q2, H⟩ := H
  refine wp_newar coX8 ((14, l0.2) : xN) (12) (by decide) rfl q2 (Nat.le_of_ble_eq_true rfl) (Nat.le_of_ble_eq_true rfl) cla_X1_9.1 cla_X1_9.2 dX1_init_7 ?_
  refine wp_nh (fun h3 e4 => ?_)
  replace H := H h3 e4
  obtain ⟨q5, H⟩ := H
  refine wp_putrF coX1 0 (Nat.le_of_ble_eq_true rfl) fl_X1_11 rfl rfl ⟨rfl, by decide⟩ rfl (Or.inr ⟨_, rfl⟩) q5 (by intro z; cases z) dX1_init_10 ?_
  refine wp_nh (fun h6 e7 => ?_)
  replace H := H h6 e7
  refine wp_aload_n 0 rfl rfl dX1_init_13 ?_
  refine WP.at 14 rfl ?_
  refine wp_iconst (-1 : Int32) (by decide) dX1_init_14 ?_
  refine wp_puti coX1 1 (Nat.le_of_ble_eq_true rfl) fl_X1_17 rfl rfl ⟨rfl, rfl⟩ q5 dX1_init_15 ?_
  refine wp_nh (fun h8 e9 => ?_)
  replace H := H h8 e9
  refine wp_iconst (0 : Int32) (by decide) dX1_init_18 ?_
  refine wp_istore_n 1 rfl (Nat.le_of_ble_eq_true rfl) dX1_init_19 (ls' := [(1, xi (0 : Int32)), (0, xr l0)]) rfl ?_
  refine WP.at 20 rfl ?_
  obtain ⟨f26, H⟩ := H
  refine WP.pick [1, 0] rfl (t_D_init_L20 l0 _ Q ?_ f26 (0 : Int32) (1) _ H)
  · intro k24 h25 H
    exact wp_vret trivial dX1_init_45 H
def p_Sa_init (l0 : xN) (h : xH) (Q : xH → Prop) : Prop := (2 ≤ l0.1) ∧ (hS h ((23, l0.2) : xN) = 0) ∧ ∀ h3 : xH, h3 = nW h ((23, l0.2) : xN) (10) → (kd l0.1 = (1, 5)) ∧ ∀ h6 : xH, h6 = sR h3 l0 0 ((23, l0.2) : xN) → ∀ h8 : xH, h8 = sI h6 l0 2 (-1 : Int32) → Q h8
set_option maxRecDepth 100000 in
set_option maxHeartbeats 4000000 in
theorem t_Sa_init (l0 : xN) (h : xH) (Q : xH → Prop) (H : p_Sa_init l0 h Q) : WP M_Sa_init 0 [(0, xr l0)] [] h 0 (qv Q) := by
  unfold p_Sa_init at H
  refine wp_aload_n 0 rfl rfl dX6_init_0 ?_
  obtain ⟨q1, H⟩ := H
  refine wp_oinit q1 lo_X6_3 op3.1 op3.2 (Nat.le_of_ble_eq_true rfl) (Nat.le_of_ble_eq_true rfl) (Nat.le_of_ble_eq_true rfl) dX6_init_1 ?_
  refine wp_aload_n 0 rfl rfl dX6_init_4 ?_
  refine wp_bipush (10 : Int32) (by decide) dX6_init_5 ?_
  obtain ⟨q2, H⟩ := H
  refine wp_newai ((23, l0.2) : xN) (10) (by decide) rfl q2 1 ⟨(Nat.le_of_ble_eq_true rfl), (Nat.le_of_ble_eq_true rfl), (Nat.le_of_ble_eq_true rfl)⟩ (Nat.le_of_ble_eq_true rfl) ac_int dX6_init_7 ?_
  refine wp_nh (fun h3 e4 => ?_)
  replace H := H h3 e4
  obtain ⟨q5, H⟩ := H
  refine wp_putrF coX6 0 (Nat.le_of_ble_eq_true rfl) fl_X6_9 rfl rfl ⟨rfl, by decide⟩ rfl (Or.inr ⟨_, rfl⟩) q5 (by intro z; cases z) dX6_init_9 ?_
  refine wp_nh (fun h6 e7 => ?_)
  replace H := H h6 e7
  refine wp_aload_n 0 rfl rfl dX6_init_12 ?_
  refine WP.at 13 rfl ?_
  refine wp_iconst (-1 : Int32) (by decide) dX6_init_13 ?_
  refine wp_puti coX6 2 (Nat.le_of_ble_eq_true rfl) fl_X6_15 rfl rfl ⟨rfl, rfl⟩ q5 dX6_init_14 ?_
  refine wp_nh (fun h8 e9 => ?_)
  replace H := H h8 e9
  exact wp_vret trivial dX6_init_17 H
def p_T_init_L100 (l0 : xN) (K100_125 : Nat → xH → Prop) (Q : xH → Prop) : Nat → Int32 → Nat → xH → Prop
  | 0, _, _, _ => False
  | f + 1, l1, k, h => (((6 : Int32) ≤ l1 → K100_125 (k) h) ∧ (¬ (6 : Int32) ≤ l1 → (kd l0.1 = (1, 9)) ∧ (hS h ((3, l1.toNatClampNeg) : xN) = 0) ∧ (k + 1 ≤ 179) ∧ ∀ h60 : xH, h60 = nW h ((3, l1.toNatClampNeg) : xN) 0 → (k + 26 ≤ 179) ∧ p_D_init ((3, l1.toNatClampNeg) : xN) h60 (fun h63 : xH => (kd (hR h l0 3).1 = (5, 1)) ∧ (vp_in l1 (hS h63 (hR h l0 3) - 1)) ∧ ∀ h66 : xH, h66 = sR h63 (hR h l0 3) l1.toNatClampNeg ((3, l1.toNatClampNeg) : xN) → ∀ v68 : Int32, v68 = l1 + (1 : Int32) → (p_T_init_L100 l0 K100_125 Q f) v68 (k + 26) h66)))
set_option maxRecDepth 100000 in
set_option maxHeartbeats 4000000 in
theorem t_T_init_L100 (l0 : xN) (K100_125 : Nat → xH → Prop) (Q : xH → Prop) (hK100_125 : ∀ (k : Nat) (h : xH), K100_125 k h → WP M_T_init 125 [(0, xr l0)] [] h k (qv Q)) : ∀ (f : Nat) (l1 : Int32) (k : Nat) (h : xH), p_T_init_L100 l0 K100_125 Q f l1 k h → WP M_T_init 100 [(0, xr l0), (1, xi l1)] [] h k (qv Q) := by
  intro f
  induction f with
  | zero => exact fun _ _ _ H => H.elim
  | succ f hB100 =>
    intro l1 k h H
    unfold p_T_init_L100 at H
    refine wp_iload_n 1 rfl rfl dX10_init_100 ?_
    refine wp_bipush (6 : Int32) (by decide) dX10_init_101 ?_
    refine WP.at 103 rfl ?_
    refine wp_icmp_ge 125 (by decide) dX10_init_103 (fun c56 => ?_) (fun c56 => ?_)
    · replace H := H.1 c56
      exact WP.pick [0] rfl (hK100_125 (k) _ H)
    · replace H := H.2 c56
      refine wp_aload_n 0 rfl rfl dX10_init_106 ?_
      obtain ⟨q57, H⟩ := H
      refine wp_getr coX10 3 (Nat.le_of_ble_eq_true rfl) fl_X10_29 rfl q57 dX10_init_107 ?_
      refine wp_iload_n 1 rfl rfl dX10_init_110 ?_
      obtain ⟨q58, H⟩ := H
      obtain ⟨q59, H⟩ := H
      refine wp_new coX1 ((3, l1.toNatClampNeg) : xN) rfl q58 dfX1 (Nat.le_of_ble_eq_true rfl) q59 cl_X10_27.1 cl_X10_27.2.1 cl_X10_27.2.2 dX10_init_111 ?_
      refine wp_nh (fun h60 e61 => ?_)
      replace H := H h60 e61
      refine wp_dup rfl dX10_init_114 ?_
      refine WP.at 115 rfl ?_
      obtain ⟨q62, H⟩ := H
      refine wp_cI (M2 := M_D_init) ((3, l1.toNatClampNeg) : xN) (Nat.le_of_ble_eq_true rfl) [] rfl lI_X10_67 ⟨rfl, rfl⟩ mo_D_init (Nat.le_of_ble_eq_true rfl) ⟨(Nat.le_of_ble_eq_true rfl), (Nat.le_of_ble_eq_true rfl)⟩ (Nat.le_of_ble_eq_true rfl) q62 dX10_init_115 (t_D_init ((3, l1.toNatClampNeg) : xN) _ _ H) (fun h63 H => ?_)
      obtain ⟨q64, H⟩ := H
      obtain ⟨q65, H⟩ := H
      refine wp_aastore coX1 q64 (rfl : kd (((3, l1.toNatClampNeg) : xN)).1 = (1, 1)) q65 dX10_init_118 ?_
      refine wp_nh (fun h66 e67 => ?_)
      replace H := H h66 e67
      refine WP.at 119 rfl ?_
      refine wp_iincN (1 : Int32) (by decide) rfl (Nat.le_of_ble_eq_true rfl) dX10_init_119 (ls' := fun v68 => [(1, xi v68), (0, xr l0)]) (fun _ => rfl) (fun v68 e69 => ?_)
      replace H := H v68 e69
      refine WP.at 122 rfl ?_
      refine wp_goto 100 (by decide) dX10_init_122 ?_
      exact WP.pick [1, 0] rfl (hB100 v68 (k + 26) _ H)
def p_T_init_L127 (l0 : xN) (K127_151 : Nat → xH → Prop) (Q : xH → Prop) : Nat → Int32 → Nat → xH → Prop
  | 0, _, _, _ => False
  | f + 1, l1, k, h => (((4 : Int32) ≤ l1 → K127_151 (k) h) ∧ (¬ (4 : Int32) ≤ l1 → (kd l0.1 = (1, 9)) ∧ (hS h ((7, l1.toNatClampNeg) : xN) = 0) ∧ (k + 1 ≤ 179) ∧ ∀ h76 : xH, h76 = nW h ((7, l1.toNatClampNeg) : xN) 0 → (k + 2 ≤ 179) ∧ p_Sa_init ((7, l1.toNatClampNeg) : xN) h76 (fun h79 : xH => (kd (hR h l0 4).1 = (5, 5)) ∧ (vp_in l1 (hS h79 (hR h l0 4) - 1)) ∧ ∀ h82 : xH, h82 = sR h79 (hR h l0 4) l1.toNatClampNeg ((7, l1.toNatClampNeg) : xN) → ∀ v84 : Int32, v84 = l1 + (1 : Int32) → (p_T_init_L127 l0 K127_151 Q f) v84 (k + 2) h82)))
set_option maxRecDepth 100000 in
set_option maxHeartbeats 4000000 in
theorem t_T_init_L127 (l0 : xN) (K127_151 : Nat → xH → Prop) (Q : xH → Prop) (hK127_151 : ∀ (k : Nat) (h : xH), K127_151 k h → WP M_T_init 151 [] [] h k (qv Q)) : ∀ (f : Nat) (l1 : Int32) (k : Nat) (h : xH), p_T_init_L127 l0 K127_151 Q f l1 k h → WP M_T_init 127 [(0, xr l0), (1, xi l1)] [] h k (qv Q) := by
  intro f
  induction f with
  | zero => exact fun _ _ _ H => H.elim
  | succ f hB127 =>
    intro l1 k h H
    unfold p_T_init_L127 at H
    refine wp_iload_n 1 rfl rfl dX10_init_127 ?_
    refine wp_iconst (4 : Int32) (by decide) dX10_init_128 ?_
    refine WP.at 129 rfl ?_
    refine wp_icmp_ge 151 (by decide) dX10_init_129 (fun c72 => ?_) (fun c72 => ?_)
    · replace H := H.1 c72
      exact WP.pick [] rfl (hK127_151 (k) _ H)
    · replace H := H.2 c72
      refine wp_aload_n 0 rfl rfl dX10_init_132 ?_
      obtain ⟨q73, H⟩ := H
      refine wp_getr coX10 4 (Nat.le_of_ble_eq_true rfl) fl_X10_35 rfl q73 dX10_init_133 ?_
      refine wp_iload_n 1 rfl rfl dX10_init_136 ?_
      obtain ⟨q74, H⟩ := H
      obtain ⟨q75, H⟩ := H
      refine wp_new coX6 ((7, l1.toNatClampNeg) : xN) rfl q74 dfX6 (Nat.le_of_ble_eq_true rfl) q75 cl_X10_33.1 cl_X10_33.2.1 cl_X10_33.2.2 dX10_init_137 ?_
      refine wp_nh (fun h76 e77 => ?_)
      replace H := H h76 e77
      refine wp_dup rfl dX10_init_140 ?_
      refine WP.at 141 rfl ?_
      obtain ⟨q78, H⟩ := H
      refine wp_cN (M2 := M_Sa_init) ((7, l1.toNatClampNeg) : xN) (Nat.le_of_ble_eq_true rfl) [] rfl lN_X10_68 ⟨rfl, rfl⟩ mo_Sa_init (Nat.le_of_ble_eq_true rfl) ⟨(Nat.le_of_ble_eq_true rfl), (Nat.le_of_ble_eq_true rfl)⟩ (Nat.le_of_ble_eq_true rfl) q78 dX10_init_141 (t_Sa_init ((7, l1.toNatClampNeg) : xN) _ _ H) (fun h79 H => ?_)
      obtain ⟨q80, H⟩ := H
      obtain ⟨q81, H⟩ := H
      refine wp_aastore coX6 q80 (rfl : kd (((7, l1.toNatClampNeg) : xN)).1 = (1, 5)) q81 dX10_init_144 ?_
      refine wp_nh (fun h82 e83 => ?_)
      replace H := H h82 e83
      refine WP.at 145 rfl ?_
      refine wp_iincN (1 : Int32) (by decide) rfl (Nat.le_of_ble_eq_true rfl) dX10_init_145 (ls' := fun v84 => [(1, xi v84), (0, xr l0)]) (fun _ => rfl) (fun v84 e85 => ?_)
      replace H := H v84 e85
      refine WP.at 148 rfl ?_
      refine wp_goto 127 (by decide) dX10_init_148 ?_
      exact WP.pick [1, 0] rfl (hB127 v84 (k + 2) _ H)
def p_T_init (l0 : xN) (h : xH) (Q : xH → Prop) : Prop := (2 ≤ l0.1) ∧ (hS h ((27, l0.2) : xN) = 0) ∧ ∀ h3 : xH, h3 = nW h ((27, l0.2) : xN) (12) → (kd l0.1 = (1, 9)) ∧ ∀ h6 : xH, h6 = sR h3 l0 0 ((27, l0.2) : xN) → (hS h6 ((28, l0.2) : xN) = 0) ∧ ∀ h9 : xH, h9 = nW h6 ((28, l0.2) : xN) (49) → ∀ h11 : xH, h11 = sR h9 l0 1 ((28, l0.2) : xN) → (hS h11 ((29, l0.2) : xN) = 0) ∧ ∀ h14 : xH, h14 = nW h11 ((29, l0.2) : xN) (200) → ∀ h16 : xH, h16 = sR h14 l0 2 ((29, l0.2) : xN) → (hS h16 ((30, l0.2) : xN) = 0) ∧ ∀ h19 : xH, h19 = nW h16 ((30, l0.2) : xN) (6) → ∀ h21 : xH, h21 = sR h19 l0 3 ((30, l0.2) : xN) → (hS h21 ((31, l0.2) : xN) = 0) ∧ ∀ h24 : xH, h24 = nW h21 ((31, l0.2) : xN) (4) → ∀ h26 : xH, h26 = sR h24 l0 4 ((31, l0.2) : xN) → (hS h26 ((2, 0) : xN) = 0) ∧ ∀ h29 : xH, h29 = nW h26 ((2, 0) : xN) 0 → p_B_init ((2, 0) : xN) h29 (fun h31 : xH => ∀ h32 : xH, h32 = sR h31 l0 5 ((2, 0) : xN) → (hS h32 ((4, 99) : xN) = 0) ∧ ∀ h35 : xH, h35 = nW h32 ((4, 99) : xN) 0 → p_F_init ((4, 99) : xN) h35 (fun h37 : xH => ∀ h38 : xH, h38 = sR h37 l0 6 ((4, 99) : xN) → (hS h38 ((8, 0) : xN) = 0) ∧ ∀ h41 : xH, h41 = nW h38 ((8, 0) : xN) 0 → p_Se_init ((8, 0) : xN) h41 (fun h43 : xH => ∀ h44 : xH, h44 = sR h43 l0 7 ((8, 0) : xN) → (hS h44 ((32, l0.2) : xN) = 0) ∧ ∀ h47 : xH, h47 = nW h44 ((32, l0.2) : xN) (10) → ∀ h49 : xH, h49 = sR h47 l0 8 ((32, l0.2) : xN) → (hS h49 ((33, l0.2) : xN) = 0) ∧ ∀ h52 : xH, h52 = nW h49 ((33, l0.2) : xN) (7) → ∀ h54 : xH, h54 = sR h52 l0 9 ((33, l0.2) : xN) → (∃ f89, p_T_init_L100 l0 (fun (k70 : Nat) (h71 : xH) => (∃ f88, p_T_init_L127 l0 (fun (k86 : Nat) (h87 : xH) => Q h87) Q f88 (0 : Int32) (k70) h71)) Q f89 (0 : Int32) (15) h54))))
set_option maxRecDepth 100000 in
set_option maxHeartbeats 4000000 in
theorem t_T_init (l0 : xN) (h : xH) (Q : xH → Prop) (H : p_T_init l0 h Q) : WP M_T_init 0 [(0, xr l0)] [] h 0 (qv Q) := by
  unfold p_T_init at H
  refine wp_aload_n 0 rfl rfl dX10_init_0 ?_
  obtain ⟨q1, H⟩ := H
  refine wp_oinit q1 lo_X10_1 op3.1 op3.2 (Nat.le_of_ble_eq_true rfl) (Nat.le_of_ble_eq_true rfl) (Nat.le_of_ble_eq_true rfl) dX10_init_1 ?_
  refine wp_aload_n 0 rfl rfl dX10_init_4 ?_
  refine wp_bipush (12 : Int32) (by decide) dX10_init_5 ?_
  obtain ⟨q2, H⟩ := H
  refine wp_newar coX5 ((27, l0.2) : xN) (12) (by decide) rfl q2 (Nat.le_of_ble_eq_true rfl) (Nat.le_of_ble_eq_true rfl) cla_X10_9.1 cla_X10_9.2 dX10_init_7 ?_
  refine wp_nh (fun h3 e4 => ?_)
  replace H := H h3 e4
  obtain ⟨q5, H⟩ := H
  refine wp_putrF coX10 0 (Nat.le_of_ble_eq_true rfl) fl_X10_11 rfl rfl ⟨rfl, by decide⟩ rfl (Or.inr ⟨_, rfl⟩) q5 (by intro z; cases z) dX10_init_10 ?_
  refine wp_nh (fun h6 e7 => ?_)
  replace H := H h6 e7
  refine wp_aload_n 0 rfl rfl dX10_init_13 ?_
  refine WP.at 14 rfl ?_
  refine wp_bipush (49 : Int32) (by decide) dX10_init_14 ?_
  obtain ⟨q8, H⟩ := H
  refine wp_newar coX4 ((28, l0.2) : xN) (49) (by decide) rfl q8 (Nat.le_of_ble_eq_true rfl) (Nat.le_of_ble_eq_true rfl) cla_X10_15.1 cla_X10_15.2 dX10_init_16 ?_
  refine wp_nh (fun h9 e10 => ?_)
  replace H := H h9 e10
  refine wp_putrF coX10 1 (Nat.le_of_ble_eq_true rfl) fl_X10_17 rfl rfl ⟨rfl, by decide⟩ rfl (Or.inr ⟨_, rfl⟩) q5 (by intro z; cases z) dX10_init_19 ?_
  refine wp_nh (fun h11 e12 => ?_)
  replace H := H h11 e12
  refine wp_aload_n 0 rfl rfl dX10_init_22 ?_
  refine wp_sipush (200 : Int32) (by decide) dX10_init_23 ?_
  obtain ⟨q13, H⟩ := H
  refine wp_newar coX9 ((29, l0.2) : xN) (200) (by decide) rfl q13 (Nat.le_of_ble_eq_true rfl) (Nat.le_of_ble_eq_true rfl) cla_X10_21.1 cla_X10_21.2 dX10_init_26 ?_
  refine wp_nh (fun h14 e15 => ?_)
  replace H := H h14 e15
  refine wp_putrF coX10 2 (Nat.le_of_ble_eq_true rfl) fl_X10_23 rfl rfl ⟨rfl, by decide⟩ rfl (Or.inr ⟨_, rfl⟩) q5 (by intro z; cases z) dX10_init_29 ?_
  refine wp_nh (fun h16 e17 => ?_)
  replace H := H h16 e17
  refine wp_aload_n 0 rfl rfl dX10_init_32 ?_
  refine WP.at 33 rfl ?_
  refine wp_bipush (6 : Int32) (by decide) dX10_init_33 ?_
  obtain ⟨q18, H⟩ := H
  refine wp_newar coX1 ((30, l0.2) : xN) (6) (by decide) rfl q18 (Nat.le_of_ble_eq_true rfl) (Nat.le_of_ble_eq_true rfl) cla_X10_27.1 cla_X10_27.2 dX10_init_35 ?_
  refine wp_nh (fun h19 e20 => ?_)
  replace H := H h19 e20
  refine wp_putrF coX10 3 (Nat.le_of_ble_eq_true rfl) fl_X10_29 rfl rfl ⟨rfl, by decide⟩ rfl (Or.inr ⟨_, rfl⟩) q5 (by intro z; cases z) dX10_init_38 ?_
  refine wp_nh (fun h21 e22 => ?_)
  replace H := H h21 e22
  refine wp_aload_n 0 rfl rfl dX10_init_41 ?_
  refine wp_iconst (4 : Int32) (by decide) dX10_init_42 ?_
  obtain ⟨q23, H⟩ := H
  refine wp_newar coX6 ((31, l0.2) : xN) (4) (by decide) rfl q23 (Nat.le_of_ble_eq_true rfl) (Nat.le_of_ble_eq_true rfl) cla_X10_33.1 cla_X10_33.2 dX10_init_43 ?_
  refine wp_nh (fun h24 e25 => ?_)
  replace H := H h24 e25
  refine wp_putrF coX10 4 (Nat.le_of_ble_eq_true rfl) fl_X10_35 rfl rfl ⟨rfl, by decide⟩ rfl (Or.inr ⟨_, rfl⟩) q5 (by intro z; cases z) dX10_init_46 ?_
  refine wp_nh (fun h26 e27 => ?_)
  replace H := H h26 e27
  refine wp_aload_n 0 rfl rfl dX10_init_49 ?_
  refine WP.at 50 rfl ?_
  obtain ⟨q28, H⟩ := H
  refine wp_new coX0 ((2, 0) : xN) rfl q28 dfX0 (Nat.le_of_ble_eq_true rfl) (Nat.le_of_ble_eq_true rfl) cl_X10_39.1 cl_X10_39.2.1 cl_X10_39.2.2 dX10_init_50 ?_
  refine wp_nh (fun h29 e30 => ?_)
  replace H := H h29 e30
  refine wp_dup rfl dX10_init_53 ?_
  refine WP.at 54 rfl ?_
  refine wp_cN (M2 := M_B_init) ((2, 0) : xN) (Nat.le_of_ble_eq_true rfl) [] rfl lN_X10_41 ⟨rfl, rfl⟩ mo_B_init (Nat.le_of_ble_eq_true rfl) ⟨(Nat.le_of_ble_eq_true rfl), (Nat.le_of_ble_eq_true rfl)⟩ (Nat.le_of_ble_eq_true rfl) (Nat.le_of_ble_eq_true rfl) dX10_init_54 (t_B_init ((2, 0) : xN) _ _ H) (fun h31 H => ?_)
  refine wp_putrF coX10 5 (Nat.le_of_ble_eq_true rfl) fl_X10_42 rfl rfl ⟨rfl, by decide⟩ rfl (Or.inl ⟨_, rfl⟩) q5 (by decide) dX10_init_57 ?_
  refine wp_nh (fun h32 e33 => ?_)
  replace H := H h32 e33
  refine wp_aload_n 0 rfl rfl dX10_init_60 ?_
  obtain ⟨q34, H⟩ := H
  refine wp_new coX2 ((4, 99) : xN) rfl q34 dfX2 (Nat.le_of_ble_eq_true rfl) (Nat.le_of_ble_eq_true rfl) cl_X10_46.1 cl_X10_46.2.1 cl_X10_46.2.2 dX10_init_61 ?_
  refine wp_nh (fun h35 e36 => ?_)
  replace H := H h35 e36
  refine wp_dup rfl dX10_init_64 ?_
  refine WP.at 65 rfl ?_
  refine wp_cN (M2 := M_F_init) ((4, 99) : xN) (Nat.le_of_ble_eq_true rfl) [] rfl lN_X10_48 ⟨rfl, rfl⟩ mo_F_init (Nat.le_of_ble_eq_true rfl) ⟨(Nat.le_of_ble_eq_true rfl), (Nat.le_of_ble_eq_true rfl)⟩ (Nat.le_of_ble_eq_true rfl) (Nat.le_of_ble_eq_true rfl) dX10_init_65 (t_F_init ((4, 99) : xN) _ _ H) (fun h37 H => ?_)
  refine WP.at 68 rfl ?_
  refine wp_putrF coX10 6 (Nat.le_of_ble_eq_true rfl) fl_X10_49 rfl rfl ⟨rfl, by decide⟩ rfl (Or.inl ⟨_, rfl⟩) q5 (by decide) dX10_init_68 ?_
  refine wp_nh (fun h38 e39 => ?_)
  replace H := H h38 e39
  refine wp_aload_n 0 rfl rfl dX10_init_71 ?_
  obtain ⟨q40, H⟩ := H
  refine wp_new coX7 ((8, 0) : xN) rfl q40 dfX7 (Nat.le_of_ble_eq_true rfl) (Nat.le_of_ble_eq_true rfl) cl_X10_53.1 cl_X10_53.2.1 cl_X10_53.2.2 dX10_init_72 ?_
  refine wp_nh (fun h41 e42 => ?_)
  replace H := H h41 e42
  refine wp_dup rfl dX10_init_75 ?_
  refine WP.at 76 rfl ?_
  refine wp_cN (M2 := M_Se_init) ((8, 0) : xN) (Nat.le_of_ble_eq_true rfl) [] rfl lN_X10_55 ⟨rfl, rfl⟩ mo_Se_init (Nat.le_of_ble_eq_true rfl) ⟨(Nat.le_of_ble_eq_true rfl), (Nat.le_of_ble_eq_true rfl)⟩ (Nat.le_of_ble_eq_true rfl) (Nat.le_of_ble_eq_true rfl) dX10_init_76 (t_Se_init ((8, 0) : xN) _ _ H) (fun h43 H => ?_)
  refine wp_putrF coX10 7 (Nat.le_of_ble_eq_true rfl) fl_X10_56 rfl rfl ⟨rfl, by decide⟩ rfl (Or.inl ⟨_, rfl⟩) q5 (by decide) dX10_init_79 ?_
  refine wp_nh (fun h44 e45 => ?_)
  replace H := H h44 e45
  refine wp_aload_n 0 rfl rfl dX10_init_82 ?_
  refine wp_bipush (10 : Int32) (by decide) dX10_init_83 ?_
  refine WP.at 85 rfl ?_
  obtain ⟨q46, H⟩ := H
  refine wp_newai ((32, l0.2) : xN) (10) (by decide) rfl q46 1 ⟨(Nat.le_of_ble_eq_true rfl), (Nat.le_of_ble_eq_true rfl), (Nat.le_of_ble_eq_true rfl)⟩ (Nat.le_of_ble_eq_true rfl) ac_int dX10_init_85 ?_
  refine wp_nh (fun h47 e48 => ?_)
  replace H := H h47 e48
  refine wp_putrF coX10 8 (Nat.le_of_ble_eq_true rfl) fl_X10_60 rfl rfl ⟨rfl, by decide⟩ rfl (Or.inr ⟨_, rfl⟩) q5 (by intro z; cases z) dX10_init_87 ?_
  refine wp_nh (fun h49 e50 => ?_)
  replace H := H h49 e50
  refine wp_aload_n 0 rfl rfl dX10_init_90 ?_
  refine wp_bipush (7 : Int32) (by decide) dX10_init_91 ?_
  obtain ⟨q51, H⟩ := H
  refine wp_newai ((33, l0.2) : xN) (7) (by decide) rfl q51 1 ⟨(Nat.le_of_ble_eq_true rfl), (Nat.le_of_ble_eq_true rfl), (Nat.le_of_ble_eq_true rfl)⟩ (Nat.le_of_ble_eq_true rfl) ac_int dX10_init_93 ?_
  refine wp_nh (fun h52 e53 => ?_)
  replace H := H h52 e53
  refine wp_putrF coX10 9 (Nat.le_of_ble_eq_true rfl) fl_X10_64 rfl rfl ⟨rfl, by decide⟩ rfl (Or.inr ⟨_, rfl⟩) q5 (by intro z; cases z) dX10_init_95 ?_
  refine wp_nh (fun h54 e55 => ?_)
  replace H := H h54 e55
  refine wp_iconst (0 : Int32) (by decide) dX10_init_98 ?_
  refine wp_istore_n 1 rfl (Nat.le_of_ble_eq_true rfl) dX10_init_99 (ls' := [(1, xi (0 : Int32)), (0, xr l0)]) rfl ?_
  refine WP.at 100 rfl ?_
  obtain ⟨f89, H⟩ := H
  refine WP.pick [1, 0] rfl (t_T_init_L100 l0 _ Q ?_ f89 (0 : Int32) (15) _ H)
  · intro k70 h71 H
    refine wp_iconst (0 : Int32) (by decide) dX10_init_125 ?_
    refine wp_istore_n 1 rfl (Nat.le_of_ble_eq_true rfl) dX10_init_126 (ls' := [(1, xi (0 : Int32)), (0, xr l0)]) rfl ?_
    refine WP.at 127 rfl ?_
    obtain ⟨f88, H⟩ := H
    refine WP.pick [1, 0] rfl (t_T_init_L127 l0 _ Q ?_ f88 (0 : Int32) (k70) _ H)
    · intro k86 h87 H
      exact wp_vret trivial dX10_init_151 H
def p_M_init (l0 : xN) (h : xH) (Q : xH → Prop) : Prop := (2 ≤ l0.1) ∧ (hS h ((35, l0.2) : xN) = 0) ∧ ∀ h3 : xH, h3 = nW h ((35, l0.2) : xN) (12) → (kd l0.1 = (1, 10)) ∧ ∀ h6 : xH, h6 = sR h3 l0 1 ((35, l0.2) : xN) → (hS h6 ((36, l0.2) : xN) = 0) ∧ ∀ h9 : xH, h9 = nW h6 ((36, l0.2) : xN) (12) → ∀ h11 : xH, h11 = sR h9 l0 2 ((36, l0.2) : xN) → (hS h11 ((37, l0.2) : xN) = 0) ∧ ∀ h14 : xH, h14 = nW h11 ((37, l0.2) : xN) (12) → ∀ h16 : xH, h16 = sR h14 l0 3 ((37, l0.2) : xN) → (hS h16 ((38, l0.2) : xN) = 0) ∧ ∀ h19 : xH, h19 = nW h16 ((38, l0.2) : xN) (156) → ∀ h21 : xH, h21 = sR h19 l0 4 ((38, l0.2) : xN) → (hS h21 ((39, l0.2) : xN) = 0) ∧ ∀ h24 : xH, h24 = nW h21 ((39, l0.2) : xN) (156) → ∀ h26 : xH, h26 = sR h24 l0 5 ((39, l0.2) : xN) → (hS h26 ((40, l0.2) : xN) = 0) ∧ ∀ h29 : xH, h29 = nW h26 ((40, l0.2) : xN) (49) → ∀ h31 : xH, h31 = sR h29 l0 6 ((40, l0.2) : xN) → (hS h31 ((41, l0.2) : xN) = 0) ∧ ∀ h34 : xH, h34 = nW h31 ((41, l0.2) : xN) (49) → ∀ h36 : xH, h36 = sR h34 l0 7 ((41, l0.2) : xN) → (hS h36 ((42, l0.2) : xN) = 0) ∧ ∀ h39 : xH, h39 = nW h36 ((42, l0.2) : xN) (49) → ∀ h41 : xH, h41 = sR h39 l0 8 ((42, l0.2) : xN) → (hS h41 ((43, l0.2) : xN) = 0) ∧ ∀ h44 : xH, h44 = nW h41 ((43, l0.2) : xN) (49) → ∀ h46 : xH, h46 = sR h44 l0 9 ((43, l0.2) : xN) → (hS h46 ((46, l0.2) : xN) = 0) ∧ ∀ h49 : xH, h49 = nW h46 ((46, l0.2) : xN) (49) → ∀ h51 : xH, h51 = sR h49 l0 12 ((46, l0.2) : xN) → (hS h51 ((47, l0.2) : xN) = 0) ∧ ∀ h54 : xH, h54 = nW h51 ((47, l0.2) : xN) (49) → ∀ h56 : xH, h56 = sR h54 l0 13 ((47, l0.2) : xN) → (hS h56 ((48, l0.2) : xN) = 0) ∧ ∀ h59 : xH, h59 = nW h56 ((48, l0.2) : xN) (49) → ∀ h61 : xH, h61 = sR h59 l0 14 ((48, l0.2) : xN) → (hS h61 ((49, l0.2) : xN) = 0) ∧ ∀ h64 : xH, h64 = nW h61 ((49, l0.2) : xN) (49) → ∀ h66 : xH, h66 = sR h64 l0 15 ((49, l0.2) : xN) → (hS h66 ((50, l0.2) : xN) = 0) ∧ ∀ h69 : xH, h69 = nW h66 ((50, l0.2) : xN) (49) → ∀ h71 : xH, h71 = sR h69 l0 16 ((50, l0.2) : xN) → (hS h71 ((51, l0.2) : xN) = 0) ∧ ∀ h74 : xH, h74 = nW h71 ((51, l0.2) : xN) (49) → ∀ h76 : xH, h76 = sR h74 l0 17 ((51, l0.2) : xN) → (hS h76 ((52, l0.2) : xN) = 0) ∧ ∀ h79 : xH, h79 = nW h76 ((52, l0.2) : xN) (49) → ∀ h81 : xH, h81 = sR h79 l0 18 ((52, l0.2) : xN) → (hS h81 ((53, l0.2) : xN) = 0) ∧ ∀ h84 : xH, h84 = nW h81 ((53, l0.2) : xN) (49) → ∀ h86 : xH, h86 = sR h84 l0 19 ((53, l0.2) : xN) → (hS h86 ((54, l0.2) : xN) = 0) ∧ ∀ h89 : xH, h89 = nW h86 ((54, l0.2) : xN) (49) → ∀ h91 : xH, h91 = sR h89 l0 20 ((54, l0.2) : xN) → (hS h91 ((55, l0.2) : xN) = 0) ∧ ∀ h94 : xH, h94 = nW h91 ((55, l0.2) : xN) (49) → ∀ h96 : xH, h96 = sR h94 l0 21 ((55, l0.2) : xN) → (hS h96 ((58, l0.2) : xN) = 0) ∧ ∀ h99 : xH, h99 = nW h96 ((58, l0.2) : xN) (200) → ∀ h101 : xH, h101 = sR h99 l0 24 ((58, l0.2) : xN) → (hS h101 ((59, l0.2) : xN) = 0) ∧ ∀ h104 : xH, h104 = nW h101 ((59, l0.2) : xN) (200) → ∀ h106 : xH, h106 = sR h104 l0 25 ((59, l0.2) : xN) → (hS h106 ((60, l0.2) : xN) = 0) ∧ ∀ h109 : xH, h109 = nW h106 ((60, l0.2) : xN) (200) → ∀ h111 : xH, h111 = sR h109 l0 26 ((60, l0.2) : xN) → (hS h111 ((61, l0.2) : xN) = 0) ∧ ∀ h114 : xH, h114 = nW h111 ((61, l0.2) : xN) (200) → ∀ h116 : xH, h116 = sR h114 l0 27 ((61, l0.2) : xN) → (hS h116 ((62, l0.2) : xN) = 0) ∧ ∀ h119 : xH, h119 = nW h116 ((62, l0.2) : xN) (200) → ∀ h121 : xH, h121 = sR h119 l0 28 ((62, l0.2) : xN) → (hS h121 ((63, l0.2) : xN) = 0) ∧ ∀ h124 : xH, h124 = nW h121 ((63, l0.2) : xN) (200) → ∀ h126 : xH, h126 = sR h124 l0 29 ((63, l0.2) : xN) → (hS h126 ((64, l0.2) : xN) = 0) ∧ ∀ h129 : xH, h129 = nW h126 ((64, l0.2) : xN) (200) → ∀ h131 : xH, h131 = sR h129 l0 30 ((64, l0.2) : xN) → (hS h131 ((65, l0.2) : xN) = 0) ∧ ∀ h134 : xH, h134 = nW h131 ((65, l0.2) : xN) (200) → ∀ h136 : xH, h136 = sR h134 l0 31 ((65, l0.2) : xN) → (hS h136 ((66, l0.2) : xN) = 0) ∧ ∀ h139 : xH, h139 = nW h136 ((66, l0.2) : xN) (200) → ∀ h141 : xH, h141 = sR h139 l0 32 ((66, l0.2) : xN) → (hS h141 ((67, l0.2) : xN) = 0) ∧ ∀ h144 : xH, h144 = nW h141 ((67, l0.2) : xN) (13) → ∀ h146 : xH, h146 = sR h144 l0 33 ((67, l0.2) : xN) → (hS h146 ((68, l0.2) : xN) = 0) ∧ ∀ h149 : xH, h149 = nW h146 ((68, l0.2) : xN) (13) → ∀ h151 : xH, h151 = sR h149 l0 34 ((68, l0.2) : xN) → (hS h151 ((70, l0.2) : xN) = 0) ∧ ∀ h154 : xH, h154 = nW h151 ((70, l0.2) : xN) (200) → ∀ h156 : xH, h156 = sR h154 l0 36 ((70, l0.2) : xN) → (hS h156 ((71, l0.2) : xN) = 0) ∧ ∀ h159 : xH, h159 = nW h156 ((71, l0.2) : xN) (200) → ∀ h161 : xH, h161 = sR h159 l0 37 ((71, l0.2) : xN) → (hS h161 ((72, l0.2) : xN) = 0) ∧ ∀ h164 : xH, h164 = nW h161 ((72, l0.2) : xN) (200) → ∀ h166 : xH, h166 = sR h164 l0 38 ((72, l0.2) : xN) → (hS h166 ((73, l0.2) : xN) = 0) ∧ ∀ h169 : xH, h169 = nW h166 ((73, l0.2) : xN) (200) → ∀ h171 : xH, h171 = sR h169 l0 39 ((73, l0.2) : xN) → (hS h171 ((74, l0.2) : xN) = 0) ∧ ∀ h174 : xH, h174 = nW h171 ((74, l0.2) : xN) (200) → ∀ h176 : xH, h176 = sR h174 l0 40 ((74, l0.2) : xN) → (hS h176 ((82, l0.2) : xN) = 0) ∧ ∀ h179 : xH, h179 = nW h176 ((82, l0.2) : xN) (5) → ∀ h181 : xH, h181 = sR h179 l0 48 ((82, l0.2) : xN) → (hS h181 ((84, l0.2) : xN) = 0) ∧ ∀ h184 : xH, h184 = nW h181 ((84, l0.2) : xN) (7) → ∀ h186 : xH, h186 = sR h184 l0 50 ((84, l0.2) : xN) → (hS h186 ((85, l0.2) : xN) = 0) ∧ ∀ h189 : xH, h189 = nW h186 ((85, l0.2) : xN) (6) → ∀ h191 : xH, h191 = sR h189 l0 51 ((85, l0.2) : xN) → (hS h191 ((86, l0.2) : xN) = 0) ∧ ∀ h194 : xH, h194 = nW h191 ((86, l0.2) : xN) (6) → ∀ h196 : xH, h196 = sR h194 l0 52 ((86, l0.2) : xN) → (hS h196 ((87, l0.2) : xN) = 0) ∧ ∀ h199 : xH, h199 = nW h196 ((87, l0.2) : xN) (72) → ∀ h201 : xH, h201 = sR h199 l0 53 ((87, l0.2) : xN) → (hS h201 ((88, l0.2) : xN) = 0) ∧ ∀ h204 : xH, h204 = nW h201 ((88, l0.2) : xN) (72) → ∀ h206 : xH, h206 = sR h204 l0 54 ((88, l0.2) : xN) → (hS h206 ((89, l0.2) : xN) = 0) ∧ ∀ h209 : xH, h209 = nW h206 ((89, l0.2) : xN) (72) → ∀ h211 : xH, h211 = sR h209 l0 55 ((89, l0.2) : xN) → (hS h211 ((90, l0.2) : xN) = 0) ∧ ∀ h214 : xH, h214 = nW h211 ((90, l0.2) : xN) (288) → ∀ h216 : xH, h216 = sR h214 l0 56 ((90, l0.2) : xN) → (hS h216 ((91, l0.2) : xN) = 0) ∧ ∀ h219 : xH, h219 = nW h216 ((91, l0.2) : xN) (576) → ∀ h221 : xH, h221 = sR h219 l0 57 ((91, l0.2) : xN) → (hS h221 ((92, l0.2) : xN) = 0) ∧ ∀ h224 : xH, h224 = nW h221 ((92, l0.2) : xN) (4) → ∀ h226 : xH, h226 = sR h224 l0 58 ((92, l0.2) : xN) → (hS h226 ((93, l0.2) : xN) = 0) ∧ ∀ h229 : xH, h229 = nW h226 ((93, l0.2) : xN) (4) → ∀ h231 : xH, h231 = sR h229 l0 59 ((93, l0.2) : xN) → (hS h231 ((94, l0.2) : xN) = 0) ∧ ∀ h234 : xH, h234 = nW h231 ((94, l0.2) : xN) (4) → ∀ h236 : xH, h236 = sR h234 l0 60 ((94, l0.2) : xN) → (hS h236 ((95, l0.2) : xN) = 0) ∧ ∀ h239 : xH, h239 = nW h236 ((95, l0.2) : xN) (40) → ∀ h241 : xH, h241 = sR h239 l0 61 ((95, l0.2) : xN) → (hS h241 ((97, l0.2) : xN) = 0) ∧ ∀ h244 : xH, h244 = nW h241 ((97, l0.2) : xN) (10) → ∀ h246 : xH, h246 = sR h244 l0 63 ((97, l0.2) : xN) → (hS h246 ((98, l0.2) : xN) = 0) ∧ ∀ h249 : xH, h249 = nW h246 ((98, l0.2) : xN) (12) → ∀ h251 : xH, h251 = sR h249 l0 64 ((98, l0.2) : xN) → (hS h251 ((99, l0.2) : xN) = 0) ∧ ∀ h254 : xH, h254 = nW h251 ((99, l0.2) : xN) (144) → ∀ h256 : xH, h256 = sR h254 l0 65 ((99, l0.2) : xN) → (hS h256 ((101, l0.2) : xN) = 0) ∧ ∀ h259 : xH, h259 = nW h256 ((101, l0.2) : xN) (100) → ∀ h261 : xH, h261 = sR h259 l0 67 ((101, l0.2) : xN) → Q h261
set_option maxRecDepth 100000 in
set_option maxHeartbeats 4000000 in
theorem t_M_init (l0 : xN) (h : xH) (Q : xH → Prop) (H : p_M_init l0 h Q) : WP M_M_init 0 [(0, xr l0)] [] h 0 (qv Q) := by
  unfold p_M_init at H
  refine wp_aload_n 0 rfl rfl dX11_init_0 ?_
  obtain ⟨q1, H⟩ := H
  refine wp_oinit q1 lo_X11_1 op3.1 op3.2 (Nat.le_of_ble_eq_true rfl) (Nat.le_of_ble_eq_true rfl) (Nat.le_of_ble_eq_true rfl) dX11_init_1 ?_
  refine wp_aload_n 0 rfl rfl dX11_init_4 ?_
  refine wp_bipush (12 : Int32) (by decide) dX11_init_5 ?_
  obtain ⟨q2, H⟩ := H
  refine wp_newai ((35, l0.2) : xN) (12) (by decide) rfl q2 1 ⟨(Nat.le_of_ble_eq_true rfl), (Nat.le_of_ble_eq_true rfl), (Nat.le_of_ble_eq_true rfl)⟩ (Nat.le_of_ble_eq_true rfl) ac_int dX11_init_7 ?_
  refine wp_nh (fun h3 e4 => ?_)
  replace H := H h3 e4
  obtain ⟨q5, H⟩ := H
  refine wp_putrF coX11 1 (Nat.le_of_ble_eq_true rfl) fl_X11_7 rfl rfl ⟨rfl, by decide⟩ rfl (Or.inr ⟨_, rfl⟩) q5 (by intro z; cases z) dX11_init_9 ?_
  refine wp_nh (fun h6 e7 => ?_)
  replace H := H h6 e7
  refine wp_aload_n 0 rfl rfl dX11_init_12 ?_
  refine WP.at 13 rfl ?_
  refine wp_bipush (12 : Int32) (by decide) dX11_init_13 ?_
  obtain ⟨q8, H⟩ := H
  refine wp_newai ((36, l0.2) : xN) (12) (by decide) rfl q8 1 ⟨(Nat.le_of_ble_eq_true rfl), (Nat.le_of_ble_eq_true rfl), (Nat.le_of_ble_eq_true rfl)⟩ (Nat.le_of_ble_eq_true rfl) ac_int dX11_init_15 ?_
  refine wp_nh (fun h9 e10 => ?_)
  replace H := H h9 e10
  refine wp_putrF coX11 2 (Nat.le_of_ble_eq_true rfl) fl_X11_13 rfl rfl ⟨rfl, by decide⟩ rfl (Or.inr ⟨_, rfl⟩) q5 (by intro z; cases z) dX11_init_17 ?_
  refine wp_nh (fun h11 e12 => ?_)
  replace H := H h11 e12
  refine wp_aload_n 0 rfl rfl dX11_init_20 ?_
  refine wp_bipush (12 : Int32) (by decide) dX11_init_21 ?_
  obtain ⟨q13, H⟩ := H
  refine wp_newai ((37, l0.2) : xN) (12) (by decide) rfl q13 1 ⟨(Nat.le_of_ble_eq_true rfl), (Nat.le_of_ble_eq_true rfl), (Nat.le_of_ble_eq_true rfl)⟩ (Nat.le_of_ble_eq_true rfl) ac_int dX11_init_23 ?_
  refine wp_nh (fun h14 e15 => ?_)
  replace H := H h14 e15
  refine wp_putrF coX11 3 (Nat.le_of_ble_eq_true rfl) fl_X11_16 rfl rfl ⟨rfl, by decide⟩ rfl (Or.inr ⟨_, rfl⟩) q5 (by intro z; cases z) dX11_init_25 ?_
  refine wp_nh (fun h16 e17 => ?_)
  replace H := H h16 e17
  refine wp_aload_n 0 rfl rfl dX11_init_28 ?_
  refine WP.at 29 rfl ?_
  refine wp_sipush (156 : Int32) (by decide) dX11_init_29 ?_
  obtain ⟨q18, H⟩ := H
  refine wp_newaz ((38, l0.2) : xN) (156) (by decide) rfl q18 1 ⟨(Nat.le_of_ble_eq_true rfl), (Nat.le_of_ble_eq_true rfl), (Nat.le_of_ble_eq_true rfl)⟩ (Nat.le_of_ble_eq_true rfl) ac_boolean dX11_init_32 ?_
  refine wp_nh (fun h19 e20 => ?_)
  replace H := H h19 e20
  refine wp_putrF coX11 4 (Nat.le_of_ble_eq_true rfl) fl_X11_19 rfl rfl ⟨rfl, by decide⟩ rfl (Or.inr ⟨_, rfl⟩) q5 (by intro z; cases z) dX11_init_34 ?_
  refine wp_nh (fun h21 e22 => ?_)
  replace H := H h21 e22
  refine wp_aload_n 0 rfl rfl dX11_init_37 ?_
  refine wp_sipush (156 : Int32) (by decide) dX11_init_38 ?_
  obtain ⟨q23, H⟩ := H
  refine wp_newai ((39, l0.2) : xN) (156) (by decide) rfl q23 1 ⟨(Nat.le_of_ble_eq_true rfl), (Nat.le_of_ble_eq_true rfl), (Nat.le_of_ble_eq_true rfl)⟩ (Nat.le_of_ble_eq_true rfl) ac_int dX11_init_41 ?_
  refine wp_nh (fun h24 e25 => ?_)
  replace H := H h24 e25
  refine wp_putrF coX11 5 (Nat.le_of_ble_eq_true rfl) fl_X11_23 rfl rfl ⟨rfl, by decide⟩ rfl (Or.inr ⟨_, rfl⟩) q5 (by intro z; cases z) dX11_init_43 ?_
  refine wp_nh (fun h26 e27 => ?_)
  replace H := H h26 e27
  refine wp_aload_n 0 rfl rfl dX11_init_46 ?_
  refine WP.at 47 rfl ?_
  refine wp_bipush (49 : Int32) (by decide) dX11_init_47 ?_
  obtain ⟨q28, H⟩ := H
  refine wp_newaz ((40, l0.2) : xN) (49) (by decide) rfl q28 1 ⟨(Nat.le_of_ble_eq_true rfl), (Nat.le_of_ble_eq_true rfl), (Nat.le_of_ble_eq_true rfl)⟩ (Nat.le_of_ble_eq_true rfl) ac_boolean dX11_init_49 ?_
  refine wp_nh (fun h29 e30 => ?_)
  replace H := H h29 e30
  refine wp_putrF coX11 6 (Nat.le_of_ble_eq_true rfl) fl_X11_26 rfl rfl ⟨rfl, by decide⟩ rfl (Or.inr ⟨_, rfl⟩) q5 (by intro z; cases z) dX11_init_51 ?_
  refine wp_nh (fun h31 e32 => ?_)
  replace H := H h31 e32
  refine wp_aload_n 0 rfl rfl dX11_init_54 ?_
  refine wp_bipush (49 : Int32) (by decide) dX11_init_55 ?_
  obtain ⟨q33, H⟩ := H
  refine wp_newai ((41, l0.2) : xN) (49) (by decide) rfl q33 1 ⟨(Nat.le_of_ble_eq_true rfl), (Nat.le_of_ble_eq_true rfl), (Nat.le_of_ble_eq_true rfl)⟩ (Nat.le_of_ble_eq_true rfl) ac_int dX11_init_57 ?_
  refine wp_nh (fun h34 e35 => ?_)
  replace H := H h34 e35
  refine wp_putrF coX11 7 (Nat.le_of_ble_eq_true rfl) fl_X11_29 rfl rfl ⟨rfl, by decide⟩ rfl (Or.inr ⟨_, rfl⟩) q5 (by intro z; cases z) dX11_init_59 ?_
  refine wp_nh (fun h36 e37 => ?_)
  replace H := H h36 e37
  refine wp_aload_n 0 rfl rfl dX11_init_62 ?_
  refine WP.at 63 rfl ?_
  refine wp_bipush (49 : Int32) (by decide) dX11_init_63 ?_
  obtain ⟨q38, H⟩ := H
  refine wp_newai ((42, l0.2) : xN) (49) (by decide) rfl q38 1 ⟨(Nat.le_of_ble_eq_true rfl), (Nat.le_of_ble_eq_true rfl), (Nat.le_of_ble_eq_true rfl)⟩ (Nat.le_of_ble_eq_true rfl) ac_int dX11_init_65 ?_
  refine wp_nh (fun h39 e40 => ?_)
  replace H := H h39 e40
  refine wp_putrF coX11 8 (Nat.le_of_ble_eq_true rfl) fl_X11_32 rfl rfl ⟨rfl, by decide⟩ rfl (Or.inr ⟨_, rfl⟩) q5 (by intro z; cases z) dX11_init_67 ?_
  refine wp_nh (fun h41 e42 => ?_)
  replace H := H h41 e42
  refine wp_aload_n 0 rfl rfl dX11_init_70 ?_
  refine wp_bipush (49 : Int32) (by decide) dX11_init_71 ?_
  obtain ⟨q43, H⟩ := H
  refine wp_newaz ((43, l0.2) : xN) (49) (by decide) rfl q43 1 ⟨(Nat.le_of_ble_eq_true rfl), (Nat.le_of_ble_eq_true rfl), (Nat.le_of_ble_eq_true rfl)⟩ (Nat.le_of_ble_eq_true rfl) ac_boolean dX11_init_73 ?_
  refine wp_nh (fun h44 e45 => ?_)
  replace H := H h44 e45
  refine wp_putrF coX11 9 (Nat.le_of_ble_eq_true rfl) fl_X11_35 rfl rfl ⟨rfl, by decide⟩ rfl (Or.inr ⟨_, rfl⟩) q5 (by intro z; cases z) dX11_init_75 ?_
  refine wp_nh (fun h46 e47 => ?_)
  replace H := H h46 e47
  refine wp_aload_n 0 rfl rfl dX11_init_78 ?_
  refine WP.at 79 rfl ?_
  refine wp_bipush (49 : Int32) (by decide) dX11_init_79 ?_
  obtain ⟨q48, H⟩ := H
  refine wp_newai ((46, l0.2) : xN) (49) (by decide) rfl q48 1 ⟨(Nat.le_of_ble_eq_true rfl), (Nat.le_of_ble_eq_true rfl), (Nat.le_of_ble_eq_true rfl)⟩ (Nat.le_of_ble_eq_true rfl) ac_int dX11_init_81 ?_
  refine wp_nh (fun h49 e50 => ?_)
  replace H := H h49 e50
  refine wp_putrF coX11 12 (Nat.le_of_ble_eq_true rfl) fl_X11_38 rfl rfl ⟨rfl, by decide⟩ rfl (Or.inr ⟨_, rfl⟩) q5 (by intro z; cases z) dX11_init_83 ?_
  refine wp_nh (fun h51 e52 => ?_)
  replace H := H h51 e52
  refine wp_aload_n 0 rfl rfl dX11_init_86 ?_
  refine wp_bipush (49 : Int32) (by decide) dX11_init_87 ?_
  obtain ⟨q53, H⟩ := H
  refine wp_newai ((47, l0.2) : xN) (49) (by decide) rfl q53 1 ⟨(Nat.le_of_ble_eq_true rfl), (Nat.le_of_ble_eq_true rfl), (Nat.le_of_ble_eq_true rfl)⟩ (Nat.le_of_ble_eq_true rfl) ac_int dX11_init_89 ?_
  refine wp_nh (fun h54 e55 => ?_)
  replace H := H h54 e55
  refine wp_putrF coX11 13 (Nat.le_of_ble_eq_true rfl) fl_X11_41 rfl rfl ⟨rfl, by decide⟩ rfl (Or.inr ⟨_, rfl⟩) q5 (by intro z; cases z) dX11_init_91 ?_
  refine wp_nh (fun h56 e57 => ?_)
  replace H := H h56 e57
  refine wp_aload_n 0 rfl rfl dX11_init_94 ?_
  refine WP.at 95 rfl ?_
  refine wp_bipush (49 : Int32) (by decide) dX11_init_95 ?_
  obtain ⟨q58, H⟩ := H
  refine wp_newai ((48, l0.2) : xN) (49) (by decide) rfl q58 1 ⟨(Nat.le_of_ble_eq_true rfl), (Nat.le_of_ble_eq_true rfl), (Nat.le_of_ble_eq_true rfl)⟩ (Nat.le_of_ble_eq_true rfl) ac_int dX11_init_97 ?_
  refine wp_nh (fun h59 e60 => ?_)
  replace H := H h59 e60
  refine wp_putrF coX11 14 (Nat.le_of_ble_eq_true rfl) fl_X11_44 rfl rfl ⟨rfl, by decide⟩ rfl (Or.inr ⟨_, rfl⟩) q5 (by intro z; cases z) dX11_init_99 ?_
  refine wp_nh (fun h61 e62 => ?_)
  replace H := H h61 e62
  refine wp_aload_n 0 rfl rfl dX11_init_102 ?_
  refine wp_bipush (49 : Int32) (by decide) dX11_init_103 ?_
  obtain ⟨q63, H⟩ := H
  refine wp_newai ((49, l0.2) : xN) (49) (by decide) rfl q63 1 ⟨(Nat.le_of_ble_eq_true rfl), (Nat.le_of_ble_eq_true rfl), (Nat.le_of_ble_eq_true rfl)⟩ (Nat.le_of_ble_eq_true rfl) ac_int dX11_init_105 ?_
  refine wp_nh (fun h64 e65 => ?_)
  replace H := H h64 e65
  refine wp_putrF coX11 15 (Nat.le_of_ble_eq_true rfl) fl_X11_47 rfl rfl ⟨rfl, by decide⟩ rfl (Or.inr ⟨_, rfl⟩) q5 (by intro z; cases z) dX11_init_107 ?_
  refine wp_nh (fun h66 e67 => ?_)
  replace H := H h66 e67
  refine wp_aload_n 0 rfl rfl dX11_init_110 ?_
  refine WP.at 111 rfl ?_
  refine wp_bipush (49 : Int32) (by decide) dX11_init_111 ?_
  obtain ⟨q68, H⟩ := H
  refine wp_newai ((50, l0.2) : xN) (49) (by decide) rfl q68 1 ⟨(Nat.le_of_ble_eq_true rfl), (Nat.le_of_ble_eq_true rfl), (Nat.le_of_ble_eq_true rfl)⟩ (Nat.le_of_ble_eq_true rfl) ac_int dX11_init_113 ?_
  refine wp_nh (fun h69 e70 => ?_)
  replace H := H h69 e70
  refine wp_putrF coX11 16 (Nat.le_of_ble_eq_true rfl) fl_X11_50 rfl rfl ⟨rfl, by decide⟩ rfl (Or.inr ⟨_, rfl⟩) q5 (by intro z; cases z) dX11_init_115 ?_
  refine wp_nh (fun h71 e72 => ?_)
  replace H := H h71 e72
  refine wp_aload_n 0 rfl rfl dX11_init_118 ?_
  refine wp_bipush (49 : Int32) (by decide) dX11_init_119 ?_
  obtain ⟨q73, H⟩ := H
  refine wp_newai ((51, l0.2) : xN) (49) (by decide) rfl q73 1 ⟨(Nat.le_of_ble_eq_true rfl), (Nat.le_of_ble_eq_true rfl), (Nat.le_of_ble_eq_true rfl)⟩ (Nat.le_of_ble_eq_true rfl) ac_int dX11_init_121 ?_
  refine wp_nh (fun h74 e75 => ?_)
  replace H := H h74 e75
  refine wp_putrF coX11 17 (Nat.le_of_ble_eq_true rfl) fl_X11_53 rfl rfl ⟨rfl, by decide⟩ rfl (Or.inr ⟨_, rfl⟩) q5 (by intro z; cases z) dX11_init_123 ?_
  refine wp_nh (fun h76 e77 => ?_)
  replace H := H h76 e77
  refine wp_aload_n 0 rfl rfl dX11_init_126 ?_
  refine WP.at 127 rfl ?_
  refine wp_bipush (49 : Int32) (by decide) dX11_init_127 ?_
  obtain ⟨q78, H⟩ := H
  refine wp_newai ((52, l0.2) : xN) (49) (by decide) rfl q78 1 ⟨(Nat.le_of_ble_eq_true rfl), (Nat.le_of_ble_eq_true rfl), (Nat.le_of_ble_eq_true rfl)⟩ (Nat.le_of_ble_eq_true rfl) ac_int dX11_init_129 ?_
  refine wp_nh (fun h79 e80 => ?_)
  replace H := H h79 e80
  refine wp_putrF coX11 18 (Nat.le_of_ble_eq_true rfl) fl_X11_56 rfl rfl ⟨rfl, by decide⟩ rfl (Or.inr ⟨_, rfl⟩) q5 (by intro z; cases z) dX11_init_131 ?_
  refine wp_nh (fun h81 e82 => ?_)
  replace H := H h81 e82
  refine wp_aload_n 0 rfl rfl dX11_init_134 ?_
  refine wp_bipush (49 : Int32) (by decide) dX11_init_135 ?_
  obtain ⟨q83, H⟩ := H
  refine wp_newai ((53, l0.2) : xN) (49) (by decide) rfl q83 1 ⟨(Nat.le_of_ble_eq_true rfl), (Nat.le_of_ble_eq_true rfl), (Nat.le_of_ble_eq_true rfl)⟩ (Nat.le_of_ble_eq_true rfl) ac_int dX11_init_137 ?_
  refine wp_nh (fun h84 e85 => ?_)
  replace H := H h84 e85
  refine wp_putrF coX11 19 (Nat.le_of_ble_eq_true rfl) fl_X11_59 rfl rfl ⟨rfl, by decide⟩ rfl (Or.inr ⟨_, rfl⟩) q5 (by intro z; cases z) dX11_init_139 ?_
  refine wp_nh (fun h86 e87 => ?_)
  replace H := H h86 e87
  refine wp_aload_n 0 rfl rfl dX11_init_142 ?_
  refine WP.at 143 rfl ?_
  refine wp_bipush (49 : Int32) (by decide) dX11_init_143 ?_
  obtain ⟨q88, H⟩ := H
  refine wp_newai ((54, l0.2) : xN) (49) (by decide) rfl q88 1 ⟨(Nat.le_of_ble_eq_true rfl), (Nat.le_of_ble_eq_true rfl), (Nat.le_of_ble_eq_true rfl)⟩ (Nat.le_of_ble_eq_true rfl) ac_int dX11_init_145 ?_
  refine wp_nh (fun h89 e90 => ?_)
  replace H := H h89 e90
  refine wp_putrF coX11 20 (Nat.le_of_ble_eq_true rfl) fl_X11_62 rfl rfl ⟨rfl, by decide⟩ rfl (Or.inr ⟨_, rfl⟩) q5 (by intro z; cases z) dX11_init_147 ?_
  refine wp_nh (fun h91 e92 => ?_)
  replace H := H h91 e92
  refine wp_aload_n 0 rfl rfl dX11_init_150 ?_
  refine wp_bipush (49 : Int32) (by decide) dX11_init_151 ?_
  obtain ⟨q93, H⟩ := H
  refine wp_newai ((55, l0.2) : xN) (49) (by decide) rfl q93 1 ⟨(Nat.le_of_ble_eq_true rfl), (Nat.le_of_ble_eq_true rfl), (Nat.le_of_ble_eq_true rfl)⟩ (Nat.le_of_ble_eq_true rfl) ac_int dX11_init_153 ?_
  refine wp_nh (fun h94 e95 => ?_)
  replace H := H h94 e95
  refine wp_putrF coX11 21 (Nat.le_of_ble_eq_true rfl) fl_X11_65 rfl rfl ⟨rfl, by decide⟩ rfl (Or.inr ⟨_, rfl⟩) q5 (by intro z; cases z) dX11_init_155 ?_
  refine wp_nh (fun h96 e97 => ?_)
  replace H := H h96 e97
  refine wp_aload_n 0 rfl rfl dX11_init_158 ?_
  refine WP.at 159 rfl ?_
  refine wp_sipush (200 : Int32) (by decide) dX11_init_159 ?_
  obtain ⟨q98, H⟩ := H
  refine wp_newai ((58, l0.2) : xN) (200) (by decide) rfl q98 1 ⟨(Nat.le_of_ble_eq_true rfl), (Nat.le_of_ble_eq_true rfl), (Nat.le_of_ble_eq_true rfl)⟩ (Nat.le_of_ble_eq_true rfl) ac_int dX11_init_162 ?_
  refine wp_nh (fun h99 e100 => ?_)
  replace H := H h99 e100
  refine wp_putrF coX11 24 (Nat.le_of_ble_eq_true rfl) fl_X11_68 rfl rfl ⟨rfl, by decide⟩ rfl (Or.inr ⟨_, rfl⟩) q5 (by intro z; cases z) dX11_init_164 ?_
  refine wp_nh (fun h101 e102 => ?_)
  replace H := H h101 e102
  refine wp_aload_n 0 rfl rfl dX11_init_167 ?_
  refine wp_sipush (200 : Int32) (by decide) dX11_init_168 ?_
  obtain ⟨q103, H⟩ := H
  refine wp_newai ((59, l0.2) : xN) (200) (by decide) rfl q103 1 ⟨(Nat.le_of_ble_eq_true rfl), (Nat.le_of_ble_eq_true rfl), (Nat.le_of_ble_eq_true rfl)⟩ (Nat.le_of_ble_eq_true rfl) ac_int dX11_init_171 ?_
  refine wp_nh (fun h104 e105 => ?_)
  replace H := H h104 e105
  refine wp_putrF coX11 25 (Nat.le_of_ble_eq_true rfl) fl_X11_71 rfl rfl ⟨rfl, by decide⟩ rfl (Or.inr ⟨_, rfl⟩) q5 (by intro z; cases z) dX11_init_173 ?_
  refine wp_nh (fun h106 e107 => ?_)
  replace H := H h106 e107
  refine wp_aload_n 0 rfl rfl dX11_init_176 ?_
  refine WP.at 177 rfl ?_
  refine wp_sipush (200 : Int32) (by decide) dX11_init_177 ?_
  obtain ⟨q108, H⟩ := H
  refine wp_newai ((60, l0.2) : xN) (200) (by decide) rfl q108 1 ⟨(Nat.le_of_ble_eq_true rfl), (Nat.le_of_ble_eq_true rfl), (Nat.le_of_ble_eq_true rfl)⟩ (Nat.le_of_ble_eq_true rfl) ac_int dX11_init_180 ?_
  refine wp_nh (fun h109 e110 => ?_)
  replace H := H h109 e110
  refine wp_putrF coX11 26 (Nat.le_of_ble_eq_true rfl) fl_X11_74 rfl rfl ⟨rfl, by decide⟩ rfl (Or.inr ⟨_, rfl⟩) q5 (by intro z; cases z) dX11_init_182 ?_
  refine wp_nh (fun h111 e112 => ?_)
  replace H := H h111 e112
  refine wp_aload_n 0 rfl rfl dX11_init_185 ?_
  refine wp_sipush (200 : Int32) (by decide) dX11_init_186 ?_
  obtain ⟨q113, H⟩ := H
  refine wp_newai ((61, l0.2) : xN) (200) (by decide) rfl q113 1 ⟨(Nat.le_of_ble_eq_true rfl), (Nat.le_of_ble_eq_true rfl), (Nat.le_of_ble_eq_true rfl)⟩ (Nat.le_of_ble_eq_true rfl) ac_int dX11_init_189 ?_
  refine wp_nh (fun h114 e115 => ?_)
  replace H := H h114 e115
  refine wp_putrF coX11 27 (Nat.le_of_ble_eq_true rfl) fl_X11_77 rfl rfl ⟨rfl, by decide⟩ rfl (Or.inr ⟨_, rfl⟩) q5 (by intro z; cases z) dX11_init_191 ?_
  refine wp_nh (fun h116 e117 => ?_)
  replace H := H h116 e117
  refine wp_aload_n 0 rfl rfl dX11_init_194 ?_
  refine WP.at 195 rfl ?_
  refine wp_sipush (200 : Int32) (by decide) dX11_init_195 ?_
  obtain ⟨q118, H⟩ := H
  refine wp_newai ((62, l0.2) : xN) (200) (by decide) rfl q118 1 ⟨(Nat.le_of_ble_eq_true rfl), (Nat.le_of_ble_eq_true rfl), (Nat.le_of_ble_eq_true rfl)⟩ (Nat.le_of_ble_eq_true rfl) ac_int dX11_init_198 ?_
  refine wp_nh (fun h119 e120 => ?_)
  replace H := H h119 e120
  refine wp_putrF coX11 28 (Nat.le_of_ble_eq_true rfl) fl_X11_80 rfl rfl ⟨rfl, by decide⟩ rfl (Or.inr ⟨_, rfl⟩) q5 (by intro z; cases z) dX11_init_200 ?_
  refine wp_nh (fun h121 e122 => ?_)
  replace H := H h121 e122
  refine wp_aload_n 0 rfl rfl dX11_init_203 ?_
  refine wp_sipush (200 : Int32) (by decide) dX11_init_204 ?_
  obtain ⟨q123, H⟩ := H
  refine wp_newai ((63, l0.2) : xN) (200) (by decide) rfl q123 1 ⟨(Nat.le_of_ble_eq_true rfl), (Nat.le_of_ble_eq_true rfl), (Nat.le_of_ble_eq_true rfl)⟩ (Nat.le_of_ble_eq_true rfl) ac_int dX11_init_207 ?_
  refine wp_nh (fun h124 e125 => ?_)
  replace H := H h124 e125
  refine wp_putrF coX11 29 (Nat.le_of_ble_eq_true rfl) fl_X11_83 rfl rfl ⟨rfl, by decide⟩ rfl (Or.inr ⟨_, rfl⟩) q5 (by intro z; cases z) dX11_init_209 ?_
  refine wp_nh (fun h126 e127 => ?_)
  replace H := H h126 e127
  refine wp_aload_n 0 rfl rfl dX11_init_212 ?_
  refine WP.at 213 rfl ?_
  refine wp_sipush (200 : Int32) (by decide) dX11_init_213 ?_
  obtain ⟨q128, H⟩ := H
  refine wp_newai ((64, l0.2) : xN) (200) (by decide) rfl q128 1 ⟨(Nat.le_of_ble_eq_true rfl), (Nat.le_of_ble_eq_true rfl), (Nat.le_of_ble_eq_true rfl)⟩ (Nat.le_of_ble_eq_true rfl) ac_int dX11_init_216 ?_
  refine wp_nh (fun h129 e130 => ?_)
  replace H := H h129 e130
  refine wp_putrF coX11 30 (Nat.le_of_ble_eq_true rfl) fl_X11_86 rfl rfl ⟨rfl, by decide⟩ rfl (Or.inr ⟨_, rfl⟩) q5 (by intro z; cases z) dX11_init_218 ?_
  refine wp_nh (fun h131 e132 => ?_)
  replace H := H h131 e132
  refine wp_aload_n 0 rfl rfl dX11_init_221 ?_
  refine wp_sipush (200 : Int32) (by decide) dX11_init_222 ?_
  obtain ⟨q133, H⟩ := H
  refine wp_newai ((65, l0.2) : xN) (200) (by decide) rfl q133 1 ⟨(Nat.le_of_ble_eq_true rfl), (Nat.le_of_ble_eq_true rfl), (Nat.le_of_ble_eq_true rfl)⟩ (Nat.le_of_ble_eq_true rfl) ac_int dX11_init_225 ?_
  refine wp_nh (fun h134 e135 => ?_)
  replace H := H h134 e135
  refine wp_putrF coX11 31 (Nat.le_of_ble_eq_true rfl) fl_X11_89 rfl rfl ⟨rfl, by decide⟩ rfl (Or.inr ⟨_, rfl⟩) q5 (by intro z; cases z) dX11_init_227 ?_
  refine wp_nh (fun h136 e137 => ?_)
  replace H := H h136 e137
  refine wp_aload_n 0 rfl rfl dX11_init_230 ?_
  refine WP.at 231 rfl ?_
  refine wp_sipush (200 : Int32) (by decide) dX11_init_231 ?_
  obtain ⟨q138, H⟩ := H
  refine wp_newaz ((66, l0.2) : xN) (200) (by decide) rfl q138 1 ⟨(Nat.le_of_ble_eq_true rfl), (Nat.le_of_ble_eq_true rfl), (Nat.le_of_ble_eq_true rfl)⟩ (Nat.le_of_ble_eq_true rfl) ac_boolean dX11_init_234 ?_
  refine wp_nh (fun h139 e140 => ?_)
  replace H := H h139 e140
  refine wp_putrF coX11 32 (Nat.le_of_ble_eq_true rfl) fl_X11_92 rfl rfl ⟨rfl, by decide⟩ rfl (Or.inr ⟨_, rfl⟩) q5 (by intro z; cases z) dX11_init_236 ?_
  refine wp_nh (fun h141 e142 => ?_)
  replace H := H h141 e142
  refine wp_aload_n 0 rfl rfl dX11_init_239 ?_
  refine wp_bipush (13 : Int32) (by decide) dX11_init_240 ?_
  obtain ⟨q143, H⟩ := H
  refine wp_newai ((67, l0.2) : xN) (13) (by decide) rfl q143 1 ⟨(Nat.le_of_ble_eq_true rfl), (Nat.le_of_ble_eq_true rfl), (Nat.le_of_ble_eq_true rfl)⟩ (Nat.le_of_ble_eq_true rfl) ac_int dX11_init_242 ?_
  refine wp_nh (fun h144 e145 => ?_)
  replace H := H h144 e145
  refine wp_putrF coX11 33 (Nat.le_of_ble_eq_true rfl) fl_X11_95 rfl rfl ⟨rfl, by decide⟩ rfl (Or.inr ⟨_, rfl⟩) q5 (by intro z; cases z) dX11_init_244 ?_
  refine wp_nh (fun h146 e147 => ?_)
  replace H := H h146 e147
  refine wp_aload_n 0 rfl rfl dX11_init_247 ?_
  refine WP.at 248 rfl ?_
  refine wp_bipush (13 : Int32) (by decide) dX11_init_248 ?_
  obtain ⟨q148, H⟩ := H
  refine wp_newai ((68, l0.2) : xN) (13) (by decide) rfl q148 1 ⟨(Nat.le_of_ble_eq_true rfl), (Nat.le_of_ble_eq_true rfl), (Nat.le_of_ble_eq_true rfl)⟩ (Nat.le_of_ble_eq_true rfl) ac_int dX11_init_250 ?_
  refine wp_nh (fun h149 e150 => ?_)
  replace H := H h149 e150
  refine wp_putrF coX11 34 (Nat.le_of_ble_eq_true rfl) fl_X11_98 rfl rfl ⟨rfl, by decide⟩ rfl (Or.inr ⟨_, rfl⟩) q5 (by intro z; cases z) dX11_init_252 ?_
  refine wp_nh (fun h151 e152 => ?_)
  replace H := H h151 e152
  refine wp_aload_n 0 rfl rfl dX11_init_255 ?_
  refine wp_sipush (200 : Int32) (by decide) dX11_init_256 ?_
  obtain ⟨q153, H⟩ := H
  refine wp_newai ((70, l0.2) : xN) (200) (by decide) rfl q153 1 ⟨(Nat.le_of_ble_eq_true rfl), (Nat.le_of_ble_eq_true rfl), (Nat.le_of_ble_eq_true rfl)⟩ (Nat.le_of_ble_eq_true rfl) ac_int dX11_init_259 ?_
  refine wp_nh (fun h154 e155 => ?_)
  replace H := H h154 e155
  refine wp_putrF coX11 36 (Nat.le_of_ble_eq_true rfl) fl_X11_101 rfl rfl ⟨rfl, by decide⟩ rfl (Or.inr ⟨_, rfl⟩) q5 (by intro z; cases z) dX11_init_261 ?_
  refine wp_nh (fun h156 e157 => ?_)
  replace H := H h156 e157
  refine wp_aload_n 0 rfl rfl dX11_init_264 ?_
  refine WP.at 265 rfl ?_
  refine wp_sipush (200 : Int32) (by decide) dX11_init_265 ?_
  obtain ⟨q158, H⟩ := H
  refine wp_newai ((71, l0.2) : xN) (200) (by decide) rfl q158 1 ⟨(Nat.le_of_ble_eq_true rfl), (Nat.le_of_ble_eq_true rfl), (Nat.le_of_ble_eq_true rfl)⟩ (Nat.le_of_ble_eq_true rfl) ac_int dX11_init_268 ?_
  refine wp_nh (fun h159 e160 => ?_)
  replace H := H h159 e160
  refine wp_putrF coX11 37 (Nat.le_of_ble_eq_true rfl) fl_X11_104 rfl rfl ⟨rfl, by decide⟩ rfl (Or.inr ⟨_, rfl⟩) q5 (by intro z; cases z) dX11_init_270 ?_
  refine wp_nh (fun h161 e162 => ?_)
  replace H := H h161 e162
  refine wp_aload_n 0 rfl rfl dX11_init_273 ?_
  refine wp_sipush (200 : Int32) (by decide) dX11_init_274 ?_
  obtain ⟨q163, H⟩ := H
  refine wp_newai ((72, l0.2) : xN) (200) (by decide) rfl q163 1 ⟨(Nat.le_of_ble_eq_true rfl), (Nat.le_of_ble_eq_true rfl), (Nat.le_of_ble_eq_true rfl)⟩ (Nat.le_of_ble_eq_true rfl) ac_int dX11_init_277 ?_
  refine wp_nh (fun h164 e165 => ?_)
  replace H := H h164 e165
  refine wp_putrF coX11 38 (Nat.le_of_ble_eq_true rfl) fl_X11_107 rfl rfl ⟨rfl, by decide⟩ rfl (Or.inr ⟨_, rfl⟩) q5 (by intro z; cases z) dX11_init_279 ?_
  refine wp_nh (fun h166 e167 => ?_)
  replace H := H h166 e167
  refine wp_aload_n 0 rfl rfl dX11_init_282 ?_
  refine WP.at 283 rfl ?_
  refine wp_sipush (200 : Int32) (by decide) dX11_init_283 ?_
  obtain ⟨q168, H⟩ := H
  refine wp_newai ((73, l0.2) : xN) (200) (by decide) rfl q168 1 ⟨(Nat.le_of_ble_eq_true rfl), (Nat.le_of_ble_eq_true rfl), (Nat.le_of_ble_eq_true rfl)⟩ (Nat.le_of_ble_eq_true rfl) ac_int dX11_init_286 ?_
  refine wp_nh (fun h169 e170 => ?_)
  replace H := H h169 e170
  refine wp_putrF coX11 39 (Nat.le_of_ble_eq_true rfl) fl_X11_110 rfl rfl ⟨rfl, by decide⟩ rfl (Or.inr ⟨_, rfl⟩) q5 (by intro z; cases z) dX11_init_288 ?_
  refine wp_nh (fun h171 e172 => ?_)
  replace H := H h171 e172
  refine wp_aload_n 0 rfl rfl dX11_init_291 ?_
  refine wp_sipush (200 : Int32) (by decide) dX11_init_292 ?_
  obtain ⟨q173, H⟩ := H
  refine wp_newai ((74, l0.2) : xN) (200) (by decide) rfl q173 1 ⟨(Nat.le_of_ble_eq_true rfl), (Nat.le_of_ble_eq_true rfl), (Nat.le_of_ble_eq_true rfl)⟩ (Nat.le_of_ble_eq_true rfl) ac_int dX11_init_295 ?_
  refine wp_nh (fun h174 e175 => ?_)
  replace H := H h174 e175
  refine wp_putrF coX11 40 (Nat.le_of_ble_eq_true rfl) fl_X11_113 rfl rfl ⟨rfl, by decide⟩ rfl (Or.inr ⟨_, rfl⟩) q5 (by intro z; cases z) dX11_init_297 ?_
  refine wp_nh (fun h176 e177 => ?_)
  replace H := H h176 e177
  refine wp_aload_n 0 rfl rfl dX11_init_300 ?_
  refine WP.at 301 rfl ?_
  refine wp_iconst (5 : Int32) (by decide) dX11_init_301 ?_
  obtain ⟨q178, H⟩ := H
  refine wp_newai ((82, l0.2) : xN) (5) (by decide) rfl q178 1 ⟨(Nat.le_of_ble_eq_true rfl), (Nat.le_of_ble_eq_true rfl), (Nat.le_of_ble_eq_true rfl)⟩ (Nat.le_of_ble_eq_true rfl) ac_int dX11_init_302 ?_
  refine wp_nh (fun h179 e180 => ?_)
  replace H := H h179 e180
  refine wp_putrF coX11 48 (Nat.le_of_ble_eq_true rfl) fl_X11_116 rfl rfl ⟨rfl, by decide⟩ rfl (Or.inr ⟨_, rfl⟩) q5 (by intro z; cases z) dX11_init_304 ?_
  refine wp_nh (fun h181 e182 => ?_)
  replace H := H h181 e182
  refine wp_aload_n 0 rfl rfl dX11_init_307 ?_
  refine wp_bipush (7 : Int32) (by decide) dX11_init_308 ?_
  obtain ⟨q183, H⟩ := H
  refine wp_newai ((84, l0.2) : xN) (7) (by decide) rfl q183 1 ⟨(Nat.le_of_ble_eq_true rfl), (Nat.le_of_ble_eq_true rfl), (Nat.le_of_ble_eq_true rfl)⟩ (Nat.le_of_ble_eq_true rfl) ac_int dX11_init_310 ?_
  refine wp_nh (fun h184 e185 => ?_)
  replace H := H h184 e185
  refine wp_putrF coX11 50 (Nat.le_of_ble_eq_true rfl) fl_X11_119 rfl rfl ⟨rfl, by decide⟩ rfl (Or.inr ⟨_, rfl⟩) q5 (by intro z; cases z) dX11_init_312 ?_
  refine wp_nh (fun h186 e187 => ?_)
  replace H := H h186 e187
  refine wp_aload_n 0 rfl rfl dX11_init_315 ?_
  refine WP.at 316 rfl ?_
  refine wp_bipush (6 : Int32) (by decide) dX11_init_316 ?_
  obtain ⟨q188, H⟩ := H
  refine wp_newaz ((85, l0.2) : xN) (6) (by decide) rfl q188 1 ⟨(Nat.le_of_ble_eq_true rfl), (Nat.le_of_ble_eq_true rfl), (Nat.le_of_ble_eq_true rfl)⟩ (Nat.le_of_ble_eq_true rfl) ac_boolean dX11_init_318 ?_
  refine wp_nh (fun h189 e190 => ?_)
  replace H := H h189 e190
  refine wp_putrF coX11 51 (Nat.le_of_ble_eq_true rfl) fl_X11_122 rfl rfl ⟨rfl, by decide⟩ rfl (Or.inr ⟨_, rfl⟩) q5 (by intro z; cases z) dX11_init_320 ?_
  refine wp_nh (fun h191 e192 => ?_)
  replace H := H h191 e192
  refine wp_aload_n 0 rfl rfl dX11_init_323 ?_
  refine wp_bipush (6 : Int32) (by decide) dX11_init_324 ?_
  obtain ⟨q193, H⟩ := H
  refine wp_newai ((86, l0.2) : xN) (6) (by decide) rfl q193 1 ⟨(Nat.le_of_ble_eq_true rfl), (Nat.le_of_ble_eq_true rfl), (Nat.le_of_ble_eq_true rfl)⟩ (Nat.le_of_ble_eq_true rfl) ac_int dX11_init_326 ?_
  refine wp_nh (fun h194 e195 => ?_)
  replace H := H h194 e195
  refine wp_putrF coX11 52 (Nat.le_of_ble_eq_true rfl) fl_X11_125 rfl rfl ⟨rfl, by decide⟩ rfl (Or.inr ⟨_, rfl⟩) q5 (by intro z; cases z) dX11_init_328 ?_
  refine wp_nh (fun h196 e197 => ?_)
  replace H := H h196 e197
  refine wp_aload_n 0 rfl rfl dX11_init_331 ?_
  refine WP.at 332 rfl ?_
  refine wp_bipush (72 : Int32) (by decide) dX11_init_332 ?_
  obtain ⟨q198, H⟩ := H
  refine wp_newai ((87, l0.2) : xN) (72) (by decide) rfl q198 1 ⟨(Nat.le_of_ble_eq_true rfl), (Nat.le_of_ble_eq_true rfl), (Nat.le_of_ble_eq_true rfl)⟩ (Nat.le_of_ble_eq_true rfl) ac_int dX11_init_334 ?_
  refine wp_nh (fun h199 e200 => ?_)
  replace H := H h199 e200
  refine wp_putrF coX11 53 (Nat.le_of_ble_eq_true rfl) fl_X11_128 rfl rfl ⟨rfl, by decide⟩ rfl (Or.inr ⟨_, rfl⟩) q5 (by intro z; cases z) dX11_init_336 ?_
  refine wp_nh (fun h201 e202 => ?_)
  replace H := H h201 e202
  refine wp_aload_n 0 rfl rfl dX11_init_339 ?_
  refine wp_bipush (72 : Int32) (by decide) dX11_init_340 ?_
  obtain ⟨q203, H⟩ := H
  refine wp_newai ((88, l0.2) : xN) (72) (by decide) rfl q203 1 ⟨(Nat.le_of_ble_eq_true rfl), (Nat.le_of_ble_eq_true rfl), (Nat.le_of_ble_eq_true rfl)⟩ (Nat.le_of_ble_eq_true rfl) ac_int dX11_init_342 ?_
  refine wp_nh (fun h204 e205 => ?_)
  replace H := H h204 e205
  refine wp_putrF coX11 54 (Nat.le_of_ble_eq_true rfl) fl_X11_131 rfl rfl ⟨rfl, by decide⟩ rfl (Or.inr ⟨_, rfl⟩) q5 (by intro z; cases z) dX11_init_344 ?_
  refine wp_nh (fun h206 e207 => ?_)
  replace H := H h206 e207
  refine wp_aload_n 0 rfl rfl dX11_init_347 ?_
  refine WP.at 348 rfl ?_
  refine wp_bipush (72 : Int32) (by decide) dX11_init_348 ?_
  obtain ⟨q208, H⟩ := H
  refine wp_newai ((89, l0.2) : xN) (72) (by decide) rfl q208 1 ⟨(Nat.le_of_ble_eq_true rfl), (Nat.le_of_ble_eq_true rfl), (Nat.le_of_ble_eq_true rfl)⟩ (Nat.le_of_ble_eq_true rfl) ac_int dX11_init_350 ?_
  refine wp_nh (fun h209 e210 => ?_)
  replace H := H h209 e210
  refine wp_putrF coX11 55 (Nat.le_of_ble_eq_true rfl) fl_X11_134 rfl rfl ⟨rfl, by decide⟩ rfl (Or.inr ⟨_, rfl⟩) q5 (by intro z; cases z) dX11_init_352 ?_
  refine wp_nh (fun h211 e212 => ?_)
  replace H := H h211 e212
  refine wp_aload_n 0 rfl rfl dX11_init_355 ?_
  refine wp_sipush (288 : Int32) (by decide) dX11_init_356 ?_
  obtain ⟨q213, H⟩ := H
  refine wp_newai ((90, l0.2) : xN) (288) (by decide) rfl q213 1 ⟨(Nat.le_of_ble_eq_true rfl), (Nat.le_of_ble_eq_true rfl), (Nat.le_of_ble_eq_true rfl)⟩ (Nat.le_of_ble_eq_true rfl) ac_int dX11_init_359 ?_
  refine wp_nh (fun h214 e215 => ?_)
  replace H := H h214 e215
  refine wp_putrF coX11 56 (Nat.le_of_ble_eq_true rfl) fl_X11_137 rfl rfl ⟨rfl, by decide⟩ rfl (Or.inr ⟨_, rfl⟩) q5 (by intro z; cases z) dX11_init_361 ?_
  refine wp_nh (fun h216 e217 => ?_)
  replace H := H h216 e217
  refine wp_aload_n 0 rfl rfl dX11_init_364 ?_
  refine WP.at 365 rfl ?_
  refine wp_sipush (576 : Int32) (by decide) dX11_init_365 ?_
  obtain ⟨q218, H⟩ := H
  refine wp_newai ((91, l0.2) : xN) (576) (by decide) rfl q218 1 ⟨(Nat.le_of_ble_eq_true rfl), (Nat.le_of_ble_eq_true rfl), (Nat.le_of_ble_eq_true rfl)⟩ (Nat.le_of_ble_eq_true rfl) ac_int dX11_init_368 ?_
  refine wp_nh (fun h219 e220 => ?_)
  replace H := H h219 e220
  refine wp_putrF coX11 57 (Nat.le_of_ble_eq_true rfl) fl_X11_140 rfl rfl ⟨rfl, by decide⟩ rfl (Or.inr ⟨_, rfl⟩) q5 (by intro z; cases z) dX11_init_370 ?_
  refine wp_nh (fun h221 e222 => ?_)
  replace H := H h221 e222
  refine wp_aload_n 0 rfl rfl dX11_init_373 ?_
  refine wp_iconst (4 : Int32) (by decide) dX11_init_374 ?_
  obtain ⟨q223, H⟩ := H
  refine wp_newaz ((92, l0.2) : xN) (4) (by decide) rfl q223 1 ⟨(Nat.le_of_ble_eq_true rfl), (Nat.le_of_ble_eq_true rfl), (Nat.le_of_ble_eq_true rfl)⟩ (Nat.le_of_ble_eq_true rfl) ac_boolean dX11_init_375 ?_
  refine wp_nh (fun h224 e225 => ?_)
  replace H := H h224 e225
  refine wp_putrF coX11 58 (Nat.le_of_ble_eq_true rfl) fl_X11_143 rfl rfl ⟨rfl, by decide⟩ rfl (Or.inr ⟨_, rfl⟩) q5 (by intro z; cases z) dX11_init_377 ?_
  refine wp_nh (fun h226 e227 => ?_)
  replace H := H h226 e227
  refine wp_aload_n 0 rfl rfl dX11_init_380 ?_
  refine WP.at 381 rfl ?_
  refine wp_iconst (4 : Int32) (by decide) dX11_init_381 ?_
  obtain ⟨q228, H⟩ := H
  refine wp_newai ((93, l0.2) : xN) (4) (by decide) rfl q228 1 ⟨(Nat.le_of_ble_eq_true rfl), (Nat.le_of_ble_eq_true rfl), (Nat.le_of_ble_eq_true rfl)⟩ (Nat.le_of_ble_eq_true rfl) ac_int dX11_init_382 ?_
  refine wp_nh (fun h229 e230 => ?_)
  replace H := H h229 e230
  refine wp_putrF coX11 59 (Nat.le_of_ble_eq_true rfl) fl_X11_146 rfl rfl ⟨rfl, by decide⟩ rfl (Or.inr ⟨_, rfl⟩) q5 (by intro z; cases z) dX11_init_384 ?_
  refine wp_nh (fun h231 e232 => ?_)
  replace H := H h231 e232
  refine wp_aload_n 0 rfl rfl dX11_init_387 ?_
  refine wp_iconst (4 : Int32) (by decide) dX11_init_388 ?_
  obtain ⟨q233, H⟩ := H
  refine wp_newai ((94, l0.2) : xN) (4) (by decide) rfl q233 1 ⟨(Nat.le_of_ble_eq_true rfl), (Nat.le_of_ble_eq_true rfl), (Nat.le_of_ble_eq_true rfl)⟩ (Nat.le_of_ble_eq_true rfl) ac_int dX11_init_389 ?_
  refine wp_nh (fun h234 e235 => ?_)
  replace H := H h234 e235
  refine wp_putrF coX11 60 (Nat.le_of_ble_eq_true rfl) fl_X11_149 rfl rfl ⟨rfl, by decide⟩ rfl (Or.inr ⟨_, rfl⟩) q5 (by intro z; cases z) dX11_init_391 ?_
  refine wp_nh (fun h236 e237 => ?_)
  replace H := H h236 e237
  refine wp_aload_n 0 rfl rfl dX11_init_394 ?_
  refine WP.at 395 rfl ?_
  refine wp_bipush (40 : Int32) (by decide) dX11_init_395 ?_
  obtain ⟨q238, H⟩ := H
  refine wp_newai ((95, l0.2) : xN) (40) (by decide) rfl q238 1 ⟨(Nat.le_of_ble_eq_true rfl), (Nat.le_of_ble_eq_true rfl), (Nat.le_of_ble_eq_true rfl)⟩ (Nat.le_of_ble_eq_true rfl) ac_int dX11_init_397 ?_
  refine wp_nh (fun h239 e240 => ?_)
  replace H := H h239 e240
  refine wp_putrF coX11 61 (Nat.le_of_ble_eq_true rfl) fl_X11_152 rfl rfl ⟨rfl, by decide⟩ rfl (Or.inr ⟨_, rfl⟩) q5 (by intro z; cases z) dX11_init_399 ?_
  refine wp_nh (fun h241 e242 => ?_)
  replace H := H h241 e242
  refine wp_aload_n 0 rfl rfl dX11_init_402 ?_
  refine wp_bipush (10 : Int32) (by decide) dX11_init_403 ?_
  obtain ⟨q243, H⟩ := H
  refine wp_newai ((97, l0.2) : xN) (10) (by decide) rfl q243 1 ⟨(Nat.le_of_ble_eq_true rfl), (Nat.le_of_ble_eq_true rfl), (Nat.le_of_ble_eq_true rfl)⟩ (Nat.le_of_ble_eq_true rfl) ac_int dX11_init_405 ?_
  refine wp_nh (fun h244 e245 => ?_)
  replace H := H h244 e245
  refine wp_putrF coX11 63 (Nat.le_of_ble_eq_true rfl) fl_X11_155 rfl rfl ⟨rfl, by decide⟩ rfl (Or.inr ⟨_, rfl⟩) q5 (by intro z; cases z) dX11_init_407 ?_
  refine wp_nh (fun h246 e247 => ?_)
  replace H := H h246 e247
  refine wp_aload_n 0 rfl rfl dX11_init_410 ?_
  refine WP.at 411 rfl ?_
  refine wp_bipush (12 : Int32) (by decide) dX11_init_411 ?_
  obtain ⟨q248, H⟩ := H
  refine wp_newai ((98, l0.2) : xN) (12) (by decide) rfl q248 1 ⟨(Nat.le_of_ble_eq_true rfl), (Nat.le_of_ble_eq_true rfl), (Nat.le_of_ble_eq_true rfl)⟩ (Nat.le_of_ble_eq_true rfl) ac_int dX11_init_413 ?_
  refine wp_nh (fun h249 e250 => ?_)
  replace H := H h249 e250
  refine wp_putrF coX11 64 (Nat.le_of_ble_eq_true rfl) fl_X11_158 rfl rfl ⟨rfl, by decide⟩ rfl (Or.inr ⟨_, rfl⟩) q5 (by intro z; cases z) dX11_init_415 ?_
  refine wp_nh (fun h251 e252 => ?_)
  replace H := H h251 e252
  refine wp_aload_n 0 rfl rfl dX11_init_418 ?_
  refine wp_sipush (144 : Int32) (by decide) dX11_init_419 ?_
  obtain ⟨q253, H⟩ := H
  refine wp_newaf ((99, l0.2) : xN) (144) (by decide) rfl q253 1 ⟨(Nat.le_of_ble_eq_true rfl), (Nat.le_of_ble_eq_true rfl), (Nat.le_of_ble_eq_true rfl)⟩ (Nat.le_of_ble_eq_true rfl) ac_float dX11_init_422 ?_
  refine wp_nh (fun h254 e255 => ?_)
  replace H := H h254 e255
  refine wp_putrF coX11 65 (Nat.le_of_ble_eq_true rfl) fl_X11_161 rfl rfl ⟨rfl, by decide⟩ rfl (Or.inr ⟨_, rfl⟩) q5 (by intro z; cases z) dX11_init_424 ?_
  refine wp_nh (fun h256 e257 => ?_)
  replace H := H h256 e257
  refine wp_aload_n 0 rfl rfl dX11_init_427 ?_
  refine WP.at 428 rfl ?_
  refine wp_bipush (100 : Int32) (by decide) dX11_init_428 ?_
  obtain ⟨q258, H⟩ := H
  refine wp_newai ((101, l0.2) : xN) (100) (by decide) rfl q258 1 ⟨(Nat.le_of_ble_eq_true rfl), (Nat.le_of_ble_eq_true rfl), (Nat.le_of_ble_eq_true rfl)⟩ (Nat.le_of_ble_eq_true rfl) ac_int dX11_init_430 ?_
  refine wp_nh (fun h259 e260 => ?_)
  replace H := H h259 e260
  refine wp_putrF coX11 67 (Nat.le_of_ble_eq_true rfl) fl_X11_165 rfl rfl ⟨rfl, by decide⟩ rfl (Or.inr ⟨_, rfl⟩) q5 (by intro z; cases z) dX11_init_432 ?_
  refine wp_nh (fun h261 e262 => ?_)
  replace H := H h261 e262
  exact wp_vret trivial dX11_init_435 H
def p_R_init (l0 : xN) (l1 : Int32) (h : xH) (Q : xH → Prop) : Prop := (2 ≤ l0.1) ∧ (hS h ((20, l0.2) : xN) = 0) ∧ ∀ h3 : xH, h3 = nW h ((20, l0.2) : xN) (13) → (kd l0.1 = (1, 4)) ∧ ∀ h6 : xH, h6 = sR h3 l0 1 ((20, l0.2) : xN) → (hS h6 ((21, l0.2) : xN) = 0) ∧ ∀ h9 : xH, h9 = nW h6 ((21, l0.2) : xN) (13) → ∀ h11 : xH, h11 = sR h9 l0 2 ((21, l0.2) : xN) → (hS h11 ((4, l0.2) : xN) = 0) ∧ ∀ h14 : xH, h14 = nW h11 ((4, l0.2) : xN) 0 → p_F_init ((4, l0.2) : xN) h14 (fun h16 : xH => ∀ h17 : xH, h17 = sR h16 l0 3 ((4, l0.2) : xN) → (hS h17 ((22, l0.2) : xN) = 0) ∧ ∀ h20 : xH, h20 = nW h17 ((22, l0.2) : xN) (12) → ∀ h22 : xH, h22 = sR h20 l0 4 ((22, l0.2) : xN) → ∀ h24 : xH, h24 = sI h22 l0 7 (0 : Int32) → ∀ h26 : xH, h26 = sI h24 l0 0 l1 → ∀ h28 : xH, h28 = sI h26 l0 6 l1 → Q h28)
set_option maxRecDepth 100000 in
set_option maxHeartbeats 4000000 in
theorem t_R_init (l0 : xN) (l1 : Int32) (h : xH) (Q : xH → Prop) (H : p_R_init l0 l1 h Q) : WP M_R_init 0 [(0, xr l0), (1, xi l1)] [] h 0 (qv Q) := by
  unfold p_R_init at H
  refine wp_aload_n 0 rfl rfl dX5_init_0 ?_
  obtain ⟨q1, H⟩ := H
  refine wp_oinit q1 lo_X5_3 op3.1 op3.2 (Nat.le_of_ble_eq_true rfl) (Nat.le_of_ble_eq_true rfl) (Nat.le_of_ble_eq_true rfl) dX5_init_1 ?_
  refine wp_aload_n 0 rfl rfl dX5_init_4 ?_
  refine wp_bipush (13 : Int32) (by decide) dX5_init_5 ?_
  obtain ⟨q2, H⟩ := H
  refine wp_newaz ((20, l0.2) : xN) (13) (by decide) rfl q2 1 ⟨(Nat.le_of_ble_eq_true rfl), (Nat.le_of_ble_eq_true rfl), (Nat.le_of_ble_eq_true rfl)⟩ (Nat.le_of_ble_eq_true rfl) ac_boolean dX5_init_7 ?_
  refine wp_nh (fun h3 e4 => ?_)
  replace H := H h3 e4
  obtain ⟨q5, H⟩ := H
  refine wp_putrF coX5 1 (Nat.le_of_ble_eq_true rfl) fl_X5_9 rfl rfl ⟨rfl, by decide⟩ rfl (Or.inr ⟨_, rfl⟩) q5 (by intro z; cases z) dX5_init_9 ?_
  refine wp_nh (fun h6 e7 => ?_)
  replace H := H h6 e7
  refine wp_aload_n 0 rfl rfl dX5_init_12 ?_
  refine WP.at 13 rfl ?_
  refine wp_bipush (13 : Int32) (by decide) dX5_init_13 ?_
  obtain ⟨q8, H⟩ := H
  refine wp_newai ((21, l0.2) : xN) (13) (by decide) rfl q8 1 ⟨(Nat.le_of_ble_eq_true rfl), (Nat.le_of_ble_eq_true rfl), (Nat.le_of_ble_eq_true rfl)⟩ (Nat.le_of_ble_eq_true rfl) ac_int dX5_init_15 ?_
  refine wp_nh (fun h9 e10 => ?_)
  replace H := H h9 e10
  refine wp_putrF coX5 2 (Nat.le_of_ble_eq_true rfl) fl_X5_15 rfl rfl ⟨rfl, by decide⟩ rfl (Or.inr ⟨_, rfl⟩) q5 (by intro z; cases z) dX5_init_17 ?_
  refine wp_nh (fun h11 e12 => ?_)
  replace H := H h11 e12
  refine wp_aload_n 0 rfl rfl dX5_init_20 ?_
  obtain ⟨q13, H⟩ := H
  refine wp_new coX2 ((4, l0.2) : xN) rfl q13 dfX2 (Nat.le_of_ble_eq_true rfl) (Nat.le_of_ble_eq_true rfl) cl_X5_19.1 cl_X5_19.2.1 cl_X5_19.2.2 dX5_init_21 ?_
  refine wp_nh (fun h14 e15 => ?_)
  replace H := H h14 e15
  refine wp_dup rfl dX5_init_24 ?_
  refine WP.at 25 rfl ?_
  refine wp_cN (M2 := M_F_init) ((4, l0.2) : xN) (Nat.le_of_ble_eq_true rfl) [] rfl lN_X5_21 ⟨rfl, rfl⟩ mo_F_init (Nat.le_of_ble_eq_true rfl) ⟨(Nat.le_of_ble_eq_true rfl), (Nat.le_of_ble_eq_true rfl)⟩ (Nat.le_of_ble_eq_true rfl) (Nat.le_of_ble_eq_true rfl) dX5_init_25 (t_F_init ((4, l0.2) : xN) _ _ H) (fun h16 H => ?_)
  refine wp_putrF coX5 3 (Nat.le_of_ble_eq_true rfl) fl_X5_22 rfl rfl ⟨rfl, by decide⟩ rfl (Or.inl ⟨_, rfl⟩) q5 (by intro z; cases z) dX5_init_28 ?_
  refine wp_nh (fun h17 e18 => ?_)
  replace H := H h17 e18
  refine WP.at 31 rfl ?_
  refine wp_aload_n 0 rfl rfl dX5_init_31 ?_
  refine wp_bipush (12 : Int32) (by decide) dX5_init_32 ?_
  obtain ⟨q19, H⟩ := H
  refine wp_newai ((22, l0.2) : xN) (12) (by decide) rfl q19 1 ⟨(Nat.le_of_ble_eq_true rfl), (Nat.le_of_ble_eq_true rfl), (Nat.le_of_ble_eq_true rfl)⟩ (Nat.le_of_ble_eq_true rfl) ac_int dX5_init_34 ?_
  refine wp_nh (fun h20 e21 => ?_)
  replace H := H h20 e21
  refine wp_putrF coX5 4 (Nat.le_of_ble_eq_true rfl) fl_X5_26 rfl rfl ⟨rfl, by decide⟩ rfl (Or.inr ⟨_, rfl⟩) q5 (by intro z; cases z) dX5_init_36 ?_
  refine wp_nh (fun h22 e23 => ?_)
  replace H := H h22 e23
  refine wp_aload_n 0 rfl rfl dX5_init_39 ?_
  refine wp_iconst (0 : Int32) (by decide) dX5_init_40 ?_
  refine wp_puti coX5 7 (Nat.le_of_ble_eq_true rfl) fl_X5_29 rfl rfl ⟨rfl, rfl⟩ q5 dX5_init_41 ?_
  refine wp_nh (fun h24 e25 => ?_)
  replace H := H h24 e25
  refine wp_aload_n 0 rfl rfl dX5_init_44 ?_
  refine WP.at 45 rfl ?_
  refine wp_iload_n 1 rfl rfl dX5_init_45 ?_
  refine wp_putiF coX5 0 (Nat.le_of_ble_eq_true rfl) fl_X5_33 rfl rfl ⟨rfl, by decide⟩ rfl ⟨rfl, rfl⟩ q5 dX5_init_46 ?_
  refine wp_nh (fun h26 e27 => ?_)
  replace H := H h26 e27
  refine wp_aload_n 0 rfl rfl dX5_init_49 ?_
  refine wp_iload_n 1 rfl rfl dX5_init_50 ?_
  refine wp_puti coX5 6 (Nat.le_of_ble_eq_true rfl) fl_X5_36 rfl rfl ⟨rfl, rfl⟩ q5 dX5_init_51 ?_
  refine wp_nh (fun h28 e29 => ?_)
  replace H := H h28 e29
  exact wp_vret trivial dX5_init_54 H
def p_T_race (l0 : xN) (l1 : Int32) (h : xH) (Q : Int32 → xH → Prop) : Prop := ((l1 < (2 : Int32) → Q (-3 : Int32) h) ∧ (¬ l1 < (2 : Int32) → ((l1 ≤ (12 : Int32) → (kd l0.1 = (1, 9)) ∧ (((hI h l0 10) < (12 : Int32) → (hS h ((6, (hI h l0 10).toNatClampNeg) : xN) = 0) ∧ ∀ h6 : xH, h6 = nW h ((6, (hI h l0 10).toNatClampNeg) : xN) 0 → p_R_init ((6, (hI h l0 10).toNatClampNeg) : xN) l1 h6 (fun h8 : xH => (kd (hR h l0 0).1 = (5, 4)) ∧ (vp_in (hI h l0 10) (hS h8 (hR h l0 0) - 1)) ∧ ∀ h11 : xH, h11 = sR h8 (hR h l0 0) (hI h l0 10).toNatClampNeg ((6, (hI h l0 10).toNatClampNeg) : xN) → ∀ h13 : xH, h13 = sI h11 l0 10 ((hI h11 l0 10) + (1 : Int32)) → Q ((hI h13 l0 10) - (1 : Int32)) h13)) ∧ (¬ (hI h l0 10) < (12 : Int32) → Q (-7 : Int32) h))) ∧ (¬ l1 ≤ (12 : Int32) → Q (-3 : Int32) h))))
set_option maxRecDepth 100000 in
set_option maxHeartbeats 4000000 in
theorem t_T_race (l0 : xN) (l1 : Int32) (h : xH) (Q : Int32 → xH → Prop) (H : p_T_race l0 l1 h Q) : WP M_T_race 0 [(0, xr l0), (1, xi l1)] [] h 0 (qi Q) := by
  unfold p_T_race at H
  refine wp_iload_n 1 rfl rfl dX10_race_0 ?_
  refine wp_iconst (2 : Int32) (by decide) dX10_race_1 ?_
  refine WP.at 2 rfl ?_
  refine wp_icmp_lt 11 (by decide) dX10_race_2 (fun c1 => ?_) (fun c1 => ?_)
  · replace H := H.1 c1
    refine wp_bipush (-3 : Int32) (by decide) dX10_race_11 ?_
    exact wp_iret trivial dX10_race_13 H
  · replace H := H.2 c1
    refine wp_iload_n 1 rfl rfl dX10_race_5 ?_
    refine wp_bipush (12 : Int32) (by decide) dX10_race_6 ?_
    refine WP.at 8 rfl ?_
    refine wp_icmp_le 14 (by decide) dX10_race_8 (fun c2 => ?_) (fun c2 => ?_)
    · replace H := H.1 c2
      refine wp_aload_n 0 rfl rfl dX10_race_14 ?_
      obtain ⟨q3, H⟩ := H
      refine wp_geti coX10 10 (Nat.le_of_ble_eq_true rfl) fl_X10_69 rfl q3 dX10_race_15 ?_
      refine wp_bipush (12 : Int32) (by decide) dX10_race_18 ?_
      refine WP.at 20 rfl ?_
      refine wp_icmp_lt 26 (by decide) dX10_race_20 (fun c4 => ?_) (fun c4 => ?_)
      · replace H := H.1 c4
        refine wp_aload_n 0 rfl rfl dX10_race_26 ?_
        refine wp_getr coX10 0 (Nat.le_of_ble_eq_true rfl) fl_X10_11 rfl q3 dX10_race_27 ?_
        refine wp_aload_n 0 rfl rfl dX10_race_30 ?_
        refine wp_geti coX10 10 (Nat.le_of_ble_eq_true rfl) fl_X10_69 rfl q3 dX10_race_31 ?_
        obtain ⟨q5, H⟩ := H
        refine wp_new coX5 ((6, (hI h l0 10).toNatClampNeg) : xN) rfl q5 dfX5 (Nat.le_of_ble_eq_true rfl) (Nat.le_of_ble_eq_true rfl) cl_X10_9.1 cl_X10_9.2.1 cl_X10_9.2.2 dX10_race_34 ?_
        refine wp_nh (fun h6 e7 => ?_)
        replace H := H h6 e7
        refine wp_dup rfl dX10_race_37 ?_
        refine wp_iload_n 1 rfl rfl dX10_race_38 ?_
        refine WP.at 39 rfl ?_
        refine WP.at 39 rfl ?_
        refine wp_cI (M2 := M_R_init) ((6, (hI h l0 10).toNatClampNeg) : xN) (Nat.le_of_ble_eq_true rfl) [xi l1] rfl lI_X10_73 ⟨rfl, rfl⟩ mo_R_init (Nat.le_of_ble_eq_true rfl) ⟨(Nat.le_of_ble_eq_true rfl), (Nat.le_of_ble_eq_true rfl)⟩ (Nat.le_of_ble_eq_true rfl) (Nat.le_of_ble_eq_true rfl) dX10_race_39 (t_R_init ((6, (hI h l0 10).toNatClampNeg) : xN) l1 _ _ H) (fun h8 H => ?_)
        obtain ⟨q9, H⟩ := H
        obtain ⟨q10, H⟩ := H
        refine wp_aastore coX5 q9 (rfl : kd (((6, (hI h l0 10).toNatClampNeg) : xN)).1 = (1, 4)) q10 dX10_race_42 ?_
        refine wp_nh (fun h11 e12 => ?_)
        replace H := H h11 e12
        refine wp_aload_n 0 rfl rfl dX10_race_43 ?_
        refine wp_dup rfl dX10_race_44 ?_
        refine wp_geti coX10 10 (Nat.le_of_ble_eq_true rfl) fl_X10_69 rfl q3 dX10_race_45 ?_
        refine wp_iconst (1 : Int32) (by decide) dX10_race_48 ?_
        refine wp_iadd dX10_race_49 ?_
        refine wp_puti coX10 10 (Nat.le_of_ble_eq_true rfl) fl_X10_69 rfl rfl ⟨rfl, rfl⟩ q3 dX10_race_50 ?_
        refine wp_nh (fun h13 e14 => ?_)
        replace H := H h13 e14
        refine WP.at 53 rfl ?_
        refine wp_aload_n 0 rfl rfl dX10_race_53 ?_
        refine wp_geti coX10 10 (Nat.le_of_ble_eq_true rfl) fl_X10_69 rfl q3 dX10_race_54 ?_
        refine wp_iconst (1 : Int32) (by decide) dX10_race_57 ?_
        refine wp_isub dX10_race_58 ?_
        exact wp_iret trivial dX10_race_59 H
      · replace H := H.2 c4
        refine wp_bipush (-7 : Int32) (by decide) dX10_race_23 ?_
        exact wp_iret trivial dX10_race_25 H
    · replace H := H.2 c2
      refine wp_bipush (-3 : Int32) (by decide) dX10_race_11 ?_
      exact wp_iret trivial dX10_race_13 H
def p_M_in (l0 : Int32) (l1 : Int32) (l2 : Int32) (h : xH) (Q : Int32 → xH → Prop) : Prop := ((l0 < l1 → Q (0 : Int32) h) ∧ (¬ l0 < l1 → ((l2 < l0 → Q (0 : Int32) h) ∧ (¬ l2 < l0 → Q (1 : Int32) h))))
set_option maxRecDepth 100000 in
set_option maxHeartbeats 4000000 in
theorem t_M_in (l0 : Int32) (l1 : Int32) (l2 : Int32) (h : xH) (Q : Int32 → xH → Prop) (H : p_M_in l0 l1 l2 h Q) : WP M_M_in 0 [(0, xi l0), (1, xi l1), (2, xi l2)] [] h 0 (qi Q) := by
  unfold p_M_in at H
  refine wp_iload_n 0 rfl rfl dX11_in_0 ?_
  refine wp_iload_n 1 rfl rfl dX11_in_1 ?_
  refine WP.at 2 rfl ?_
  refine wp_icmp_lt 14 (by decide) dX11_in_2 (fun c1 => ?_) (fun c1 => ?_)
  · replace H := H.1 c1
    refine wp_iconst (0 : Int32) (by decide) dX11_in_14 ?_
    exact wp_iret (Or.inl rfl) dX11_in_15 H
  · replace H := H.2 c1
    refine wp_iload_n 0 rfl rfl dX11_in_5 ?_
    refine wp_iload_n 2 rfl rfl dX11_in_6 ?_
    refine WP.at 7 rfl ?_
    refine wp_icmp_gt 14 (by decide) dX11_in_7 (fun c2 => ?_) (fun c2 => ?_)
    · replace H := H.1 c2
      refine wp_iconst (0 : Int32) (by decide) dX11_in_14 ?_
      exact wp_iret (Or.inl rfl) dX11_in_15 H
    · replace H := H.2 c2
      refine wp_iconst (1 : Int32) (by decide) dX11_in_10 ?_
      refine WP.at 11 rfl ?_
      refine wp_goto 15 (by decide) dX11_in_11 ?_
      exact wp_iret (Or.inr rfl) dX11_in_15 H
def p_M_race (l0 : xN) (l1 : Int32) (h : xH) (Q : Int32 → xH → Prop) : Prop := p_M_in l1 (2 : Int32) (12 : Int32) h (fun (v2 : Int32) (h1 : xH) => ((¬ v2 = 0 → (kd l0.1 = (1, 10)) ∧ ((¬ (hI h1 l0 0) = (12 : Int32) → (kd (hR h1 l0 1).1 = (2, 0)) ∧ (vp_in (hI h1 l0 0) (hS h1 (hR h1 l0 1) - 1)) ∧ ∀ h8 : xH, h8 = sI h1 (hR h1 l0 1) (hI h1 l0 0).toNatClampNeg (0 : Int32) → (kd (hR h8 l0 2).1 = (2, 0)) ∧ (vp_in (hI h8 l0 0) (hS h8 (hR h8 l0 2) - 1)) ∧ ∀ h12 : xH, h12 = sI h8 (hR h8 l0 2) (hI h8 l0 0).toNatClampNeg l1 → (kd (hR h12 l0 3).1 = (2, 0)) ∧ (vp_in (hI h12 l0 0) (hS h12 (hR h12 l0 3) - 1)) ∧ ∀ h16 : xH, h16 = sI h12 (hR h12 l0 3) (hI h12 l0 0).toNatClampNeg (0 : Int32) → ∀ h18 : xH, h18 = sI h16 l0 0 ((hI h16 l0 0) + (1 : Int32)) → Q ((hI h18 l0 0) - (1 : Int32)) h18) ∧ ((hI h1 l0 0) = (12 : Int32) → Q (-7 : Int32) h1))) ∧ (v2 = 0 → Q (-3 : Int32) h1)))
set_option maxRecDepth 100000 in
set_option maxHeartbeats 4000000 in
theorem t_M_race (l0 : xN) (l1 : Int32) (h : xH) (Q : Int32 → xH → Prop) (H : p_M_race l0 l1 h Q) : WP M_M_race 0 [(0, xr l0), (1, xi l1)] [] h 0 (qi Q) := by
  unfold p_M_race at H
  refine wp_iload_n 1 rfl rfl dX11_race_0 ?_
  refine wp_iconst (2 : Int32) (by decide) dX11_race_1 ?_
  refine wp_bipush (12 : Int32) (by decide) dX11_race_2 ?_
  refine WP.at 4 rfl ?_
  refine wp_cSi (M2 := M_M_in) [xi l1, xi (2 : Int32), xi (12 : Int32)] rfl ls_X11_172 mo_M_in (Nat.le_of_ble_eq_true rfl) ⟨(Nat.le_of_ble_eq_true rfl), (Nat.le_of_ble_eq_true rfl)⟩ (Nat.le_of_ble_eq_true rfl) (Nat.le_of_ble_eq_true rfl) dX11_race_4 (t_M_in l1 (2 : Int32) (12 : Int32) _ _ H) (fun v2 h1 H => ?_)
  refine WP.at 7 rfl ?_
  refine wp_if_ne 13 (by decide) dX11_race_7 (fun c3 => ?_) (fun c3 => ?_)
  · replace H := H.1 c3
    refine wp_aload_n 0 rfl rfl dX11_race_13 ?_
    obtain ⟨q4, H⟩ := H
    refine wp_geti coX11 0 (Nat.le_of_ble_eq_true rfl) fl_X11_168 rfl q4 dX11_race_14 ?_
    refine wp_bipush (12 : Int32) (by decide) dX11_race_17 ?_
    refine WP.at 19 rfl ?_
    refine wp_icmp_ne 25 (by decide) dX11_race_19 (fun c5 => ?_) (fun c5 => ?_)
    · replace H := H.1 c5
      refine wp_aload_n 0 rfl rfl dX11_race_25 ?_
      refine wp_getr coX11 1 (Nat.le_of_ble_eq_true rfl) fl_X11_7 rfl q4 dX11_race_26 ?_
      refine wp_aload_n 0 rfl rfl dX11_race_29 ?_
      refine wp_geti coX11 0 (Nat.le_of_ble_eq_true rfl) fl_X11_168 rfl q4 dX11_race_30 ?_
      refine wp_iconst (0 : Int32) (by decide) dX11_race_33 ?_
      obtain ⟨q6, H⟩ := H
      obtain ⟨q7, H⟩ := H
      refine wp_iastore q6 q7 dX11_race_34 ?_
      refine wp_nh (fun h8 e9 => ?_)
      replace H := H h8 e9
      refine wp_aload_n 0 rfl rfl dX11_race_35 ?_
      refine WP.at 36 rfl ?_
      refine wp_getr coX11 2 (Nat.le_of_ble_eq_true rfl) fl_X11_13 rfl q4 dX11_race_36 ?_
      refine wp_aload_n 0 rfl rfl dX11_race_39 ?_
      refine wp_geti coX11 0 (Nat.le_of_ble_eq_true rfl) fl_X11_168 rfl q4 dX11_race_40 ?_
      refine wp_iload_n 1 rfl rfl dX11_race_43 ?_
      obtain ⟨q10, H⟩ := H
      obtain ⟨q11, H⟩ := H
      refine wp_iastore q10 q11 dX11_race_44 ?_
      refine wp_nh (fun h12 e13 => ?_)
      replace H := H h12 e13
      refine wp_aload_n 0 rfl rfl dX11_race_45 ?_
      refine wp_getr coX11 3 (Nat.le_of_ble_eq_true rfl) fl_X11_16 rfl q4 dX11_race_46 ?_
      refine wp_aload_n 0 rfl rfl dX11_race_49 ?_
      refine WP.at 50 rfl ?_
      refine wp_geti coX11 0 (Nat.le_of_ble_eq_true rfl) fl_X11_168 rfl q4 dX11_race_50 ?_
      refine wp_iconst (0 : Int32) (by decide) dX11_race_53 ?_
      obtain ⟨q14, H⟩ := H
      obtain ⟨q15, H⟩ := H
      refine wp_iastore q14 q15 dX11_race_54 ?_
      refine wp_nh (fun h16 e17 => ?_)
      replace H := H h16 e17
      refine wp_aload_n 0 rfl rfl dX11_race_55 ?_
      refine wp_dup rfl dX11_race_56 ?_
      refine wp_geti coX11 0 (Nat.le_of_ble_eq_true rfl) fl_X11_168 rfl q4 dX11_race_57 ?_
      refine wp_iconst (1 : Int32) (by decide) dX11_race_60 ?_
      refine wp_iadd dX11_race_61 ?_
      refine WP.at 62 rfl ?_
      refine wp_puti coX11 0 (Nat.le_of_ble_eq_true rfl) fl_X11_168 rfl rfl ⟨rfl, rfl⟩ q4 dX11_race_62 ?_
      refine wp_nh (fun h18 e19 => ?_)
      replace H := H h18 e19
      refine wp_aload_n 0 rfl rfl dX11_race_65 ?_
      refine wp_geti coX11 0 (Nat.le_of_ble_eq_true rfl) fl_X11_168 rfl q4 dX11_race_66 ?_
      refine wp_iconst (1 : Int32) (by decide) dX11_race_69 ?_
      refine wp_isub dX11_race_70 ?_
      exact wp_iret trivial dX11_race_71 H
    · replace H := H.2 c5
      refine wp_bipush (-7 : Int32) (by decide) dX11_race_22 ?_
      exact wp_iret trivial dX11_race_24 H
  · replace H := H.2 c3
    refine wp_bipush (-3 : Int32) (by decide) dX11_race_10 ?_
    exact wp_iret trivial dX11_race_12 H
def p_T_findRace (l0 : xN) (l1 : Int32) (h : xH) (Q : xN → xH → Prop) : Prop := ((l1 < 0 → Q ((0, 0) : xN) h) ∧ (¬ l1 < 0 → (kd l0.1 = (1, 9)) ∧ ((l1 < (hI h l0 10) → (kd (hR h l0 0).1 = (5, 4)) ∧ (vp_in l1 (hS h (hR h l0 0) - 1)) ∧ Q (hR h (hR h l0 0) l1.toNatClampNeg) h) ∧ (¬ l1 < (hI h l0 10) → Q ((0, 0) : xN) h))))
set_option maxRecDepth 100000 in
set_option maxHeartbeats 4000000 in
theorem t_T_findRace (l0 : xN) (l1 : Int32) (h : xH) (Q : xN → xH → Prop) (H : p_T_findRace l0 l1 h Q) : WP M_T_findRace 0 [(0, xr l0), (1, xi l1)] [] h 0 (qr Q) := by
  unfold p_T_findRace at H
  refine wp_iload_n 1 rfl rfl dX10_findRace_0 ?_
  refine WP.at 1 rfl ?_
  refine wp_if_lt 12 (by decide) dX10_findRace_1 (fun c1 => ?_) (fun c1 => ?_)
  · replace H := H.1 c1
    refine wp_null dX10_findRace_12 ?_
    refine WP.at 13 rfl ?_
    refine wp_goto 22 (by decide) dX10_findRace_13 ?_
    exact wp_aret trivial dX10_findRace_22 H
  · replace H := H.2 c1
    refine wp_iload_n 1 rfl rfl dX10_findRace_4 ?_
    refine wp_aload_n 0 rfl rfl dX10_findRace_5 ?_
    obtain ⟨q2, H⟩ := H
    refine wp_geti coX10 10 (Nat.le_of_ble_eq_true rfl) fl_X10_69 rfl q2 dX10_findRace_6 ?_
    refine WP.at 9 rfl ?_
    refine wp_icmp_lt 16 (by decide) dX10_findRace_9 (fun c3 => ?_) (fun c3 => ?_)
    · replace H := H.1 c3
      refine wp_aload_n 0 rfl rfl dX10_findRace_16 ?_
      refine wp_getr coX10 0 (Nat.le_of_ble_eq_true rfl) fl_X10_11 rfl q2 dX10_findRace_17 ?_
      refine wp_iload_n 1 rfl rfl dX10_findRace_20 ?_
      obtain ⟨q4, H⟩ := H
      obtain ⟨q5, H⟩ := H
      refine wp_aaload q4 q5 dX10_findRace_21 ?_
      exact wp_aret trivial dX10_findRace_22 H
    · replace H := H.2 c3
      refine wp_null dX10_findRace_12 ?_
      refine WP.at 13 rfl ?_
      refine wp_goto 22 (by decide) dX10_findRace_13 ?_
      exact wp_aret trivial dX10_findRace_22 H
def p_T_areTerms (l0 : Int32) (l1 : Int32) (h : xH) (Q : Int32 → xH → Prop) : Prop := ((l0 < 0 → Q (0 : Int32) h) ∧ (¬ l0 < 0 → (((500 : Int32) < l0 → Q (0 : Int32) h) ∧ (¬ (500 : Int32) < l0 → ((l1 < (10 : Int32) → Q (0 : Int32) h) ∧ (¬ l1 < (10 : Int32) → (((1000 : Int32) < l1 → Q (0 : Int32) h) ∧ (¬ (1000 : Int32) < l1 → ((¬ (l1 - l1 / (10 : Int32) * (10 : Int32)) = 0 → Q (0 : Int32) h) ∧ ((l1 - l1 / (10 : Int32) * (10 : Int32)) = 0 → Q (1 : Int32) h))))))))))
set_option maxRecDepth 100000 in
set_option maxHeartbeats 4000000 in
theorem t_T_areTerms (l0 : Int32) (l1 : Int32) (h : xH) (Q : Int32 → xH → Prop) (H : p_T_areTerms l0 l1 h Q) : WP M_T_areTerms 0 [(0, xi l0), (1, xi l1)] [] h 0 (qi Q) := by
  unfold p_T_areTerms at H
  refine wp_iload_n 0 rfl rfl dX10_areTerms_0 ?_
  refine WP.at 1 rfl ?_
  refine wp_if_lt 35 (by decide) dX10_areTerms_1 (fun c1 => ?_) (fun c1 => ?_)
  · replace H := H.1 c1
    refine wp_iconst (0 : Int32) (by decide) dX10_areTerms_35 ?_
    exact wp_iret (Or.inl rfl) dX10_areTerms_36 H
  · replace H := H.2 c1
    refine wp_iload_n 0 rfl rfl dX10_areTerms_4 ?_
    refine wp_sipush (500 : Int32) (by decide) dX10_areTerms_5 ?_
    refine WP.at 8 rfl ?_
    refine wp_icmp_gt 35 (by decide) dX10_areTerms_8 (fun c2 => ?_) (fun c2 => ?_)
    · replace H := H.1 c2
      refine wp_iconst (0 : Int32) (by decide) dX10_areTerms_35 ?_
      exact wp_iret (Or.inl rfl) dX10_areTerms_36 H
    · replace H := H.2 c2
      refine wp_iload_n 1 rfl rfl dX10_areTerms_11 ?_
      refine wp_bipush (10 : Int32) (by decide) dX10_areTerms_12 ?_
      refine WP.at 14 rfl ?_
      refine wp_icmp_lt 35 (by decide) dX10_areTerms_14 (fun c3 => ?_) (fun c3 => ?_)
      · replace H := H.1 c3
        refine wp_iconst (0 : Int32) (by decide) dX10_areTerms_35 ?_
        exact wp_iret (Or.inl rfl) dX10_areTerms_36 H
      · replace H := H.2 c3
        refine wp_iload_n 1 rfl rfl dX10_areTerms_17 ?_
        refine wp_sipush (1000 : Int32) (by decide) dX10_areTerms_18 ?_
        refine WP.at 21 rfl ?_
        refine wp_icmp_gt 35 (by decide) dX10_areTerms_21 (fun c4 => ?_) (fun c4 => ?_)
        · replace H := H.1 c4
          refine wp_iconst (0 : Int32) (by decide) dX10_areTerms_35 ?_
          exact wp_iret (Or.inl rfl) dX10_areTerms_36 H
        · replace H := H.2 c4
          refine wp_iload_n 1 rfl rfl dX10_areTerms_24 ?_
          refine wp_bipush (10 : Int32) (by decide) dX10_areTerms_25 ?_
          refine wp_irem (by decide) dX10_areTerms_27 ?_
          refine WP.at 28 rfl ?_
          refine wp_if_ne 35 (by decide) dX10_areTerms_28 (fun c5 => ?_) (fun c5 => ?_)
          · replace H := H.1 c5
            refine wp_iconst (0 : Int32) (by decide) dX10_areTerms_35 ?_
            exact wp_iret (Or.inl rfl) dX10_areTerms_36 H
          · replace H := H.2 c5
            refine wp_iconst (1 : Int32) (by decide) dX10_areTerms_31 ?_
            refine WP.at 32 rfl ?_
            refine wp_goto 36 (by decide) dX10_areTerms_32 ?_
            exact wp_iret (Or.inr rfl) dX10_areTerms_36 H
def p_T_poolNumber (l0 : Int32) (l1 : Int32) (h : xH) (Q : Int32 → xH → Prop) : Prop := Q (((4 : Int32) * l0) + l1) h
set_option maxRecDepth 100000 in
set_option maxHeartbeats 4000000 in
theorem t_T_poolNumber (l0 : Int32) (l1 : Int32) (h : xH) (Q : Int32 → xH → Prop) (H : p_T_poolNumber l0 l1 h Q) : WP M_T_poolNumber 0 [(0, xi l0), (1, xi l1)] [] h 0 (qi Q) := by
  unfold p_T_poolNumber at H
  refine wp_iconst (4 : Int32) (by decide) dX10_poolNumber_0 ?_
  refine wp_iload_n 0 rfl rfl dX10_poolNumber_1 ?_
  refine wp_imul dX10_poolNumber_2 ?_
  refine wp_iload_n 1 rfl rfl dX10_poolNumber_3 ?_
  refine wp_iadd dX10_poolNumber_4 ?_
  exact wp_iret trivial dX10_poolNumber_5 H
def p_Po_init_j82 (s0 : Int32) (s1 : Int32) (l0 : xN) (k : Nat) (h : xH) (Q : xH → Prop) : Prop := ∀ v26 : Int32, v26 = s1 * s0 → (v26.toInt = (v26.toNatClampNeg : Int) ∧ v26.toNatClampNeg ≤ 3000) ∧ (hS h ((17, l0.2) : xN) = 0) ∧ (k + 2 ≤ 5) ∧ ∀ h31 : xH, h31 = nW h ((17, l0.2) : xN) (v26.toNatClampNeg) → (kd l0.1 = (1, 3)) ∧ ∀ h34 : xH, h34 = sR h31 l0 6 ((17, l0.2) : xN) → (v26.toInt = (v26.toNatClampNeg : Int) ∧ v26.toNatClampNeg ≤ 3000) ∧ (hS h34 ((18, l0.2) : xN) = 0) ∧ (k + 4 ≤ 5) ∧ ∀ h39 : xH, h39 = nW h34 ((18, l0.2) : xN) (v26.toNatClampNeg) → ∀ h41 : xH, h41 = sR h39 l0 7 ((18, l0.2) : xN) → Q h41
set_option maxRecDepth 100000 in
set_option maxHeartbeats 4000000 in
theorem t_Po_init_j82 (s0 : Int32) (s1 : Int32) (l0 : xN) (k : Nat) (h : xH) (Q : xH → Prop) (H : p_Po_init_j82 s0 s1 l0 k h Q) : WP M_Po_init 82 [(0, xr l0)] [xi s0, xi s1] h k (qv Q) := by
  unfold p_Po_init_j82 at H
  refine wp_imul dX4_init_82 ?_
  refine wp_nm (fun v26 e27 => ?_)
  replace H := H v26 e27
  refine wp_istore (Nat.le_of_ble_eq_true rfl) dX4_init_83 (ls' := [(7, xi v26), (0, xr l0)]) rfl ?_
  refine wp_aload_n 0 rfl rfl dX4_init_85 ?_
  refine wp_iload rfl dX4_init_86 ?_
  obtain ⟨q28, H⟩ := H
  obtain ⟨q29, H⟩ := H
  obtain ⟨q30, H⟩ := H
  refine wp_newai ((17, l0.2) : xN) (v26.toNatClampNeg) q28.1 rfl q29 2 ⟨by have := q28.2; omega, (Nat.le_of_ble_eq_true rfl), by have := q28.2; omega⟩ q30 ac_int dX4_init_88 ?_
  refine wp_nh (fun h31 e32 => ?_)
  replace H := H h31 e32
  obtain ⟨q33, H⟩ := H
  refine wp_putrF coX4 6 (Nat.le_of_ble_eq_true rfl) fl_X4_35 rfl rfl ⟨rfl, by decide⟩ rfl (Or.inr ⟨_, rfl⟩) q33 (by intro z; cases z) dX4_init_90 ?_
  refine wp_nh (fun h34 e35 => ?_)
  replace H := H h34 e35
  refine wp_aload_n 0 rfl rfl dX4_init_93 ?_
  refine WP.at 94 rfl ?_
  refine wp_iload rfl dX4_init_94 ?_
  obtain ⟨q36, H⟩ := H
  obtain ⟨q37, H⟩ := H
  obtain ⟨q38, H⟩ := H
  refine wp_newai ((18, l0.2) : xN) (v26.toNatClampNeg) q36.1 rfl q37 2 ⟨by have := q36.2; omega, (Nat.le_of_ble_eq_true rfl), by have := q36.2; omega⟩ q38 ac_int dX4_init_96 ?_
  refine wp_nh (fun h39 e40 => ?_)
  replace H := H h39 e40
  refine wp_putrF coX4 7 (Nat.le_of_ble_eq_true rfl) fl_X4_38 rfl rfl ⟨rfl, by decide⟩ rfl (Or.inr ⟨_, rfl⟩) q33 (by intro z; cases z) dX4_init_98 ?_
  refine wp_nh (fun h41 e42 => ?_)
  replace H := H h41 e42
  exact wp_vret trivial dX4_init_101 H
def p_Po_init_j66 (s0 : Int32) (s1 : Int32) (l0 : xN) (l2 : Int32) (k : Nat) (h : xH) (Q : xH → Prop) : Prop := ∀ v23 : Int32, v23 = s1 * s0 → ((¬ l2 = (3 : Int32) → p_Po_init_j82 (1 : Int32) v23 l0 (k) h Q) ∧ (l2 = (3 : Int32) → p_Po_init_j82 (13 : Int32) v23 l0 (k) h Q))
set_option maxRecDepth 100000 in
set_option maxHeartbeats 4000000 in
theorem t_Po_init_j66 (s0 : Int32) (s1 : Int32) (l0 : xN) (l2 : Int32) (k : Nat) (h : xH) (Q : xH → Prop) (H : p_Po_init_j66 s0 s1 l0 l2 k h Q) : WP M_Po_init 66 [(0, xr l0), (2, xi l2)] [xi s0, xi s1] h k (qv Q) := by
  unfold p_Po_init_j66 at H
  refine wp_imul dX4_init_66 ?_
  refine wp_nm (fun v23 e24 => ?_)
  replace H := H v23 e24
  refine wp_istore (Nat.le_of_ble_eq_true rfl) dX4_init_67 (ls' := [(7, xi v23), (0, xr l0), (2, xi l2)]) rfl ?_
  refine wp_iload rfl dX4_init_69 ?_
  refine wp_iload_n 2 rfl rfl dX4_init_71 ?_
  refine wp_iconst (3 : Int32) (by decide) dX4_init_72 ?_
  refine WP.at 73 rfl ?_
  refine wp_icmp_ne 81 (by decide) dX4_init_73 (fun c25 => ?_) (fun c25 => ?_)
  · replace H := H.1 c25
    refine wp_iconst (1 : Int32) (by decide) dX4_init_81 ?_
    refine WP.at 82 rfl ?_
    exact WP.pick [1] rfl (t_Po_init_j82 (1 : Int32) v23 l0 (k) _ _ H)
  · replace H := H.2 c25
    refine wp_bipush (13 : Int32) (by decide) dX4_init_76 ?_
    refine WP.at 78 rfl ?_
    refine wp_goto 82 (by decide) dX4_init_78 ?_
    exact WP.pick [1] rfl (t_Po_init_j82 (13 : Int32) v23 l0 (k) _ _ H)
def p_Po_init (l0 : xN) (l1 : Int32) (l2 : Int32) (l3 : xN) (l4 : xN) (l5 : Int32) (l6 : Int32) (h : xH) (Q : xH → Prop) : Prop := (2 ≤ l0.1) ∧ (hS h ((19, l0.2) : xN) = 0) ∧ ∀ h3 : xH, h3 = nW h ((19, l0.2) : xN) (11) → (kd l0.1 = (1, 3)) ∧ ∀ h6 : xH, h6 = sR h3 l0 8 ((19, l0.2) : xN) → ∀ h8 : xH, h8 = sI h6 l0 0 l1 → ∀ h10 : xH, h10 = sI h8 l0 1 l2 → (l3.1 ≠ 1) ∧ ∀ h13 : xH, h13 = sR h10 l0 2 l3 → (l4.1 ≠ 1) ∧ ∀ h16 : xH, h16 = sR h13 l0 3 l4 → ∀ h18 : xH, h18 = sI h16 l0 4 l5 → ∀ h20 : xH, h20 = sI h18 l0 5 l6 → ((l2 = 0 → p_Po_init_j66 (1 : Int32) (13 : Int32) l0 l2 (1) h20 Q) ∧ (¬ l2 = 0 → ((¬ l2 = (1 : Int32) → p_Po_init_j66 (13 : Int32) (13 : Int32) l0 l2 (1) h20 Q) ∧ (l2 = (1 : Int32) → p_Po_init_j66 (1 : Int32) (13 : Int32) l0 l2 (1) h20 Q))))
set_option maxRecDepth 100000 in
set_option maxHeartbeats 4000000 in
theorem t_Po_init (l0 : xN) (l1 : Int32) (l2 : Int32) (l3 : xN) (l4 : xN) (l5 : Int32) (l6 : Int32) (h : xH) (Q : xH → Prop) (H : p_Po_init l0 l1 l2 l3 l4 l5 l6 h Q) : WP M_Po_init 0 [(0, xr l0), (1, xi l1), (2, xi l2), (3, xr l3), (4, xr l4), (5, xi l5), (6, xi l6)] [] h 0 (qv Q) := by
  unfold p_Po_init at H
  refine wp_aload_n 0 rfl rfl dX4_init_0 ?_
  obtain ⟨q1, H⟩ := H
  refine wp_oinit q1 lo_X4_3 op3.1 op3.2 (Nat.le_of_ble_eq_true rfl) (Nat.le_of_ble_eq_true rfl) (Nat.le_of_ble_eq_true rfl) dX4_init_1 ?_
  refine wp_aload_n 0 rfl rfl dX4_init_4 ?_
  refine wp_bipush (11 : Int32) (by decide) dX4_init_5 ?_
  obtain ⟨q2, H⟩ := H
  refine wp_newai ((19, l0.2) : xN) (11) (by decide) rfl q2 1 ⟨(Nat.le_of_ble_eq_true rfl), (Nat.le_of_ble_eq_true rfl), (Nat.le_of_ble_eq_true rfl)⟩ (Nat.le_of_ble_eq_true rfl) ac_int dX4_init_7 ?_
  refine wp_nh (fun h3 e4 => ?_)
  replace H := H h3 e4
  obtain ⟨q5, H⟩ := H
  refine wp_putrF coX4 8 (Nat.le_of_ble_eq_true rfl) fl_X4_9 rfl rfl ⟨rfl, by decide⟩ rfl (Or.inr ⟨_, rfl⟩) q5 (by intro z; cases z) dX4_init_9 ?_
  refine wp_nh (fun h6 e7 => ?_)
  replace H := H h6 e7
  refine wp_aload_n 0 rfl rfl dX4_init_12 ?_
  refine WP.at 13 rfl ?_
  refine wp_iload_n 1 rfl rfl dX4_init_13 ?_
  refine wp_putiF coX4 0 (Nat.le_of_ble_eq_true rfl) fl_X4_15 rfl rfl ⟨rfl, by decide⟩ rfl ⟨rfl, rfl⟩ q5 dX4_init_14 ?_
  refine wp_nh (fun h8 e9 => ?_)
  replace H := H h8 e9
  refine wp_aload_n 0 rfl rfl dX4_init_17 ?_
  refine wp_iload_n 2 rfl rfl dX4_init_18 ?_
  refine wp_putiF coX4 1 (Nat.le_of_ble_eq_true rfl) fl_X4_19 rfl rfl ⟨rfl, by decide⟩ rfl ⟨rfl, rfl⟩ q5 dX4_init_19 ?_
  refine wp_nh (fun h10 e11 => ?_)
  replace H := H h10 e11
  refine wp_aload_n 0 rfl rfl dX4_init_22 ?_
  refine wp_aload_n 3 rfl rfl dX4_init_23 ?_
  obtain ⟨q12, H⟩ := H
  refine wp_putrF coX4 2 (Nat.le_of_ble_eq_true rfl) fl_X4_22 rfl rfl ⟨rfl, by decide⟩ rfl (Or.inl ⟨_, rfl⟩) q5 q12 dX4_init_24 ?_
  refine wp_nh (fun h13 e14 => ?_)
  replace H := H h13 e14
  refine WP.at 27 rfl ?_
  refine wp_aload_n 0 rfl rfl dX4_init_27 ?_
  refine wp_aload rfl dX4_init_28 ?_
  obtain ⟨q15, H⟩ := H
  refine wp_putrF coX4 3 (Nat.le_of_ble_eq_true rfl) fl_X4_26 rfl rfl ⟨rfl, by decide⟩ rfl (Or.inl ⟨_, rfl⟩) q5 q15 dX4_init_30 ?_
  refine wp_nh (fun h16 e17 => ?_)
  replace H := H h16 e17
  refine wp_aload_n 0 rfl rfl dX4_init_33 ?_
  refine wp_iload rfl dX4_init_34 ?_
  refine wp_putiF coX4 4 (Nat.le_of_ble_eq_true rfl) fl_X4_29 rfl rfl ⟨rfl, by decide⟩ rfl ⟨rfl, rfl⟩ q5 dX4_init_36 ?_
  refine wp_nh (fun h18 e19 => ?_)
  replace H := H h18 e19
  refine wp_aload_n 0 rfl rfl dX4_init_39 ?_
  refine wp_iload rfl dX4_init_40 ?_
  refine WP.at 42 rfl ?_
  refine wp_putiF coX4 5 (Nat.le_of_ble_eq_true rfl) fl_X4_32 rfl rfl ⟨rfl, by decide⟩ rfl ⟨rfl, rfl⟩ q5 dX4_init_42 ?_
  refine wp_nh (fun h20 e21 => ?_)
  replace H := H h20 e21
  refine wp_bipush (13 : Int32) (by decide) dX4_init_45 ?_
  refine wp_istore (Nat.le_of_ble_eq_true rfl) dX4_init_47 (ls' := [(7, xi (13 : Int32)), (0, xr l0), (1, xi l1), (2, xi l2), (3, xr l3), (4, xr l4), (5, xi l5), (6, xi l6)]) rfl ?_
  refine wp_iload rfl dX4_init_49 ?_
  refine wp_iload_n 2 rfl rfl dX4_init_51 ?_
  refine WP.at 52 rfl ?_
  refine wp_if_eq 60 (by decide) dX4_init_52 (fun c22 => ?_) (fun c22 => ?_)
  · replace H := H.1 c22
    refine wp_iconst (1 : Int32) (by decide) dX4_init_60 ?_
    refine WP.at 61 rfl ?_
    refine wp_goto 66 (by decide) dX4_init_61 ?_
    exact WP.pick [1, 3] rfl (t_Po_init_j66 (1 : Int32) (13 : Int32) l0 l2 (1) _ _ H)
  · replace H := H.2 c22
    refine wp_iload_n 2 rfl rfl dX4_init_55 ?_
    refine wp_iconst (1 : Int32) (by decide) dX4_init_56 ?_
    refine WP.at 57 rfl ?_
    refine wp_icmp_ne 64 (by decide) dX4_init_57 (fun c43 => ?_) (fun c43 => ?_)
    · replace H := H.1 c43
      refine wp_bipush (13 : Int32) (by decide) dX4_init_64 ?_
      refine WP.at 66 rfl ?_
      exact WP.pick [1, 3] rfl (t_Po_init_j66 (13 : Int32) (13 : Int32) l0 l2 (1) _ _ H)
    · replace H := H.2 c43
      refine wp_iconst (1 : Int32) (by decide) dX4_init_60 ?_
      refine WP.at 61 rfl ?_
      refine wp_goto 66 (by decide) dX4_init_61 ?_
      exact WP.pick [1, 3] rfl (t_Po_init_j66 (1 : Int32) (13 : Int32) l0 l2 (1) _ _ H)
def p_T_pool (l0 : xN) (l1 : Int32) (l2 : Int32) (l3 : Int32) (l4 : Int32) (h : xH) (Q : Int32 → xH → Prop) : Prop := (kd l0.1 = (1, 9)) ∧ p_T_findRace l0 l1 h (fun (v3 : xN) (h2 : xH) => ((¬ v3.1 = 0 → ((l2 < 0 → Q (-3 : Int32) h2) ∧ (¬ l2 < 0 → (((3 : Int32) < l2 → Q (-3 : Int32) h2) ∧ (¬ (3 : Int32) < l2 → p_T_areTerms l3 l4 h2 (fun (v8 : Int32) (h7 : xH) => ((¬ v8 = 0 → p_T_poolNumber l1 l2 h7 (fun (v11 : Int32) (h10 : xH) => (kd (hR h10 l0 1).1 = (5, 3)) ∧ (vp_in v11 (hS h10 (hR h10 l0 1) - 1)) ∧ (((hR h10 (hR h10 l0 1) v11.toNatClampNeg).1 = 0 → (kd v3.1 = (1, 4)) ∧ (((hI h10 v3 7) = 0 → (hS h10 ((5, v11.toNatClampNeg) : xN) = 0) ∧ ∀ h18 : xH, h18 = nW h10 ((5, v11.toNatClampNeg) : xN) 0 → p_Po_init ((5, v11.toNatClampNeg) : xN) v11 l2 v3 v3 l3 l4 h18 (fun h20 : xH => (vp_in v11 (hS h20 (hR h10 l0 1) - 1)) ∧ ∀ h22 : xH, h22 = sR h20 (hR h10 l0 1) v11.toNatClampNeg ((5, v11.toNatClampNeg) : xN) → Q v11 h22)) ∧ (¬ (hI h10 v3 7) = 0 → Q (-6 : Int32) h10))) ∧ (¬ (hR h10 (hR h10 l0 1) v11.toNatClampNeg).1 = 0 → Q (-4 : Int32) h10)))) ∧ (v8 = 0 → Q (-3 : Int32) h7)))))))) ∧ (v3.1 = 0 → Q (-2 : Int32) h2)))
set_option maxRecDepth 100000 in
set_option maxHeartbeats 4000000 in
theorem t_T_pool (l0 : xN) (l1 : Int32) (l2 : Int32) (l3 : Int32) (l4 : Int32) (h : xH) (Q : Int32 → xH → Prop) (H : p_T_pool l0 l1 l2 l3 l4 h Q) : WP M_T_pool 0 [(0, xr l0), (1, xi l1), (2, xi l2), (3, xi l3), (4, xi l4)] [] h 0 (qi Q) := by
  unfold p_T_pool at H
  refine wp_aload_n 0 rfl rfl dX10_pool_0 ?_
  refine wp_iload_n 1 rfl rfl dX10_pool_1 ?_
  refine WP.at 2 rfl ?_
  obtain ⟨q1, H⟩ := H
  refine wp_cVr (M2 := M_T_findRace) coX10 l0 q1 [xi l1] rfl lv_X10_76 mo_T_findRace (Nat.le_of_ble_eq_true rfl) ⟨(Nat.le_of_ble_eq_true rfl), (Nat.le_of_ble_eq_true rfl)⟩ (Nat.le_of_ble_eq_true rfl) (Nat.le_of_ble_eq_true rfl) dX10_pool_2 (t_T_findRace l0 l1 _ _ H) (fun v3 h2 H => ?_)
  refine wp_astore (Nat.le_of_ble_eq_true rfl) dX10_pool_5 (ls' := [(5, xr v3), (0, xr l0), (1, xi l1), (2, xi l2), (3, xi l3), (4, xi l4)]) rfl ?_
  refine wp_aload rfl dX10_pool_7 ?_
  refine WP.at 9 rfl ?_
  refine wp_ifnonnull 15 (by decide) dX10_pool_9 (fun c4 => ?_) (fun c4 => ?_)
  · replace H := H.1 c4
    refine wp_iload_n 2 rfl rfl dX10_pool_15 ?_
    refine WP.at 16 rfl ?_
    refine wp_if_lt 33 (by decide) dX10_pool_16 (fun c5 => ?_) (fun c5 => ?_)
    · replace H := H.1 c5
      refine wp_bipush (-3 : Int32) (by decide) dX10_pool_33 ?_
      exact wp_iret trivial dX10_pool_35 H
    · replace H := H.2 c5
      refine wp_iload_n 2 rfl rfl dX10_pool_19 ?_
      refine wp_iconst (3 : Int32) (by decide) dX10_pool_20 ?_
      refine WP.at 21 rfl ?_
      refine wp_icmp_gt 33 (by decide) dX10_pool_21 (fun c6 => ?_) (fun c6 => ?_)
      · replace H := H.1 c6
        refine wp_bipush (-3 : Int32) (by decide) dX10_pool_33 ?_
        exact wp_iret trivial dX10_pool_35 H
      · replace H := H.2 c6
        refine wp_iload_n 3 rfl rfl dX10_pool_24 ?_
        refine wp_iload rfl dX10_pool_25 ?_
        refine WP.at 27 rfl ?_
        refine wp_cSi (M2 := M_T_areTerms) [xi l3, xi l4] rfl ls_X10_80 mo_T_areTerms (Nat.le_of_ble_eq_true rfl) ⟨(Nat.le_of_ble_eq_true rfl), (Nat.le_of_ble_eq_true rfl)⟩ (Nat.le_of_ble_eq_true rfl) (Nat.le_of_ble_eq_true rfl) dX10_pool_27 (t_T_areTerms l3 l4 _ _ H) (fun v8 h7 H => ?_)
        refine WP.at 30 rfl ?_
        refine wp_if_ne 36 (by decide) dX10_pool_30 (fun c9 => ?_) (fun c9 => ?_)
        · replace H := H.1 c9
          refine wp_iload_n 1 rfl rfl dX10_pool_36 ?_
          refine wp_iload_n 2 rfl rfl dX10_pool_37 ?_
          refine WP.at 38 rfl ?_
          refine wp_cSi (M2 := M_T_poolNumber) [xi l1, xi l2] rfl ls_X10_84 mo_T_poolNumber (Nat.le_of_ble_eq_true rfl) ⟨(Nat.le_of_ble_eq_true rfl), (Nat.le_of_ble_eq_true rfl)⟩ (Nat.le_of_ble_eq_true rfl) (Nat.le_of_ble_eq_true rfl) dX10_pool_38 (t_T_poolNumber l1 l2 _ _ H) (fun v11 h10 H => ?_)
          refine wp_istore (Nat.le_of_ble_eq_true rfl) dX10_pool_41 (ls' := [(6, xi v11), (5, xr v3), (0, xr l0), (1, xi l1), (2, xi l2), (3, xi l3), (4, xi l4)]) rfl ?_
          refine wp_aload_n 0 rfl rfl dX10_pool_43 ?_
          refine wp_getr coX10 1 (Nat.le_of_ble_eq_true rfl) fl_X10_17 rfl q1 dX10_pool_44 ?_
          refine wp_iload rfl dX10_pool_47 ?_
          refine WP.at 49 rfl ?_
          obtain ⟨q12, H⟩ := H
          obtain ⟨q13, H⟩ := H
          refine wp_aaload q12 q13 dX10_pool_49 ?_
          refine WP.at 50 rfl ?_
          refine wp_ifnull 56 (by decide) dX10_pool_50 (fun c14 => ?_) (fun c14 => ?_)
          · replace H := H.1 c14
            refine wp_aload rfl dX10_pool_56 ?_
            obtain ⟨q15, H⟩ := H
            refine wp_geti coX5 7 (Nat.le_of_ble_eq_true rfl) fl_X10_88 rfl q15 dX10_pool_58 ?_
            refine WP.at 61 rfl ?_
            refine wp_if_eq 67 (by decide) dX10_pool_61 (fun c16 => ?_) (fun c16 => ?_)
            · replace H := H.1 c16
              refine wp_aload_n 0 rfl rfl dX10_pool_67 ?_
              refine wp_getr coX10 1 (Nat.le_of_ble_eq_true rfl) fl_X10_17 rfl q1 dX10_pool_68 ?_
              refine wp_iload rfl dX10_pool_71 ?_
              obtain ⟨q17, H⟩ := H
              refine wp_new coX4 ((5, v11.toNatClampNeg) : xN) rfl q17 dfX4 (Nat.le_of_ble_eq_true rfl) (Nat.le_of_ble_eq_true rfl) cl_X10_15.1 cl_X10_15.2.1 cl_X10_15.2.2 dX10_pool_73 ?_
              refine wp_nh (fun h18 e19 => ?_)
              replace H := H h18 e19
              refine wp_dup rfl dX10_pool_76 ?_
              refine wp_iload rfl dX10_pool_77 ?_
              refine wp_iload_n 2 rfl rfl dX10_pool_79 ?_
              refine WP.at 80 rfl ?_
              refine wp_aload rfl dX10_pool_80 ?_
              refine wp_aload rfl dX10_pool_82 ?_
              refine wp_iload_n 3 rfl rfl dX10_pool_84 ?_
              refine wp_iload rfl dX10_pool_85 ?_
              refine WP.at 87 rfl ?_
              refine wp_cI (M2 := M_Po_init) ((5, v11.toNatClampNeg) : xN) (Nat.le_of_ble_eq_true rfl) [xi v11, xi l2, xr v3, xr v3, xi l3, xi l4] rfl lI_X10_91 ⟨rfl, rfl⟩ mo_Po_init (Nat.le_of_ble_eq_true rfl) ⟨(Nat.le_of_ble_eq_true rfl), (Nat.le_of_ble_eq_true rfl)⟩ (Nat.le_of_ble_eq_true rfl) (Nat.le_of_ble_eq_true rfl) dX10_pool_87 (t_Po_init ((5, v11.toNatClampNeg) : xN) v11 l2 v3 v3 l3 l4 _ _ H) (fun h20 H => ?_)
              obtain ⟨q21, H⟩ := H
              refine wp_aastore coX4 q12 (rfl : kd (((5, v11.toNatClampNeg) : xN)).1 = (1, 3)) q21 dX10_pool_90 ?_
              refine wp_nh (fun h22 e23 => ?_)
              replace H := H h22 e23
              refine wp_iload rfl dX10_pool_91 ?_
              exact wp_iret trivial dX10_pool_93 H
            · replace H := H.2 c16
              refine wp_bipush (-6 : Int32) (by decide) dX10_pool_64 ?_
              exact wp_iret trivial dX10_pool_66 H
          · replace H := H.2 c14
            refine wp_bipush (-4 : Int32) (by decide) dX10_pool_53 ?_
            exact wp_iret trivial dX10_pool_55 H
        · replace H := H.2 c9
          refine wp_bipush (-3 : Int32) (by decide) dX10_pool_33 ?_
          exact wp_iret trivial dX10_pool_35 H
  · replace H := H.2 c4
    refine wp_bipush (-2 : Int32) (by decide) dX10_pool_12 ?_
    exact wp_iret trivial dX10_pool_14 H
def p_M_isRace (l0 : xN) (l1 : Int32) (h : xH) (Q : Int32 → xH → Prop) : Prop := (kd l0.1 = (1, 10)) ∧ p_M_in l1 (0 : Int32) ((hI h l0 0) - (1 : Int32)) h (fun (v3 : Int32) (h2 : xH) => (v3 = 0 ∨ v3 = 1) ∧ Q v3 h2)
set_option maxRecDepth 100000 in
set_option maxHeartbeats 4000000 in
theorem t_M_isRace (l0 : xN) (l1 : Int32) (h : xH) (Q : Int32 → xH → Prop) (H : p_M_isRace l0 l1 h Q) : WP M_M_isRace 0 [(0, xr l0), (1, xi l1)] [] h 0 (qi Q) := by
  unfold p_M_isRace at H
  refine wp_iload_n 1 rfl rfl dX11_isRace_0 ?_
  refine wp_iconst (0 : Int32) (by decide) dX11_isRace_1 ?_
  refine wp_aload_n 0 rfl rfl dX11_isRace_2 ?_
  obtain ⟨q1, H⟩ := H
  refine wp_geti coX11 0 (Nat.le_of_ble_eq_true rfl) fl_X11_168 rfl q1 dX11_isRace_3 ?_
  refine wp_iconst (1 : Int32) (by decide) dX11_isRace_6 ?_
  refine wp_isub dX11_isRace_7 ?_
  refine WP.at 8 rfl ?_
  refine wp_cSi (M2 := M_M_in) [xi l1, xi (0 : Int32), xi ((hI h l0 0) - (1 : Int32))] rfl ls_X11_172 mo_M_in (Nat.le_of_ble_eq_true rfl) ⟨(Nat.le_of_ble_eq_true rfl), (Nat.le_of_ble_eq_true rfl)⟩ (Nat.le_of_ble_eq_true rfl) (Nat.le_of_ble_eq_true rfl) dX11_isRace_8 (t_M_in l1 (0 : Int32) ((hI h l0 0) - (1 : Int32)) _ _ H) (fun v3 h2 H => ?_)
  refine WP.at 11 rfl ?_
  obtain ⟨q4, H⟩ := H
  exact wp_iret q4 dX11_isRace_11 H
def p_M_areTerms (l0 : Int32) (l1 : Int32) (h : xH) (Q : Int32 → xH → Prop) : Prop := p_M_in l0 (0 : Int32) (500 : Int32) h (fun (v2 : Int32) (h1 : xH) => ((v2 = 0 → Q (0 : Int32) h1) ∧ (¬ v2 = 0 → p_M_in l1 (10 : Int32) (1000 : Int32) h1 (fun (v5 : Int32) (h4 : xH) => ((v5 = 0 → Q (0 : Int32) h4) ∧ (¬ v5 = 0 → ((¬ (l1 - l1 / (10 : Int32) * (10 : Int32)) = 0 → Q (0 : Int32) h4) ∧ ((l1 - l1 / (10 : Int32) * (10 : Int32)) = 0 → Q (1 : Int32) h4))))))))
set_option maxRecDepth 100000 in
set_option maxHeartbeats 4000000 in
theorem t_M_areTerms (l0 : Int32) (l1 : Int32) (h : xH) (Q : Int32 → xH → Prop) (H : p_M_areTerms l0 l1 h Q) : WP M_M_areTerms 0 [(0, xi l0), (1, xi l1)] [] h 0 (qi Q) := by
  unfold p_M_areTerms at H
  refine wp_iload_n 0 rfl rfl dX11_areTerms_0 ?_
  refine wp_iconst (0 : Int32) (by decide) dX11_areTerms_1 ?_
  refine wp_sipush (500 : Int32) (by decide) dX11_areTerms_2 ?_
  refine WP.at 5 rfl ?_
  refine wp_cSi (M2 := M_M_in) [xi l0, xi (0 : Int32), xi (500 : Int32)] rfl ls_X11_172 mo_M_in (Nat.le_of_ble_eq_true rfl) ⟨(Nat.le_of_ble_eq_true rfl), (Nat.le_of_ble_eq_true rfl)⟩ (Nat.le_of_ble_eq_true rfl) (Nat.le_of_ble_eq_true rfl) dX11_areTerms_5 (t_M_in l0 (0 : Int32) (500 : Int32) _ _ H) (fun v2 h1 H => ?_)
  refine WP.at 8 rfl ?_
  refine wp_if_eq 34 (by decide) dX11_areTerms_8 (fun c3 => ?_) (fun c3 => ?_)
  · replace H := H.1 c3
    refine wp_iconst (0 : Int32) (by decide) dX11_areTerms_34 ?_
    exact wp_iret (Or.inl rfl) dX11_areTerms_35 H
  · replace H := H.2 c3
    refine wp_iload_n 1 rfl rfl dX11_areTerms_11 ?_
    refine wp_bipush (10 : Int32) (by decide) dX11_areTerms_12 ?_
    refine wp_sipush (1000 : Int32) (by decide) dX11_areTerms_14 ?_
    refine WP.at 17 rfl ?_
    refine wp_cSi (M2 := M_M_in) [xi l1, xi (10 : Int32), xi (1000 : Int32)] rfl ls_X11_172 mo_M_in (Nat.le_of_ble_eq_true rfl) ⟨(Nat.le_of_ble_eq_true rfl), (Nat.le_of_ble_eq_true rfl)⟩ (Nat.le_of_ble_eq_true rfl) (Nat.le_of_ble_eq_true rfl) dX11_areTerms_17 (t_M_in l1 (10 : Int32) (1000 : Int32) _ _ H) (fun v5 h4 H => ?_)
    refine WP.at 20 rfl ?_
    refine wp_if_eq 34 (by decide) dX11_areTerms_20 (fun c6 => ?_) (fun c6 => ?_)
    · replace H := H.1 c6
      refine wp_iconst (0 : Int32) (by decide) dX11_areTerms_34 ?_
      exact wp_iret (Or.inl rfl) dX11_areTerms_35 H
    · replace H := H.2 c6
      refine wp_iload_n 1 rfl rfl dX11_areTerms_23 ?_
      refine wp_bipush (10 : Int32) (by decide) dX11_areTerms_24 ?_
      refine wp_irem (by decide) dX11_areTerms_26 ?_
      refine WP.at 27 rfl ?_
      refine wp_if_ne 34 (by decide) dX11_areTerms_27 (fun c7 => ?_) (fun c7 => ?_)
      · replace H := H.1 c7
        refine wp_iconst (0 : Int32) (by decide) dX11_areTerms_34 ?_
        exact wp_iret (Or.inl rfl) dX11_areTerms_35 H
      · replace H := H.2 c7
        refine wp_iconst (1 : Int32) (by decide) dX11_areTerms_30 ?_
        refine WP.at 31 rfl ?_
        refine wp_goto 35 (by decide) dX11_areTerms_31 ?_
        exact wp_iret (Or.inr rfl) dX11_areTerms_35 H
def p_M_tellPool (l0 : xN) (l1 : Int32) (l2 : Int32) (l3 : Int32) (h : xH) (Q : xH → Prop) : Prop := (kd l0.1 = (1, 10)) ∧ (kd (hR h l0 6).1 = (3, 0)) ∧ (vp_in l1 (hS h (hR h l0 6) - 1)) ∧ ∀ h4 : xH, h4 = sI h (hR h l0 6) l1.toNatClampNeg (1 : Int32) → (kd (hR h4 l0 7).1 = (2, 0)) ∧ (vp_in l1 (hS h4 (hR h4 l0 7) - 1)) ∧ ∀ h8 : xH, h8 = sI h4 (hR h4 l0 7) l1.toNatClampNeg l2 → (kd (hR h8 l0 8).1 = (2, 0)) ∧ (vp_in l1 (hS h8 (hR h8 l0 8) - 1)) ∧ ∀ h12 : xH, h12 = sI h8 (hR h8 l0 8) l1.toNatClampNeg l3 → Q h12
set_option maxRecDepth 100000 in
set_option maxHeartbeats 4000000 in
theorem t_M_tellPool (l0 : xN) (l1 : Int32) (l2 : Int32) (l3 : Int32) (h : xH) (Q : xH → Prop) (H : p_M_tellPool l0 l1 l2 l3 h Q) : WP M_M_tellPool 0 [(0, xr l0), (1, xi l1), (2, xi l2), (3, xi l3)] [] h 0 (qv Q) := by
  unfold p_M_tellPool at H
  refine wp_aload_n 0 rfl rfl dX11_tellPool_0 ?_
  obtain ⟨q1, H⟩ := H
  refine wp_getr coX11 6 (Nat.le_of_ble_eq_true rfl) fl_X11_26 rfl q1 dX11_tellPool_1 ?_
  refine wp_iload_n 1 rfl rfl dX11_tellPool_4 ?_
  refine wp_iconst (1 : Int32) (by decide) dX11_tellPool_5 ?_
  obtain ⟨q2, H⟩ := H
  obtain ⟨q3, H⟩ := H
  refine wp_bastore (Or.inr rfl) q2 q3 dX11_tellPool_6 ?_
  refine wp_nh (fun h4 e5 => ?_)
  replace H := H h4 e5
  refine wp_aload_n 0 rfl rfl dX11_tellPool_7 ?_
  refine wp_getr coX11 7 (Nat.le_of_ble_eq_true rfl) fl_X11_29 rfl q1 dX11_tellPool_8 ?_
  refine WP.at 11 rfl ?_
  refine wp_iload_n 1 rfl rfl dX11_tellPool_11 ?_
  refine wp_iload_n 2 rfl rfl dX11_tellPool_12 ?_
  obtain ⟨q6, H⟩ := H
  obtain ⟨q7, H⟩ := H
  refine wp_iastore q6 q7 dX11_tellPool_13 ?_
  refine wp_nh (fun h8 e9 => ?_)
  replace H := H h8 e9
  refine wp_aload_n 0 rfl rfl dX11_tellPool_14 ?_
  refine wp_getr coX11 8 (Nat.le_of_ble_eq_true rfl) fl_X11_32 rfl q1 dX11_tellPool_15 ?_
  refine wp_iload_n 1 rfl rfl dX11_tellPool_18 ?_
  refine wp_iload_n 3 rfl rfl dX11_tellPool_19 ?_
  obtain ⟨q10, H⟩ := H
  obtain ⟨q11, H⟩ := H
  refine wp_iastore q10 q11 dX11_tellPool_20 ?_
  refine wp_nh (fun h12 e13 => ?_)
  replace H := H h12 e13
  refine WP.at 21 rfl ?_
  exact wp_vret trivial dX11_tellPool_21 H
def p_M_pool (l0 : xN) (l1 : Int32) (l2 : Int32) (l3 : Int32) (l4 : Int32) (h : xH) (Q : Int32 → xH → Prop) : Prop := (kd l0.1 = (1, 10)) ∧ p_M_isRace l0 l1 h (fun (v3 : Int32) (h2 : xH) => ((¬ v3 = 0 → p_M_in l2 (0 : Int32) (3 : Int32) h2 (fun (v6 : Int32) (h5 : xH) => ((v6 = 0 → Q (-3 : Int32) h5) ∧ (¬ v6 = 0 → p_M_areTerms l3 l4 h5 (fun (v9 : Int32) (h8 : xH) => ((¬ v9 = 0 → ∀ v11 : Int32, v11 = ((4 : Int32) * l1) + l2 → (kd (hR h8 l0 6).1 = (3, 0)) ∧ (vp_in v11 (hS h8 (hR h8 l0 6) - 1)) ∧ (((hI h8 (hR h8 l0 6) v11.toNatClampNeg) = 0 → (kd (hR h8 l0 1).1 = (2, 0)) ∧ (vp_in l1 (hS h8 (hR h8 l0 1) - 1)) ∧ (((hI h8 (hR h8 l0 1) l1.toNatClampNeg) = 0 → p_M_tellPool l0 v11 l3 l4 h8 (fun h19 : xH => Q v11 h19)) ∧ (¬ (hI h8 (hR h8 l0 1) l1.toNatClampNeg) = 0 → Q (-6 : Int32) h8))) ∧ (¬ (hI h8 (hR h8 l0 6) v11.toNatClampNeg) = 0 → Q (-4 : Int32) h8))) ∧ (v9 = 0 → Q (-3 : Int32) h8))))))) ∧ (v3 = 0 → Q (-2 : Int32) h2)))
set_option maxRecDepth 100000 in
set_option maxHeartbeats 4000000 in
theorem t_M_pool (l0 : xN) (l1 : Int32) (l2 : Int32) (l3 : Int32) (l4 : Int32) (h : xH) (Q : Int32 → xH → Prop) (H : p_M_pool l0 l1 l2 l3 l4 h Q) : WP M_M_pool 0 [(0, xr l0), (1, xi l1), (2, xi l2), (3, xi l3), (4, xi l4)] [] h 0 (qi Q) := by
  unfold p_M_pool at H
  refine wp_aload_n 0 rfl rfl dX11_pool_0 ?_
  refine wp_iload_n 1 rfl rfl dX11_pool_1 ?_
  refine WP.at 2 rfl ?_
  obtain ⟨q1, H⟩ := H
  refine wp_cVi (M2 := M_M_isRace) coX11 l0 q1 [xi l1] rfl lv_X11_179 mo_M_isRace (Nat.le_of_ble_eq_true rfl) ⟨(Nat.le_of_ble_eq_true rfl), (Nat.le_of_ble_eq_true rfl)⟩ (Nat.le_of_ble_eq_true rfl) (Nat.le_of_ble_eq_true rfl) dX11_pool_2 (t_M_isRace l0 l1 _ _ H) (fun v3 h2 H => ?_)
  refine WP.at 5 rfl ?_
  refine wp_if_ne 11 (by decide) dX11_pool_5 (fun c4 => ?_) (fun c4 => ?_)
  · replace H := H.1 c4
    refine wp_iload_n 2 rfl rfl dX11_pool_11 ?_
    refine wp_iconst (0 : Int32) (by decide) dX11_pool_12 ?_
    refine wp_iconst (3 : Int32) (by decide) dX11_pool_13 ?_
    refine WP.at 14 rfl ?_
    refine wp_cSi (M2 := M_M_in) [xi l2, xi (0 : Int32), xi (3 : Int32)] rfl ls_X11_172 mo_M_in (Nat.le_of_ble_eq_true rfl) ⟨(Nat.le_of_ble_eq_true rfl), (Nat.le_of_ble_eq_true rfl)⟩ (Nat.le_of_ble_eq_true rfl) (Nat.le_of_ble_eq_true rfl) dX11_pool_14 (t_M_in l2 (0 : Int32) (3 : Int32) _ _ H) (fun v6 h5 H => ?_)
    refine WP.at 17 rfl ?_
    refine wp_if_eq 29 (by decide) dX11_pool_17 (fun c7 => ?_) (fun c7 => ?_)
    · replace H := H.1 c7
      refine wp_bipush (-3 : Int32) (by decide) dX11_pool_29 ?_
      exact wp_iret trivial dX11_pool_31 H
    · replace H := H.2 c7
      refine wp_iload_n 3 rfl rfl dX11_pool_20 ?_
      refine wp_iload rfl dX11_pool_21 ?_
      refine WP.at 23 rfl ?_
      refine wp_cSi (M2 := M_M_areTerms) [xi l3, xi l4] rfl ls_X11_183 mo_M_areTerms (Nat.le_of_ble_eq_true rfl) ⟨(Nat.le_of_ble_eq_true rfl), (Nat.le_of_ble_eq_true rfl)⟩ (Nat.le_of_ble_eq_true rfl) (Nat.le_of_ble_eq_true rfl) dX11_pool_23 (t_M_areTerms l3 l4 _ _ H) (fun v9 h8 H => ?_)
      refine WP.at 26 rfl ?_
      refine wp_if_ne 32 (by decide) dX11_pool_26 (fun c10 => ?_) (fun c10 => ?_)
      · replace H := H.1 c10
        refine wp_iconst (4 : Int32) (by decide) dX11_pool_32 ?_
        refine wp_iload_n 1 rfl rfl dX11_pool_33 ?_
        refine wp_imul dX11_pool_34 ?_
        refine wp_iload_n 2 rfl rfl dX11_pool_35 ?_
        refine wp_iadd dX11_pool_36 ?_
        refine wp_nm (fun v11 e12 => ?_)
        replace H := H v11 e12
        refine wp_istore (Nat.le_of_ble_eq_true rfl) dX11_pool_37 (ls' := [(5, xi v11), (0, xr l0), (1, xi l1), (2, xi l2), (3, xi l3), (4, xi l4)]) rfl ?_
        refine wp_aload_n 0 rfl rfl dX11_pool_39 ?_
        refine WP.at 40 rfl ?_
        refine wp_getr coX11 6 (Nat.le_of_ble_eq_true rfl) fl_X11_26 rfl q1 dX11_pool_40 ?_
        refine wp_iload rfl dX11_pool_43 ?_
        obtain ⟨q13, H⟩ := H
        obtain ⟨q14, H⟩ := H
        refine wp_baload q13 q14 dX11_pool_45 ?_
        refine WP.at 46 rfl ?_
        refine wp_if_eq 52 (by decide) dX11_pool_46 (fun c15 => ?_) (fun c15 => ?_)
        · replace H := H.1 c15
          refine wp_aload_n 0 rfl rfl dX11_pool_52 ?_
          refine wp_getr coX11 1 (Nat.le_of_ble_eq_true rfl) fl_X11_7 rfl q1 dX11_pool_53 ?_
          refine wp_iload_n 1 rfl rfl dX11_pool_56 ?_
          obtain ⟨q16, H⟩ := H
          obtain ⟨q17, H⟩ := H
          refine wp_iaload q16 q17 dX11_pool_57 ?_
          refine WP.at 58 rfl ?_
          refine wp_if_eq 64 (by decide) dX11_pool_58 (fun c18 => ?_) (fun c18 => ?_)
          · replace H := H.1 c18
            refine wp_aload_n 0 rfl rfl dX11_pool_64 ?_
            refine wp_iload rfl dX11_pool_65 ?_
            refine wp_iload_n 3 rfl rfl dX11_pool_67 ?_
            refine wp_iload rfl dX11_pool_68 ?_
            refine WP.at 70 rfl ?_
            refine wp_cVv (M2 := M_M_tellPool) coX11 l0 q1 [xi v11, xi l3, xi l4] rfl lv_X11_187 mo_M_tellPool (Nat.le_of_ble_eq_true rfl) ⟨(Nat.le_of_ble_eq_true rfl), (Nat.le_of_ble_eq_true rfl)⟩ (Nat.le_of_ble_eq_true rfl) (Nat.le_of_ble_eq_true rfl) dX11_pool_70 (t_M_tellPool l0 v11 l3 l4 _ _ H) (fun h19 H => ?_)
            refine wp_iload rfl dX11_pool_73 ?_
            exact wp_iret trivial dX11_pool_75 H
          · replace H := H.2 c18
            refine wp_bipush (-6 : Int32) (by decide) dX11_pool_61 ?_
            exact wp_iret trivial dX11_pool_63 H
        · replace H := H.2 c15
          refine wp_bipush (-4 : Int32) (by decide) dX11_pool_49 ?_
          exact wp_iret trivial dX11_pool_51 H
      · replace H := H.2 c10
        refine wp_bipush (-3 : Int32) (by decide) dX11_pool_29 ?_
        exact wp_iret trivial dX11_pool_31 H
  · replace H := H.2 c4
    refine wp_bipush (-2 : Int32) (by decide) dX11_pool_8 ?_
    exact wp_iret trivial dX11_pool_10 H
