def p_M_off (l0 : xN) (l1 : Int32) (h : xH) (Q : Int32 → xH → Prop) : Prop := (kd l0.1 = (1, 10)) ∧ p_M_isRace l0 l1 h (fun (v3 : Int32) (h2 : xH) => ((¬ v3 = 0 → (kd (hR h2 l0 1).1 = (2, 0)) ∧ (vp_in l1 (hS h2 (hR h2 l0 1) - 1)) ∧ (((hI h2 (hR h2 l0 1) l1.toNatClampNeg) = 0 → (vp_in l1 (hS h2 (hR h2 l0 1) - 1)) ∧ ∀ h9 : xH, h9 = sI h2 (hR h2 l0 1) l1.toNatClampNeg (1 : Int32) → p_M_running l0 l1 h9 (fun (v12 : Int32) (h11 : xH) => Q v12 h11)) ∧ (¬ (hI h2 (hR h2 l0 1) l1.toNatClampNeg) = 0 → Q (-6 : Int32) h2))) ∧ (v3 = 0 → Q (-2 : Int32) h2)))
set_option maxRecDepth 100000 in
set_option maxHeartbeats 4000000 in
theorem t_M_off (l0 : xN) (l1 : Int32) (h : xH) (Q : Int32 → xH → Prop) (H : p_M_off l0 l1 h Q) : WP M_M_off 0 [(0, xr l0), (1, xi l1)] [] h 0 (qi Q) := by
  unfold p_M_off at H
  refine wp_aload_n 0 rfl rfl dX11_off_0 ?_
  refine wp_iload_n 1 rfl rfl dX11_off_1 ?_
  refine WP.at 2 rfl ?_
  obtain ⟨q1, H⟩ := H
  refine wp_cVi (M2 := M_M_isRace) coX11 l0 q1 [xi l1] rfl lv_X11_179 mo_M_isRace (Nat.le_of_ble_eq_true rfl) ⟨(Nat.le_of_ble_eq_true rfl), (Nat.le_of_ble_eq_true rfl)⟩ (Nat.le_of_ble_eq_true rfl) (Nat.le_of_ble_eq_true rfl) dX11_off_2 (t_M_isRace l0 l1 _ _ H) (fun v3 h2 H => ?_)
  refine WP.at 5 rfl ?_
  refine wp_if_ne 11 (by decide) dX11_off_5 (fun c4 => ?_) (fun c4 => ?_)
  · replace H := H.1 c4
    refine wp_aload_n 0 rfl rfl dX11_off_11 ?_
    refine wp_getr coX11 1 (Nat.le_of_ble_eq_true rfl) fl_X11_7 rfl q1 dX11_off_12 ?_
    refine wp_iload_n 1 rfl rfl dX11_off_15 ?_
    obtain ⟨q5, H⟩ := H
    obtain ⟨q6, H⟩ := H
    refine wp_iaload q5 q6 dX11_off_16 ?_
    refine WP.at 17 rfl ?_
    refine wp_if_eq 23 (by decide) dX11_off_17 (fun c7 => ?_) (fun c7 => ?_)
    · replace H := H.1 c7
      refine wp_aload_n 0 rfl rfl dX11_off_23 ?_
      refine wp_getr coX11 1 (Nat.le_of_ble_eq_true rfl) fl_X11_7 rfl q1 dX11_off_24 ?_
      refine wp_iload_n 1 rfl rfl dX11_off_27 ?_
      refine wp_iconst (1 : Int32) (by decide) dX11_off_28 ?_
      obtain ⟨q8, H⟩ := H
      refine wp_iastore q5 q8 dX11_off_29 ?_
      refine wp_nh (fun h9 e10 => ?_)
      replace H := H h9 e10
      refine wp_aload_n 0 rfl rfl dX11_off_30 ?_
      refine wp_iload_n 1 rfl rfl dX11_off_31 ?_
      refine WP.at 32 rfl ?_
      refine WP.at 32 rfl ?_
      refine wp_cVi (M2 := M_M_running) coX11 l0 q1 [xi l1] rfl lv_X11_212 mo_M_running (Nat.le_of_ble_eq_true rfl) ⟨(Nat.le_of_ble_eq_true rfl), (Nat.le_of_ble_eq_true rfl)⟩ (Nat.le_of_ble_eq_true rfl) (Nat.le_of_ble_eq_true rfl) dX11_off_32 (t_M_running l0 l1 _ _ H) (fun v12 h11 H => ?_)
      exact wp_iret trivial dX11_off_35 H
    · replace H := H.2 c7
      refine wp_bipush (-6 : Int32) (by decide) dX11_off_20 ?_
      exact wp_iret trivial dX11_off_22 H
  · replace H := H.2 c4
    refine wp_bipush (-2 : Int32) (by decide) dX11_off_8 ?_
    exact wp_iret trivial dX11_off_10 H
def p_T_place_j25 (l2 : Int32) (l3 : Int32) (l4 : xN) (h : xH) (Q : Int32 → xH → Prop) : Prop := p_T_refuseRunner l4 l2 (1 : Int32) h (fun (v6 : Int32) (h5 : xH) => ((l4.1 = 0 → Q v6 h5) ∧ (¬ l4.1 = 0 → ((v6 = 0 → (kd l4.1 = (1, 4)) ∧ (kd (hR h5 l4 2).1 = (2, 0)) ∧ (vp_in l2 (hS h5 (hR h5 l4 2) - 1)) ∧ ∀ v12 : Int32, v12 = hI h5 (hR h5 l4 2) l2.toNatClampNeg → (vp_in l2 (hS h5 (hR h5 l4 2) - 1)) ∧ ∀ h15 : xH, h15 = sI h5 (hR h5 l4 2) l2.toNatClampNeg l3 → Q v12 h15) ∧ (¬ v6 = 0 → Q v6 h5)))))
set_option maxRecDepth 100000 in
set_option maxHeartbeats 4000000 in
theorem t_T_place_j25 (l2 : Int32) (l3 : Int32) (l4 : xN) (h : xH) (Q : Int32 → xH → Prop) (H : p_T_place_j25 l2 l3 l4 h Q) : WP M_T_place 25 [(2, xi l2), (3, xi l3), (4, xr l4)] [] h 0 (qi Q) := by
  unfold p_T_place_j25 at H
  refine wp_aload rfl dX10_place_25 ?_
  refine wp_iload_n 2 rfl rfl dX10_place_27 ?_
  refine wp_iconst (1 : Int32) (by decide) dX10_place_28 ?_
  refine WP.at 29 rfl ?_
  refine wp_cSi (M2 := M_T_refuseRunner) [xr l4, xi l2, xi (1 : Int32)] rfl ls_X10_94 mo_T_refuseRunner (Nat.le_of_ble_eq_true rfl) ⟨(Nat.le_of_ble_eq_true rfl), (Nat.le_of_ble_eq_true rfl)⟩ (Nat.le_of_ble_eq_true rfl) (Nat.le_of_ble_eq_true rfl) dX10_place_29 (t_T_refuseRunner l4 l2 (1 : Int32) _ _ H) (fun v6 h5 H => ?_)
  refine wp_istore (Nat.le_of_ble_eq_true rfl) dX10_place_32 (ls' := [(5, xi v6), (2, xi l2), (3, xi l3), (4, xr l4)]) rfl ?_
  refine wp_aload rfl dX10_place_34 ?_
  refine WP.at 36 rfl ?_
  refine wp_ifnull 44 (by decide) dX10_place_36 (fun c7 => ?_) (fun c7 => ?_)
  · replace H := H.1 c7
    refine wp_iload rfl dX10_place_44 ?_
    exact wp_iret trivial dX10_place_46 H
  · replace H := H.2 c7
    refine wp_iload rfl dX10_place_39 ?_
    refine WP.at 41 rfl ?_
    refine wp_if_eq 47 (by decide) dX10_place_41 (fun c8 => ?_) (fun c8 => ?_)
    · replace H := H.1 c8
      refine wp_aload rfl dX10_place_47 ?_
      obtain ⟨q9, H⟩ := H
      refine wp_getr coX5 2 (Nat.le_of_ble_eq_true rfl) fl_X10_119 rfl q9 dX10_place_49 ?_
      refine wp_iload_n 2 rfl rfl dX10_place_52 ?_
      obtain ⟨q10, H⟩ := H
      obtain ⟨q11, H⟩ := H
      refine wp_iaload q10 q11 dX10_place_53 ?_
      refine wp_nm (fun v12 e13 => ?_)
      replace H := H v12 e13
      refine wp_istore (Nat.le_of_ble_eq_true rfl) dX10_place_54 (ls' := [(6, xi v12), (5, xi v6), (2, xi l2), (3, xi l3), (4, xr l4)]) rfl ?_
      refine wp_aload rfl dX10_place_56 ?_
      refine wp_getr coX5 2 (Nat.le_of_ble_eq_true rfl) fl_X10_119 rfl q9 dX10_place_58 ?_
      refine WP.at 61 rfl ?_
      refine wp_iload_n 2 rfl rfl dX10_place_61 ?_
      refine wp_iload_n 3 rfl rfl dX10_place_62 ?_
      obtain ⟨q14, H⟩ := H
      refine wp_iastore q10 q14 dX10_place_63 ?_
      refine wp_nh (fun h15 e16 => ?_)
      replace H := H h15 e16
      refine wp_iload rfl dX10_place_64 ?_
      exact wp_iret trivial dX10_place_66 H
    · replace H := H.2 c8
      refine wp_iload rfl dX10_place_44 ?_
      exact wp_iret trivial dX10_place_46 H
def p_T_place (l0 : xN) (l1 : Int32) (l2 : Int32) (l3 : Int32) (h : xH) (Q : Int32 → xH → Prop) : Prop := (kd l0.1 = (1, 9)) ∧ p_T_findRace l0 l1 h (fun (v3 : xN) (h2 : xH) => ((v3.1 = 0 → p_T_place_j25 l2 l3 v3 h2 Q) ∧ (¬ v3.1 = 0 → ((l3 < 0 → Q (-3 : Int32) h2) ∧ (¬ l3 < 0 → ((l3 ≤ (12 : Int32) → p_T_place_j25 l2 l3 v3 h2 Q) ∧ (¬ l3 ≤ (12 : Int32) → Q (-3 : Int32) h2)))))))
set_option maxRecDepth 100000 in
set_option maxHeartbeats 4000000 in
theorem t_T_place (l0 : xN) (l1 : Int32) (l2 : Int32) (l3 : Int32) (h : xH) (Q : Int32 → xH → Prop) (H : p_T_place l0 l1 l2 l3 h Q) : WP M_T_place 0 [(0, xr l0), (1, xi l1), (2, xi l2), (3, xi l3)] [] h 0 (qi Q) := by
  unfold p_T_place at H
  refine wp_aload_n 0 rfl rfl dX10_place_0 ?_
  refine wp_iload_n 1 rfl rfl dX10_place_1 ?_
  refine WP.at 2 rfl ?_
  obtain ⟨q1, H⟩ := H
  refine wp_cVr (M2 := M_T_findRace) coX10 l0 q1 [xi l1] rfl lv_X10_76 mo_T_findRace (Nat.le_of_ble_eq_true rfl) ⟨(Nat.le_of_ble_eq_true rfl), (Nat.le_of_ble_eq_true rfl)⟩ (Nat.le_of_ble_eq_true rfl) (Nat.le_of_ble_eq_true rfl) dX10_place_2 (t_T_findRace l0 l1 _ _ H) (fun v3 h2 H => ?_)
  refine wp_astore (Nat.le_of_ble_eq_true rfl) dX10_place_5 (ls' := [(4, xr v3), (0, xr l0), (1, xi l1), (2, xi l2), (3, xi l3)]) rfl ?_
  refine wp_aload rfl dX10_place_7 ?_
  refine WP.at 9 rfl ?_
  refine wp_ifnull 25 (by decide) dX10_place_9 (fun c4 => ?_) (fun c4 => ?_)
  · replace H := H.1 c4
    exact WP.pick [3, 4, 0] rfl (t_T_place_j25 l2 l3 v3 _ _ H)
  · replace H := H.2 c4
    refine wp_iload_n 3 rfl rfl dX10_place_12 ?_
    refine WP.at 13 rfl ?_
    refine wp_if_lt 22 (by decide) dX10_place_13 (fun c17 => ?_) (fun c17 => ?_)
    · replace H := H.1 c17
      refine wp_bipush (-3 : Int32) (by decide) dX10_place_22 ?_
      exact wp_iret trivial dX10_place_24 H
    · replace H := H.2 c17
      refine wp_iload_n 3 rfl rfl dX10_place_16 ?_
      refine wp_bipush (12 : Int32) (by decide) dX10_place_17 ?_
      refine WP.at 19 rfl ?_
      refine wp_icmp_le 25 (by decide) dX10_place_19 (fun c18 => ?_) (fun c18 => ?_)
      · replace H := H.1 c18
        exact WP.pick [3, 4, 0] rfl (t_T_place_j25 l2 l3 v3 _ _ H)
      · replace H := H.2 c18
        refine wp_bipush (-3 : Int32) (by decide) dX10_place_22 ?_
        exact wp_iret trivial dX10_place_24 H
def p_M_place (l0 : xN) (l1 : Int32) (l2 : Int32) (l3 : Int32) (h : xH) (Q : Int32 → xH → Prop) : Prop := (kd l0.1 = (1, 10)) ∧ p_M_isRace l0 l1 h (fun (v3 : Int32) (h2 : xH) => ((¬ v3 = 0 → p_M_isRunner l0 l1 l2 h2 (fun (v6 : Int32) (h5 : xH) => ((v6 = 0 → Q (-3 : Int32) h5) ∧ (¬ v6 = 0 → p_M_in l3 (0 : Int32) (12 : Int32) h5 (fun (v9 : Int32) (h8 : xH) => ((¬ v9 = 0 → (kd (hR h8 l0 4).1 = (3, 0)) ∧ (vp_in (((13 : Int32) * l1) + l2) (hS h8 (hR h8 l0 4) - 1)) ∧ (((hI h8 (hR h8 l0 4) (((13 : Int32) * l1) + l2).toNatClampNeg) = 0 → (kd (hR h8 l0 1).1 = (2, 0)) ∧ (vp_in l1 (hS h8 (hR h8 l0 1) - 1)) ∧ (((hI h8 (hR h8 l0 1) l1.toNatClampNeg) = (1 : Int32) → (kd (hR h8 l0 5).1 = (2, 0)) ∧ (vp_in (((13 : Int32) * l1) + l2) (hS h8 (hR h8 l0 5) - 1)) ∧ ∀ v19 : Int32, v19 = hI h8 (hR h8 l0 5) (((13 : Int32) * l1) + l2).toNatClampNeg → (vp_in (((13 : Int32) * l1) + l2) (hS h8 (hR h8 l0 5) - 1)) ∧ ∀ h22 : xH, h22 = sI h8 (hR h8 l0 5) (((13 : Int32) * l1) + l2).toNatClampNeg l3 → Q v19 h22) ∧ (¬ (hI h8 (hR h8 l0 1) l1.toNatClampNeg) = (1 : Int32) → Q (-6 : Int32) h8))) ∧ (¬ (hI h8 (hR h8 l0 4) (((13 : Int32) * l1) + l2).toNatClampNeg) = 0 → Q (-5 : Int32) h8))) ∧ (v9 = 0 → Q (-3 : Int32) h8))))))) ∧ (v3 = 0 → Q (-2 : Int32) h2)))
set_option maxRecDepth 100000 in
set_option maxHeartbeats 4000000 in
theorem t_M_place (l0 : xN) (l1 : Int32) (l2 : Int32) (l3 : Int32) (h : xH) (Q : Int32 → xH → Prop) (H : p_M_place l0 l1 l2 l3 h Q) : WP M_M_place 0 [(0, xr l0), (1, xi l1), (2, xi l2), (3, xi l3)] [] h 0 (qi Q) := by
  unfold p_M_place at H
  refine wp_aload_n 0 rfl rfl dX11_place_0 ?_
  refine wp_iload_n 1 rfl rfl dX11_place_1 ?_
  refine WP.at 2 rfl ?_
  obtain ⟨q1, H⟩ := H
  refine wp_cVi (M2 := M_M_isRace) coX11 l0 q1 [xi l1] rfl lv_X11_179 mo_M_isRace (Nat.le_of_ble_eq_true rfl) ⟨(Nat.le_of_ble_eq_true rfl), (Nat.le_of_ble_eq_true rfl)⟩ (Nat.le_of_ble_eq_true rfl) (Nat.le_of_ble_eq_true rfl) dX11_place_2 (t_M_isRace l0 l1 _ _ H) (fun v3 h2 H => ?_)
  refine WP.at 5 rfl ?_
  refine wp_if_ne 11 (by decide) dX11_place_5 (fun c4 => ?_) (fun c4 => ?_)
  · replace H := H.1 c4
    refine wp_aload_n 0 rfl rfl dX11_place_11 ?_
    refine wp_iload_n 1 rfl rfl dX11_place_12 ?_
    refine wp_iload_n 2 rfl rfl dX11_place_13 ?_
    refine WP.at 14 rfl ?_
    refine wp_cVi (M2 := M_M_isRunner) coX11 l0 q1 [xi l1, xi l2] rfl lv_X11_194 mo_M_isRunner (Nat.le_of_ble_eq_true rfl) ⟨(Nat.le_of_ble_eq_true rfl), (Nat.le_of_ble_eq_true rfl)⟩ (Nat.le_of_ble_eq_true rfl) (Nat.le_of_ble_eq_true rfl) dX11_place_14 (t_M_isRunner l0 l1 l2 _ _ H) (fun v6 h5 H => ?_)
    refine WP.at 17 rfl ?_
    refine wp_if_eq 30 (by decide) dX11_place_17 (fun c7 => ?_) (fun c7 => ?_)
    · replace H := H.1 c7
      refine wp_bipush (-3 : Int32) (by decide) dX11_place_30 ?_
      exact wp_iret trivial dX11_place_32 H
    · replace H := H.2 c7
      refine wp_iload_n 3 rfl rfl dX11_place_20 ?_
      refine wp_iconst (0 : Int32) (by decide) dX11_place_21 ?_
      refine wp_bipush (12 : Int32) (by decide) dX11_place_22 ?_
      refine WP.at 24 rfl ?_
      refine wp_cSi (M2 := M_M_in) [xi l3, xi (0 : Int32), xi (12 : Int32)] rfl ls_X11_172 mo_M_in (Nat.le_of_ble_eq_true rfl) ⟨(Nat.le_of_ble_eq_true rfl), (Nat.le_of_ble_eq_true rfl)⟩ (Nat.le_of_ble_eq_true rfl) (Nat.le_of_ble_eq_true rfl) dX11_place_24 (t_M_in l3 (0 : Int32) (12 : Int32) _ _ H) (fun v9 h8 H => ?_)
      refine WP.at 27 rfl ?_
      refine wp_if_ne 33 (by decide) dX11_place_27 (fun c10 => ?_) (fun c10 => ?_)
      · replace H := H.1 c10
        refine wp_aload_n 0 rfl rfl dX11_place_33 ?_
        refine wp_getr coX11 4 (Nat.le_of_ble_eq_true rfl) fl_X11_19 rfl q1 dX11_place_34 ?_
        refine wp_bipush (13 : Int32) (by decide) dX11_place_37 ?_
        refine wp_iload_n 1 rfl rfl dX11_place_39 ?_
        refine wp_imul dX11_place_40 ?_
        refine wp_iload_n 2 rfl rfl dX11_place_41 ?_
        refine wp_iadd dX11_place_42 ?_
        refine WP.at 43 rfl ?_
        obtain ⟨q11, H⟩ := H
        obtain ⟨q12, H⟩ := H
        refine wp_baload q11 q12 dX11_place_43 ?_
        refine WP.at 44 rfl ?_
        refine wp_if_eq 50 (by decide) dX11_place_44 (fun c13 => ?_) (fun c13 => ?_)
        · replace H := H.1 c13
          refine wp_aload_n 0 rfl rfl dX11_place_50 ?_
          refine wp_getr coX11 1 (Nat.le_of_ble_eq_true rfl) fl_X11_7 rfl q1 dX11_place_51 ?_
          refine wp_iload_n 1 rfl rfl dX11_place_54 ?_
          obtain ⟨q14, H⟩ := H
          obtain ⟨q15, H⟩ := H
          refine wp_iaload q14 q15 dX11_place_55 ?_
          refine wp_iconst (1 : Int32) (by decide) dX11_place_56 ?_
          refine WP.at 57 rfl ?_
          refine wp_icmp_eq 63 (by decide) dX11_place_57 (fun c16 => ?_) (fun c16 => ?_)
          · replace H := H.1 c16
            refine wp_aload_n 0 rfl rfl dX11_place_63 ?_
            refine wp_getr coX11 5 (Nat.le_of_ble_eq_true rfl) fl_X11_23 rfl q1 dX11_place_64 ?_
            refine wp_bipush (13 : Int32) (by decide) dX11_place_67 ?_
            refine wp_iload_n 1 rfl rfl dX11_place_69 ?_
            refine wp_imul dX11_place_70 ?_
            refine wp_iload_n 2 rfl rfl dX11_place_71 ?_
            refine wp_iadd dX11_place_72 ?_
            refine WP.at 73 rfl ?_
            obtain ⟨q17, H⟩ := H
            obtain ⟨q18, H⟩ := H
            refine wp_iaload q17 q18 dX11_place_73 ?_
            refine wp_nm (fun v19 e20 => ?_)
            replace H := H v19 e20
            refine wp_istore (Nat.le_of_ble_eq_true rfl) dX11_place_74 (ls' := [(4, xi v19), (0, xr l0), (1, xi l1), (2, xi l2), (3, xi l3)]) rfl ?_
            refine wp_aload_n 0 rfl rfl dX11_place_76 ?_
            refine wp_getr coX11 5 (Nat.le_of_ble_eq_true rfl) fl_X11_23 rfl q1 dX11_place_77 ?_
            refine wp_bipush (13 : Int32) (by decide) dX11_place_80 ?_
            refine wp_iload_n 1 rfl rfl dX11_place_82 ?_
            refine wp_imul dX11_place_83 ?_
            refine wp_iload_n 2 rfl rfl dX11_place_84 ?_
            refine WP.at 85 rfl ?_
            refine wp_iadd dX11_place_85 ?_
            refine wp_iload_n 3 rfl rfl dX11_place_86 ?_
            obtain ⟨q21, H⟩ := H
            refine wp_iastore q17 q21 dX11_place_87 ?_
            refine wp_nh (fun h22 e23 => ?_)
            replace H := H h22 e23
            refine wp_iload rfl dX11_place_88 ?_
            exact wp_iret trivial dX11_place_90 H
          · replace H := H.2 c16
            refine wp_bipush (-6 : Int32) (by decide) dX11_place_60 ?_
            exact wp_iret trivial dX11_place_62 H
        · replace H := H.2 c13
          refine wp_bipush (-5 : Int32) (by decide) dX11_place_47 ?_
          exact wp_iret trivial dX11_place_49 H
      · replace H := H.2 c10
        refine wp_bipush (-3 : Int32) (by decide) dX11_place_30 ?_
        exact wp_iret trivial dX11_place_32 H
  · replace H := H.2 c4
    refine wp_bipush (-2 : Int32) (by decide) dX11_place_8 ?_
    exact wp_iret trivial dX11_place_10 H
def p_F_begin (l0 : xN) (l1 : Int32) (h : xH) (Q : xH → Prop) : Prop := (kd l0.1 = (1, 2)) ∧ ∀ h2 : xH, h2 = sI h l0 3 l1 → ∀ h4 : xH, h4 = sI h2 l0 2 (0 : Int32) → Q h4
set_option maxRecDepth 100000 in
set_option maxHeartbeats 4000000 in
theorem t_F_begin (l0 : xN) (l1 : Int32) (h : xH) (Q : xH → Prop) (H : p_F_begin l0 l1 h Q) : WP M_F_begin 0 [(0, xr l0), (1, xi l1)] [] h 0 (qv Q) := by
  unfold p_F_begin at H
  refine wp_aload_n 0 rfl rfl dX2_begin_0 ?_
  refine wp_iload_n 1 rfl rfl dX2_begin_1 ?_
  obtain ⟨q1, H⟩ := H
  refine wp_puti coX2 3 (Nat.le_of_ble_eq_true rfl) fl_X2_18 rfl rfl ⟨rfl, rfl⟩ q1 dX2_begin_2 ?_
  refine wp_nh (fun h2 e3 => ?_)
  replace H := H h2 e3
  refine wp_aload_n 0 rfl rfl dX2_begin_5 ?_
  refine wp_iconst (0 : Int32) (by decide) dX2_begin_6 ?_
  refine wp_puti coX2 2 (Nat.le_of_ble_eq_true rfl) fl_X2_22 rfl rfl ⟨rfl, rfl⟩ q1 dX2_begin_7 ?_
  refine wp_nh (fun h4 e5 => ?_)
  replace H := H h4 e5
  exact wp_vret trivial dX2_begin_10 H
def p_F_add (l0 : xN) (l1 : Int32) (l2 : Int32) (h : xH) (Q : xH → Prop) : Prop := (kd l0.1 = (1, 2)) ∧ (((12 : Int32) ≤ (hI h l0 2) → Q h) ∧ (¬ (12 : Int32) ≤ (hI h l0 2) → (kd (hR h l0 0).1 = (2, 0)) ∧ (vp_in (hI h l0 2) (hS h (hR h l0 0) - 1)) ∧ ∀ h5 : xH, h5 = sI h (hR h l0 0) (hI h l0 2).toNatClampNeg l1 → (kd (hR h5 l0 1).1 = (2, 0)) ∧ (vp_in (hI h5 l0 2) (hS h5 (hR h5 l0 1) - 1)) ∧ ∀ h9 : xH, h9 = sI h5 (hR h5 l0 1) (hI h5 l0 2).toNatClampNeg l2 → ∀ h11 : xH, h11 = sI h9 l0 2 ((hI h9 l0 2) + (1 : Int32)) → Q h11))
set_option maxRecDepth 100000 in
set_option maxHeartbeats 4000000 in
theorem t_F_add (l0 : xN) (l1 : Int32) (l2 : Int32) (h : xH) (Q : xH → Prop) (H : p_F_add l0 l1 l2 h Q) : WP M_F_add 0 [(0, xr l0), (1, xi l1), (2, xi l2)] [] h 0 (qv Q) := by
  unfold p_F_add at H
  refine wp_aload_n 0 rfl rfl dX2_add_0 ?_
  obtain ⟨q1, H⟩ := H
  refine wp_geti coX2 2 (Nat.le_of_ble_eq_true rfl) fl_X2_22 rfl q1 dX2_add_1 ?_
  refine wp_bipush (12 : Int32) (by decide) dX2_add_4 ?_
  refine WP.at 6 rfl ?_
  refine wp_icmp_ge 39 (by decide) dX2_add_6 (fun c2 => ?_) (fun c2 => ?_)
  · replace H := H.1 c2
    exact wp_vret trivial dX2_add_39 H
  · replace H := H.2 c2
    refine wp_aload_n 0 rfl rfl dX2_add_9 ?_
    refine wp_getr coX2 0 (Nat.le_of_ble_eq_true rfl) fl_X2_9 rfl q1 dX2_add_10 ?_
    refine wp_aload_n 0 rfl rfl dX2_add_13 ?_
    refine wp_geti coX2 2 (Nat.le_of_ble_eq_true rfl) fl_X2_22 rfl q1 dX2_add_14 ?_
    refine wp_iload_n 1 rfl rfl dX2_add_17 ?_
    obtain ⟨q3, H⟩ := H
    obtain ⟨q4, H⟩ := H
    refine wp_iastore q3 q4 dX2_add_18 ?_
    refine wp_nh (fun h5 e6 => ?_)
    replace H := H h5 e6
    refine wp_aload_n 0 rfl rfl dX2_add_19 ?_
    refine WP.at 20 rfl ?_
    refine wp_getr coX2 1 (Nat.le_of_ble_eq_true rfl) fl_X2_15 rfl q1 dX2_add_20 ?_
    refine wp_aload_n 0 rfl rfl dX2_add_23 ?_
    refine wp_geti coX2 2 (Nat.le_of_ble_eq_true rfl) fl_X2_22 rfl q1 dX2_add_24 ?_
    refine wp_iload_n 2 rfl rfl dX2_add_27 ?_
    obtain ⟨q7, H⟩ := H
    obtain ⟨q8, H⟩ := H
    refine wp_iastore q7 q8 dX2_add_28 ?_
    refine wp_nh (fun h9 e10 => ?_)
    replace H := H h9 e10
    refine wp_aload_n 0 rfl rfl dX2_add_29 ?_
    refine wp_dup rfl dX2_add_30 ?_
    refine wp_geti coX2 2 (Nat.le_of_ble_eq_true rfl) fl_X2_22 rfl q1 dX2_add_31 ?_
    refine WP.at 34 rfl ?_
    refine wp_iconst (1 : Int32) (by decide) dX2_add_34 ?_
    refine wp_iadd dX2_add_35 ?_
    refine wp_puti coX2 2 (Nat.le_of_ble_eq_true rfl) fl_X2_22 rfl rfl ⟨rfl, rfl⟩ q1 dX2_add_36 ?_
    refine wp_nh (fun h11 e12 => ?_)
    replace H := H h11 e12
    exact wp_vret trivial dX2_add_39 H
def p_R_readFinish_L13 (l0 : xN) (K13_50 : xH → Prop) (Q : xH → Prop) : Nat → Int32 → xH → Prop
  | 0, _, _ => False
  | f + 1, l1, h => (kd l0.1 = (1, 4)) ∧ (((hI h l0 0) < l1 → K13_50 h) ∧ (¬ (hI h l0 0) < l1 → (kd (hR h l0 2).1 = (2, 0)) ∧ (vp_in l1 (hS h (hR h l0 2) - 1)) ∧ (((hI h (hR h l0 2) l1.toNatClampNeg) ≤ 0 → ∀ v9 : Int32, v9 = l1 + (1 : Int32) → (p_R_readFinish_L13 l0 K13_50 Q f) v9 h) ∧ (¬ (hI h (hR h l0 2) l1.toNatClampNeg) ≤ 0 → (vp_in l1 (hS h (hR h l0 2) - 1)) ∧ (kd (hR h l0 3).1 = (1, 2)) ∧ p_F_add (hR h l0 3) l1 (hI h (hR h l0 2) l1.toNatClampNeg) h (fun h13 : xH => ∀ v14 : Int32, v14 = l1 + (1 : Int32) → (p_R_readFinish_L13 l0 K13_50 Q f) v14 h13)))))
set_option maxRecDepth 100000 in
set_option maxHeartbeats 4000000 in
theorem t_R_readFinish_L13 (l0 : xN) (K13_50 : xH → Prop) (Q : xH → Prop) (hK13_50 : ∀ (h : xH), K13_50 h → WP M_R_readFinish 50 [] [] h 0 (qv Q)) : ∀ (f : Nat) (l1 : Int32) (h : xH), p_R_readFinish_L13 l0 K13_50 Q f l1 h → WP M_R_readFinish 13 [(0, xr l0), (1, xi l1)] [] h 0 (qv Q) := by
  intro f
  induction f with
  | zero => exact fun _ _ H => H.elim
  | succ f hB13 =>
    intro l1 h H
    unfold p_R_readFinish_L13 at H
    refine wp_iload_n 1 rfl rfl dX5_readFinish_13 ?_
    refine wp_aload_n 0 rfl rfl dX5_readFinish_14 ?_
    obtain ⟨q4, H⟩ := H
    refine wp_geti coX5 0 (Nat.le_of_ble_eq_true rfl) fl_X5_33 rfl q4 dX5_readFinish_15 ?_
    refine WP.at 18 rfl ?_
    refine wp_icmp_gt 50 (by decide) dX5_readFinish_18 (fun c5 => ?_) (fun c5 => ?_)
    · replace H := H.1 c5
      exact WP.pick [] rfl (hK13_50 _ H)
    · replace H := H.2 c5
      refine wp_aload_n 0 rfl rfl dX5_readFinish_21 ?_
      refine wp_getr coX5 2 (Nat.le_of_ble_eq_true rfl) fl_X5_15 rfl q4 dX5_readFinish_22 ?_
      refine wp_iload_n 1 rfl rfl dX5_readFinish_25 ?_
      obtain ⟨q6, H⟩ := H
      obtain ⟨q7, H⟩ := H
      refine wp_iaload q6 q7 dX5_readFinish_26 ?_
      refine WP.at 27 rfl ?_
      refine wp_if_le 44 (by decide) dX5_readFinish_27 (fun c8 => ?_) (fun c8 => ?_)
      · replace H := H.1 c8
        refine wp_iincN (1 : Int32) (by decide) rfl (Nat.le_of_ble_eq_true rfl) dX5_readFinish_44 (ls' := fun v9 => [(1, xi v9), (0, xr l0)]) (fun _ => rfl) (fun v9 e10 => ?_)
        replace H := H v9 e10
        refine WP.at 47 rfl ?_
        refine wp_goto 13 (by decide) dX5_readFinish_47 ?_
        exact WP.pick [1, 0] rfl (hB13 v9 _ H)
      · replace H := H.2 c8
        refine wp_aload_n 0 rfl rfl dX5_readFinish_30 ?_
        refine wp_getr coX5 3 (Nat.le_of_ble_eq_true rfl) fl_X5_22 rfl q4 dX5_readFinish_31 ?_
        refine wp_iload_n 1 rfl rfl dX5_readFinish_34 ?_
        refine wp_aload_n 0 rfl rfl dX5_readFinish_35 ?_
        refine wp_getr coX5 2 (Nat.le_of_ble_eq_true rfl) fl_X5_15 rfl q4 dX5_readFinish_36 ?_
        refine wp_iload_n 1 rfl rfl dX5_readFinish_39 ?_
        obtain ⟨q11, H⟩ := H
        refine wp_iaload q6 q11 dX5_readFinish_40 ?_
        refine WP.at 41 rfl ?_
        refine WP.at 41 rfl ?_
        obtain ⟨q12, H⟩ := H
        refine wp_cVv (M2 := M_F_add) coX2 (hR h l0 3) q12 [xi l1, xi (hI h (hR h l0 2) l1.toNatClampNeg)] rfl lv_X5_50 mo_F_add (Nat.le_of_ble_eq_true rfl) ⟨(Nat.le_of_ble_eq_true rfl), (Nat.le_of_ble_eq_true rfl)⟩ (Nat.le_of_ble_eq_true rfl) (Nat.le_of_ble_eq_true rfl) dX5_readFinish_41 (t_F_add (hR h l0 3) l1 (hI h (hR h l0 2) l1.toNatClampNeg) _ _ H) (fun h13 H => ?_)
        refine wp_iincN (1 : Int32) (by decide) rfl (Nat.le_of_ble_eq_true rfl) dX5_readFinish_44 (ls' := fun v14 => [(1, xi v14), (0, xr l0)]) (fun _ => rfl) (fun v14 e15 => ?_)
        replace H := H v14 e15
        refine WP.at 47 rfl ?_
        refine wp_goto 13 (by decide) dX5_readFinish_47 ?_
        exact WP.pick [1, 0] rfl (hB13 v14 _ H)
def p_R_readFinish (l0 : xN) (h : xH) (Q : xH → Prop) : Prop := (kd l0.1 = (1, 4)) ∧ (kd (hR h l0 3).1 = (1, 2)) ∧ p_F_begin (hR h l0 3) (hI h l0 6) h (fun h3 : xH => (∃ f17, p_R_readFinish_L13 l0 (fun (h16 : xH) => Q h16) Q f17 (1 : Int32) h3))
set_option maxRecDepth 100000 in
set_option maxHeartbeats 4000000 in
theorem t_R_readFinish (l0 : xN) (h : xH) (Q : xH → Prop) (H : p_R_readFinish l0 h Q) : WP M_R_readFinish 0 [(0, xr l0)] [] h 0 (qv Q) := by
  unfold p_R_readFinish at H
  refine wp_aload_n 0 rfl rfl dX5_readFinish_0 ?_
  obtain ⟨q1, H⟩ := H
  refine wp_getr coX5 3 (Nat.le_of_ble_eq_true rfl) fl_X5_22 rfl q1 dX5_readFinish_1 ?_
  refine wp_aload_n 0 rfl rfl dX5_readFinish_4 ?_
  refine wp_geti coX5 6 (Nat.le_of_ble_eq_true rfl) fl_X5_36 rfl q1 dX5_readFinish_5 ?_
  refine WP.at 8 rfl ?_
  obtain ⟨q2, H⟩ := H
  refine wp_cVv (M2 := M_F_begin) coX2 (hR h l0 3) q2 [xi (hI h l0 6)] rfl lv_X5_46 mo_F_begin (Nat.le_of_ble_eq_true rfl) ⟨(Nat.le_of_ble_eq_true rfl), (Nat.le_of_ble_eq_true rfl)⟩ (Nat.le_of_ble_eq_true rfl) (Nat.le_of_ble_eq_true rfl) dX5_readFinish_8 (t_F_begin (hR h l0 3) (hI h l0 6) _ _ H) (fun h3 H => ?_)
  refine wp_iconst (1 : Int32) (by decide) dX5_readFinish_11 ?_
  refine wp_istore_n 1 rfl (Nat.le_of_ble_eq_true rfl) dX5_readFinish_12 (ls' := [(1, xi (1 : Int32)), (0, xr l0)]) rfl ?_
  refine WP.at 13 rfl ?_
  obtain ⟨f17, H⟩ := H
  refine WP.pick [1, 0] rfl (t_R_readFinish_L13 l0 _ Q ?_ f17 (1 : Int32) _ H)
  · intro h16 H
    exact wp_vret trivial dX5_readFinish_50 H
def p_F_isRight_L14 (l0 : xN) (l1 : Int32) (K14_51 : Int32 → xH → Prop) (Q : Int32 → xH → Prop) : Nat → Int32 → Int32 → xH → Prop
  | 0, _, _, _ => False
  | f + 1, l2, l3, h => (kd l0.1 = (1, 2)) ∧ (((hI h l0 2) ≤ l3 → K14_51 l2 h) ∧ (¬ (hI h l0 2) ≤ l3 → (kd (hR h l0 1).1 = (2, 0)) ∧ (vp_in l3 (hS h (hR h l0 1) - 1)) ∧ (vp_in l1 (hS h (hR h l0 1) - 1)) ∧ (((hI h (hR h l0 1) l1.toNatClampNeg) ≤ (hI h (hR h l0 1) l3.toNatClampNeg) → ∀ v9 : Int32, v9 = l2 + (0 : Int32) → ∀ v11 : Int32, v11 = l3 + (1 : Int32) → (p_F_isRight_L14 l0 l1 K14_51 Q f) v9 v11 h) ∧ (¬ (hI h (hR h l0 1) l1.toNatClampNeg) ≤ (hI h (hR h l0 1) l3.toNatClampNeg) → ∀ v13 : Int32, v13 = l2 + (1 : Int32) → ∀ v15 : Int32, v15 = l3 + (1 : Int32) → (p_F_isRight_L14 l0 l1 K14_51 Q f) v13 v15 h))))
set_option maxRecDepth 100000 in
set_option maxHeartbeats 4000000 in
theorem t_F_isRight_L14 (l0 : xN) (l1 : Int32) (K14_51 : Int32 → xH → Prop) (Q : Int32 → xH → Prop) (hK14_51 : ∀ (x2 : Int32) (h : xH), K14_51 x2 h → WP M_F_isRight 51 [(0, xr l0), (1, xi l1), (2, xi x2)] [] h 0 (qi Q)) : ∀ (f : Nat) (l2 : Int32) (l3 : Int32) (h : xH), p_F_isRight_L14 l0 l1 K14_51 Q f l2 l3 h → WP M_F_isRight 14 [(0, xr l0), (1, xi l1), (2, xi l2), (3, xi l3)] [] h 0 (qi Q) := by
  intro f
  induction f with
  | zero => exact fun _ _ _ H => H.elim
  | succ f hB14 =>
    intro l2 l3 h H
    unfold p_F_isRight_L14 at H
    refine wp_iload_n 3 rfl rfl dX2_isRight_14 ?_
    refine wp_aload_n 0 rfl rfl dX2_isRight_15 ?_
    obtain ⟨q3, H⟩ := H
    refine wp_geti coX2 2 (Nat.le_of_ble_eq_true rfl) fl_X2_22 rfl q3 dX2_isRight_16 ?_
    refine WP.at 19 rfl ?_
    refine wp_icmp_ge 51 (by decide) dX2_isRight_19 (fun c4 => ?_) (fun c4 => ?_)
    · replace H := H.1 c4
      exact WP.pick [0, 1, 2] rfl (hK14_51 l2 _ H)
    · replace H := H.2 c4
      refine wp_iload_n 2 rfl rfl dX2_isRight_22 ?_
      refine wp_aload_n 0 rfl rfl dX2_isRight_23 ?_
      refine wp_getr coX2 1 (Nat.le_of_ble_eq_true rfl) fl_X2_15 rfl q3 dX2_isRight_24 ?_
      refine wp_iload_n 3 rfl rfl dX2_isRight_27 ?_
      obtain ⟨q5, H⟩ := H
      obtain ⟨q6, H⟩ := H
      refine wp_iaload q5 q6 dX2_isRight_28 ?_
      refine wp_aload_n 0 rfl rfl dX2_isRight_29 ?_
      refine wp_getr coX2 1 (Nat.le_of_ble_eq_true rfl) fl_X2_15 rfl q3 dX2_isRight_30 ?_
      refine WP.at 33 rfl ?_
      refine wp_iload_n 1 rfl rfl dX2_isRight_33 ?_
      obtain ⟨q7, H⟩ := H
      refine wp_iaload q5 q7 dX2_isRight_34 ?_
      refine WP.at 35 rfl ?_
      refine wp_icmp_ge 42 (by decide) dX2_isRight_35 (fun c8 => ?_) (fun c8 => ?_)
      · replace H := H.1 c8
        refine wp_iconst (0 : Int32) (by decide) dX2_isRight_42 ?_
        refine wp_iadd dX2_isRight_43 ?_
        refine wp_nm (fun v9 e10 => ?_)
        replace H := H v9 e10
        refine wp_istore_n 2 rfl (Nat.le_of_ble_eq_true rfl) dX2_isRight_44 (ls' := [(2, xi v9), (0, xr l0), (1, xi l1), (3, xi l3)]) rfl ?_
        refine wp_iincN (1 : Int32) (by decide) rfl (Nat.le_of_ble_eq_true rfl) dX2_isRight_45 (ls' := fun v11 => [(3, xi v11), (2, xi v9), (0, xr l0), (1, xi l1)]) (fun _ => rfl) (fun v11 e12 => ?_)
        replace H := H v11 e12
        refine WP.at 48 rfl ?_
        refine wp_goto 14 (by decide) dX2_isRight_48 ?_
        exact WP.pick [2, 3, 1, 0] rfl (hB14 v9 v11 _ H)
      · replace H := H.2 c8
        refine wp_iconst (1 : Int32) (by decide) dX2_isRight_38 ?_
        refine WP.at 39 rfl ?_
        refine wp_goto 43 (by decide) dX2_isRight_39 ?_
        refine wp_iadd dX2_isRight_43 ?_
        refine wp_nm (fun v13 e14 => ?_)
        replace H := H v13 e14
        refine wp_istore_n 2 rfl (Nat.le_of_ble_eq_true rfl) dX2_isRight_44 (ls' := [(2, xi v13), (0, xr l0), (1, xi l1), (3, xi l3)]) rfl ?_
        refine wp_iincN (1 : Int32) (by decide) rfl (Nat.le_of_ble_eq_true rfl) dX2_isRight_45 (ls' := fun v15 => [(3, xi v15), (2, xi v13), (0, xr l0), (1, xi l1)]) (fun _ => rfl) (fun v15 e16 => ?_)
        replace H := H v15 e16
        refine WP.at 48 rfl ?_
        refine wp_goto 14 (by decide) dX2_isRight_48 ?_
        exact WP.pick [2, 3, 1, 0] rfl (hB14 v13 v15 _ H)
def p_F_isRight_L2 (l0 : xN) (K2_71 : xH → Prop) (Q : Int32 → xH → Prop) : Nat → Int32 → xH → Prop
  | 0, _, _ => False
  | f + 1, l1, h => (kd l0.1 = (1, 2)) ∧ (((hI h l0 2) ≤ l1 → K2_71 h) ∧ (¬ (hI h l0 2) ≤ l1 → (∃ f24, p_F_isRight_L14 l0 l1 (fun (x17 : Int32) (h18 : xH) => (kd (hR h18 l0 1).1 = (2, 0)) ∧ (vp_in l1 (hS h18 (hR h18 l0 1) - 1)) ∧ ((x17 = ((hI h18 (hR h18 l0 1) l1.toNatClampNeg) - (1 : Int32)) → ∀ v22 : Int32, v22 = l1 + (1 : Int32) → (p_F_isRight_L2 l0 K2_71 Q f) v22 h18) ∧ (¬ x17 = ((hI h18 (hR h18 l0 1) l1.toNatClampNeg) - (1 : Int32)) → Q (0 : Int32) h18))) Q f24 (0 : Int32) (0 : Int32) h)))
set_option maxRecDepth 100000 in
set_option maxHeartbeats 4000000 in
theorem t_F_isRight_L2 (l0 : xN) (K2_71 : xH → Prop) (Q : Int32 → xH → Prop) (hK2_71 : ∀ (h : xH), K2_71 h → WP M_F_isRight 71 [] [] h 0 (qi Q)) : ∀ (f : Nat) (l1 : Int32) (h : xH), p_F_isRight_L2 l0 K2_71 Q f l1 h → WP M_F_isRight 2 [(0, xr l0), (1, xi l1)] [] h 0 (qi Q) := by
  intro f
  induction f with
  | zero => exact fun _ _ H => H.elim
  | succ f hB2 =>
    intro l1 h H
    unfold p_F_isRight_L2 at H
    refine wp_iload_n 1 rfl rfl dX2_isRight_2 ?_
    refine wp_aload_n 0 rfl rfl dX2_isRight_3 ?_
    obtain ⟨q1, H⟩ := H
    refine wp_geti coX2 2 (Nat.le_of_ble_eq_true rfl) fl_X2_22 rfl q1 dX2_isRight_4 ?_
    refine WP.at 7 rfl ?_
    refine wp_icmp_ge 71 (by decide) dX2_isRight_7 (fun c2 => ?_) (fun c2 => ?_)
    · replace H := H.1 c2
      exact WP.pick [] rfl (hK2_71 _ H)
    · replace H := H.2 c2
      refine wp_iconst (0 : Int32) (by decide) dX2_isRight_10 ?_
      refine wp_istore_n 2 rfl (Nat.le_of_ble_eq_true rfl) dX2_isRight_11 (ls' := [(2, xi (0 : Int32)), (0, xr l0), (1, xi l1)]) rfl ?_
      refine wp_iconst (0 : Int32) (by decide) dX2_isRight_12 ?_
      refine wp_istore_n 3 rfl (Nat.le_of_ble_eq_true rfl) dX2_isRight_13 (ls' := [(3, xi (0 : Int32)), (2, xi (0 : Int32)), (0, xr l0), (1, xi l1)]) rfl ?_
      refine WP.at 14 rfl ?_
      obtain ⟨f24, H⟩ := H
      refine WP.pick [2, 3, 1, 0] rfl (t_F_isRight_L14 l0 l1 _ Q ?_ f24 (0 : Int32) (0 : Int32) _ H)
      · intro x17 h18 H
        refine wp_iload_n 2 rfl rfl dX2_isRight_51 ?_
        refine wp_aload_n 0 rfl rfl dX2_isRight_52 ?_
        refine wp_getr coX2 1 (Nat.le_of_ble_eq_true rfl) fl_X2_15 rfl q1 dX2_isRight_53 ?_
        refine wp_iload_n 1 rfl rfl dX2_isRight_56 ?_
        obtain ⟨q19, H⟩ := H
        obtain ⟨q20, H⟩ := H
        refine wp_iaload q19 q20 dX2_isRight_57 ?_
        refine wp_iconst (1 : Int32) (by decide) dX2_isRight_58 ?_
        refine wp_isub dX2_isRight_59 ?_
        refine WP.at 60 rfl ?_
        refine WP.at 60 rfl ?_
        refine wp_icmp_eq 65 (by decide) dX2_isRight_60 (fun c21 => ?_) (fun c21 => ?_)
        · replace H := H.1 c21
          refine wp_iincN (1 : Int32) (by decide) rfl (Nat.le_of_ble_eq_true rfl) dX2_isRight_65 (ls' := fun v22 => [(1, xi v22), (0, xr l0), (2, xi x17)]) (fun _ => rfl) (fun v22 e23 => ?_)
          replace H := H v22 e23
          refine WP.at 68 rfl ?_
          refine wp_goto 2 (by decide) dX2_isRight_68 ?_
          exact WP.pick [1, 0] rfl (hB2 v22 _ H)
        · replace H := H.2 c21
          refine wp_iconst (0 : Int32) (by decide) dX2_isRight_63 ?_
          exact wp_iret (Or.inl rfl) dX2_isRight_64 H
def p_F_isRight (l0 : xN) (h : xH) (Q : Int32 → xH → Prop) : Prop := (∃ f26, p_F_isRight_L2 l0 (fun (h25 : xH) => Q (1 : Int32) h25) Q f26 (0 : Int32) h)
set_option maxRecDepth 100000 in
set_option maxHeartbeats 4000000 in
theorem t_F_isRight (l0 : xN) (h : xH) (Q : Int32 → xH → Prop) (H : p_F_isRight l0 h Q) : WP M_F_isRight 0 [(0, xr l0)] [] h 0 (qi Q) := by
  unfold p_F_isRight at H
  refine wp_iconst (0 : Int32) (by decide) dX2_isRight_0 ?_
  refine wp_istore_n 1 rfl (Nat.le_of_ble_eq_true rfl) dX2_isRight_1 (ls' := [(1, xi (0 : Int32)), (0, xr l0)]) rfl ?_
  refine WP.at 2 rfl ?_
  obtain ⟨f26, H⟩ := H
  refine WP.pick [1, 0] rfl (t_F_isRight_L2 l0 _ Q ?_ f26 (0 : Int32) _ H)
  · intro h25 H
    refine wp_iconst (1 : Int32) (by decide) dX2_isRight_71 ?_
    exact wp_iret (Or.inr rfl) dX2_isRight_72 H
def p_Jm_min (l0 : Int32) (l1 : Int32) (h : xH) (Q : Int32 → xH → Prop) : Prop := ((l1 < l0 → Q l1 h) ∧ (¬ l1 < l0 → Q l0 h))
set_option maxRecDepth 100000 in
set_option maxHeartbeats 4000000 in
theorem t_Jm_min (l0 : Int32) (l1 : Int32) (h : xH) (Q : Int32 → xH → Prop) (H : p_Jm_min l0 l1 h Q) : WP M_Jm_min 0 [(0, xi l0), (1, xi l1)] [] h 0 (qi Q) := by
  unfold p_Jm_min at H
  refine wp_iload_n 0 rfl rfl dJ9_min_7cf53_0 ?_
  refine wp_iload_n 1 rfl rfl dJ9_min_7cf53_1 ?_
  refine WP.at 2 rfl ?_
  refine wp_icmp_gt 9 (by decide) dJ9_min_7cf53_2 (fun c1 => ?_) (fun c1 => ?_)
  · replace H := H.1 c1
    refine wp_iload_n 1 rfl rfl dJ9_min_7cf53_9 ?_
    exact wp_iret trivial dJ9_min_7cf53_10 H
  · replace H := H.2 c1
    refine wp_iload_n 0 rfl rfl dJ9_min_7cf53_5 ?_
    refine WP.at 6 rfl ?_
    refine wp_goto 10 (by decide) dJ9_min_7cf53_6 ?_
    exact wp_iret trivial dJ9_min_7cf53_10 H
def p_Po_isSettled (l0 : xN) (h : xH) (Q : Int32 → xH → Prop) : Prop := (kd l0.1 = (1, 3)) ∧ (kd (hR h l0 8).1 = (2, 0)) ∧ (vp_in (10 : Int32) (hS h (hR h l0 8) - 1)) ∧ ((¬ (hI h (hR h l0 8) (10 : Int32).toNatClampNeg) = (1 : Int32) → Q (0 : Int32) h) ∧ ((hI h (hR h l0 8) (10 : Int32).toNatClampNeg) = (1 : Int32) → Q (1 : Int32) h))
set_option maxRecDepth 100000 in
set_option maxHeartbeats 4000000 in
theorem t_Po_isSettled (l0 : xN) (h : xH) (Q : Int32 → xH → Prop) (H : p_Po_isSettled l0 h Q) : WP M_Po_isSettled 0 [(0, xr l0)] [] h 0 (qi Q) := by
  unfold p_Po_isSettled at H
  refine wp_aload_n 0 rfl rfl dX4_isSettled_0 ?_
  obtain ⟨q1, H⟩ := H
  refine wp_getr coX4 8 (Nat.le_of_ble_eq_true rfl) fl_X4_9 rfl q1 dX4_isSettled_1 ?_
  refine wp_bipush (10 : Int32) (by decide) dX4_isSettled_4 ?_
  obtain ⟨q2, H⟩ := H
  obtain ⟨q3, H⟩ := H
  refine wp_iaload q2 q3 dX4_isSettled_6 ?_
  refine wp_iconst (1 : Int32) (by decide) dX4_isSettled_7 ?_
  refine WP.at 8 rfl ?_
  refine wp_icmp_ne 15 (by decide) dX4_isSettled_8 (fun c4 => ?_) (fun c4 => ?_)
  · replace H := H.1 c4
    refine wp_iconst (0 : Int32) (by decide) dX4_isSettled_15 ?_
    exact wp_iret (Or.inl rfl) dX4_isSettled_16 H
  · replace H := H.2 c4
    refine wp_iconst (1 : Int32) (by decide) dX4_isSettled_11 ?_
    refine WP.at 12 rfl ?_
    refine wp_goto 16 (by decide) dX4_isSettled_12 ?_
    exact wp_iret (Or.inr rfl) dX4_isSettled_16 H
def p_Po_isVoid (l0 : xN) (l1 : Int32) (h : xH) (Q : Int32 → xH → Prop) : Prop := (kd l0.1 = (1, 3)) ∧ (((hI h l0 1) = (1 : Int32) → (((5 : Int32) ≤ l1 → Q (0 : Int32) h) ∧ (¬ (5 : Int32) ≤ l1 → Q (1 : Int32) h))) ∧ ((hI h l0 1) = (2 : Int32) → (((2 : Int32) ≤ l1 → Q (0 : Int32) h) ∧ (¬ (2 : Int32) ≤ l1 → Q (1 : Int32) h))) ∧ ((hI h l0 1) = (3 : Int32) → (((3 : Int32) ≤ l1 → Q (0 : Int32) h) ∧ (¬ (3 : Int32) ≤ l1 → Q (1 : Int32) h))) ∧ ((∀ q ∈ ([(1 : Int32), (2 : Int32), (3 : Int32)] : List Int32), (hI h l0 1) ≠ q) → Q (0 : Int32) h))
set_option maxRecDepth 100000 in
set_option maxHeartbeats 4000000 in
theorem t_Po_isVoid (l0 : xN) (l1 : Int32) (h : xH) (Q : Int32 → xH → Prop) (H : p_Po_isVoid l0 l1 h Q) : WP M_Po_isVoid 0 [(0, xr l0), (1, xi l1)] [] h 0 (qi Q) := by
  unfold p_Po_isVoid at H
  refine wp_aload_n 0 rfl rfl dX4_isVoid_0 ?_
  obtain ⟨q1, H⟩ := H
  refine wp_geti coX4 1 (Nat.le_of_ble_eq_true rfl) fl_X4_19 rfl q1 dX4_isVoid_1 ?_
  refine WP.at 4 rfl ?_
  refine wp_tsw dX4_isVoid_4 [((1 : Int32), 32), ((2 : Int32), 43), ((3 : Int32), 54)] 65 (by decide) (by decide +kernel) (by decide +kernel) ?_ ?_
  · refine List.forall_mem_cons.mpr ⟨fun c0 => ?_, List.forall_mem_cons.mpr ⟨fun c0 => ?_, List.forall_mem_cons.mpr ⟨fun c0 => ?_, fun _ z => absurd z List.not_mem_nil⟩⟩⟩
    · replace H := H.1 c0
      refine wp_iload_n 1 rfl rfl dX4_isVoid_32 ?_
      refine wp_iconst (5 : Int32) (by decide) dX4_isVoid_33 ?_
      refine WP.at 34 rfl ?_
      refine wp_icmp_ge 41 (by decide) dX4_isVoid_34 (fun c2 => ?_) (fun c2 => ?_)
      · replace H := H.1 c2
        refine wp_iconst (0 : Int32) (by decide) dX4_isVoid_41 ?_
        exact wp_iret (Or.inl rfl) dX4_isVoid_42 H
      · replace H := H.2 c2
        refine wp_iconst (1 : Int32) (by decide) dX4_isVoid_37 ?_
        refine WP.at 38 rfl ?_
        refine wp_goto 42 (by decide) dX4_isVoid_38 ?_
        exact wp_iret (Or.inr rfl) dX4_isVoid_42 H
    · replace H := H.2.1 c0
      refine wp_iload_n 1 rfl rfl dX4_isVoid_43 ?_
      refine wp_iconst (2 : Int32) (by decide) dX4_isVoid_44 ?_
      refine WP.at 45 rfl ?_
      refine wp_icmp_ge 52 (by decide) dX4_isVoid_45 (fun c3 => ?_) (fun c3 => ?_)
      · replace H := H.1 c3
        refine wp_iconst (0 : Int32) (by decide) dX4_isVoid_52 ?_
        exact wp_iret (Or.inl rfl) dX4_isVoid_53 H
      · replace H := H.2 c3
        refine wp_iconst (1 : Int32) (by decide) dX4_isVoid_48 ?_
        refine WP.at 49 rfl ?_
        refine wp_goto 53 (by decide) dX4_isVoid_49 ?_
        exact wp_iret (Or.inr rfl) dX4_isVoid_53 H
    · replace H := H.2.2.1 c0
      refine wp_iload_n 1 rfl rfl dX4_isVoid_54 ?_
      refine wp_iconst (3 : Int32) (by decide) dX4_isVoid_55 ?_
      refine WP.at 56 rfl ?_
      refine wp_icmp_ge 63 (by decide) dX4_isVoid_56 (fun c4 => ?_) (fun c4 => ?_)
      · replace H := H.1 c4
        refine wp_iconst (0 : Int32) (by decide) dX4_isVoid_63 ?_
        exact wp_iret (Or.inl rfl) dX4_isVoid_64 H
      · replace H := H.2 c4
        refine wp_iconst (1 : Int32) (by decide) dX4_isVoid_59 ?_
        refine WP.at 60 rfl ?_
        refine wp_goto 64 (by decide) dX4_isVoid_60 ?_
        exact wp_iret (Or.inr rfl) dX4_isVoid_64 H
  · intro c0
    replace H := H.2.2.2 c0
    refine wp_iconst (0 : Int32) (by decide) dX4_isVoid_65 ?_
    exact wp_iret (Or.inl rfl) dX4_isVoid_66 H
def p_Se_indexOf_L2 (l0 : xN) (l1 : Int32) (K2_28 : xH → Prop) (Q : Int32 → xH → Prop) : Nat → Int32 → xH → Prop
  | 0, _, _ => False
  | f + 1, l2, h => (kd l0.1 = (1, 6)) ∧ (((hI h l0 2) ≤ l2 → K2_28 h) ∧ (¬ (hI h l0 2) ≤ l2 → (kd (hR h l0 0).1 = (2, 0)) ∧ (vp_in l2 (hS h (hR h l0 0) - 1)) ∧ ((¬ (hI h (hR h l0 0) l2.toNatClampNeg) = l1 → ∀ v6 : Int32, v6 = l2 + (1 : Int32) → (p_Se_indexOf_L2 l0 l1 K2_28 Q f) v6 h) ∧ ((hI h (hR h l0 0) l2.toNatClampNeg) = l1 → Q l2 h))))
set_option maxRecDepth 100000 in
set_option maxHeartbeats 4000000 in
theorem t_Se_indexOf_L2 (l0 : xN) (l1 : Int32) (K2_28 : xH → Prop) (Q : Int32 → xH → Prop) (hK2_28 : ∀ (h : xH), K2_28 h → WP M_Se_indexOf 28 [] [] h 0 (qi Q)) : ∀ (f : Nat) (l2 : Int32) (h : xH), p_Se_indexOf_L2 l0 l1 K2_28 Q f l2 h → WP M_Se_indexOf 2 [(0, xr l0), (1, xi l1), (2, xi l2)] [] h 0 (qi Q) := by
  intro f
  induction f with
  | zero => exact fun _ _ H => H.elim
  | succ f hB2 =>
    intro l2 h H
    unfold p_Se_indexOf_L2 at H
    refine wp_iload_n 2 rfl rfl dX7_indexOf_2 ?_
    refine wp_aload_n 0 rfl rfl dX7_indexOf_3 ?_
    obtain ⟨q1, H⟩ := H
    refine wp_geti coX7 2 (Nat.le_of_ble_eq_true rfl) fl_X7_18 rfl q1 dX7_indexOf_4 ?_
    refine WP.at 7 rfl ?_
    refine wp_icmp_ge 28 (by decide) dX7_indexOf_7 (fun c2 => ?_) (fun c2 => ?_)
    · replace H := H.1 c2
      exact WP.pick [] rfl (hK2_28 _ H)
    · replace H := H.2 c2
      refine wp_aload_n 0 rfl rfl dX7_indexOf_10 ?_
      refine wp_getr coX7 0 (Nat.le_of_ble_eq_true rfl) fl_X7_9 rfl q1 dX7_indexOf_11 ?_
      refine wp_iload_n 2 rfl rfl dX7_indexOf_14 ?_
      obtain ⟨q3, H⟩ := H
      obtain ⟨q4, H⟩ := H
      refine wp_iaload q3 q4 dX7_indexOf_15 ?_
      refine wp_iload_n 1 rfl rfl dX7_indexOf_16 ?_
      refine WP.at 17 rfl ?_
      refine wp_icmp_ne 22 (by decide) dX7_indexOf_17 (fun c5 => ?_) (fun c5 => ?_)
      · replace H := H.1 c5
        refine wp_iincN (1 : Int32) (by decide) rfl (Nat.le_of_ble_eq_true rfl) dX7_indexOf_22 (ls' := fun v6 => [(2, xi v6), (0, xr l0), (1, xi l1)]) (fun _ => rfl) (fun v6 e7 => ?_)
        replace H := H v6 e7
        refine WP.at 25 rfl ?_
        refine wp_goto 2 (by decide) dX7_indexOf_25 ?_
        exact WP.pick [1, 2, 0] rfl (hB2 v6 _ H)
      · replace H := H.2 c5
        refine wp_iload_n 2 rfl rfl dX7_indexOf_20 ?_
        exact wp_iret trivial dX7_indexOf_21 H
def p_Se_indexOf (l0 : xN) (l1 : Int32) (h : xH) (Q : Int32 → xH → Prop) : Prop := (∃ f9, p_Se_indexOf_L2 l0 l1 (fun (h8 : xH) => Q (-1 : Int32) h8) Q f9 (0 : Int32) h)
set_option maxRecDepth 100000 in
set_option maxHeartbeats 4000000 in
theorem t_Se_indexOf (l0 : xN) (l1 : Int32) (h : xH) (Q : Int32 → xH → Prop) (H : p_Se_indexOf l0 l1 h Q) : WP M_Se_indexOf 0 [(0, xr l0), (1, xi l1)] [] h 0 (qi Q) := by
  unfold p_Se_indexOf at H
  refine wp_iconst (0 : Int32) (by decide) dX7_indexOf_0 ?_
  refine wp_istore_n 2 rfl (Nat.le_of_ble_eq_true rfl) dX7_indexOf_1 (ls' := [(2, xi (0 : Int32)), (0, xr l0), (1, xi l1)]) rfl ?_
  refine WP.at 2 rfl ?_
  obtain ⟨f9, H⟩ := H
  refine WP.pick [1, 2, 0] rfl (t_Se_indexOf_L2 l0 l1 _ Q ?_ f9 (0 : Int32) _ H)
  · intro h8 H
    refine wp_iconst (-1 : Int32) (by decide) dX7_indexOf_28 ?_
    exact wp_iret trivial dX7_indexOf_29 H
def p_Se_take (l0 : xN) (l1 : xN) (l2 : Int32) (l3 : Int32) (l4 : Int32) (h : xH) (Q : xH → Prop) : Prop := (kd l1.1 = (1, 3)) ∧ p_Po_lineOf l1 l2 l3 l4 h (fun (v3 : Int32) (h2 : xH) => (kd (hR h2 l1 6).1 = (2, 0)) ∧ (vp_in v3 (hS h2 (hR h2 l1 6) - 1)) ∧ (((hI h2 (hR h2 l1 6) v3.toNatClampNeg) ≤ 0 → Q h2) ∧ (¬ (hI h2 (hR h2 l1 6) v3.toNatClampNeg) ≤ 0 → (kd l0.1 = (1, 6)) ∧ p_Se_indexOf l0 v3 h2 (fun (v9 : Int32) (h8 : xH) => ((¬ v9 = (-1 : Int32) → Q h8) ∧ (v9 = (-1 : Int32) → (((200 : Int32) ≤ (hI h8 l0 2) → Q h8) ∧ (¬ (200 : Int32) ≤ (hI h8 l0 2) → (kd (hR h8 l0 0).1 = (2, 0)) ∧ (vp_in (hI h8 l0 2) (hS h8 (hR h8 l0 0) - 1)) ∧ ∀ h14 : xH, h14 = sI h8 (hR h8 l0 0) (hI h8 l0 2).toNatClampNeg v3 → ∀ h16 : xH, h16 = sI h14 l0 2 ((hI h14 l0 2) + (1 : Int32)) → Q h16))))))))
set_option maxRecDepth 100000 in
set_option maxHeartbeats 4000000 in
theorem t_Se_take (l0 : xN) (l1 : xN) (l2 : Int32) (l3 : Int32) (l4 : Int32) (h : xH) (Q : xH → Prop) (H : p_Se_take l0 l1 l2 l3 l4 h Q) : WP M_Se_take 0 [(0, xr l0), (1, xr l1), (2, xi l2), (3, xi l3), (4, xi l4)] [] h 0 (qv Q) := by
  unfold p_Se_take at H
  refine wp_aload_n 1 rfl rfl dX7_take_0 ?_
  refine wp_iload_n 2 rfl rfl dX7_take_1 ?_
  refine wp_iload_n 3 rfl rfl dX7_take_2 ?_
  refine wp_iload rfl dX7_take_3 ?_
  refine WP.at 5 rfl ?_
  obtain ⟨q1, H⟩ := H
  refine wp_cVi (M2 := M_Po_lineOf) coX4 l1 q1 [xi l2, xi l3, xi l4] rfl lv_X7_104 mo_Po_lineOf (Nat.le_of_ble_eq_true rfl) ⟨(Nat.le_of_ble_eq_true rfl), (Nat.le_of_ble_eq_true rfl)⟩ (Nat.le_of_ble_eq_true rfl) (Nat.le_of_ble_eq_true rfl) dX7_take_5 (t_Po_lineOf l1 l2 l3 l4 _ _ H) (fun v3 h2 H => ?_)
  refine wp_istore (Nat.le_of_ble_eq_true rfl) dX7_take_8 (ls' := [(5, xi v3), (0, xr l0), (1, xr l1), (2, xi l2), (3, xi l3), (4, xi l4)]) rfl ?_
  refine wp_aload_n 1 rfl rfl dX7_take_10 ?_
  refine WP.at 11 rfl ?_
  refine wp_getr coX4 6 (Nat.le_of_ble_eq_true rfl) fl_X7_108 rfl q1 dX7_take_11 ?_
  refine wp_iload rfl dX7_take_14 ?_
  obtain ⟨q4, H⟩ := H
  obtain ⟨q5, H⟩ := H
  refine wp_iaload q4 q5 dX7_take_16 ?_
  refine WP.at 17 rfl ?_
  refine wp_if_le 61 (by decide) dX7_take_17 (fun c6 => ?_) (fun c6 => ?_)
  · replace H := H.1 c6
    exact wp_vret trivial dX7_take_61 H
  · replace H := H.2 c6
    refine wp_aload_n 0 rfl rfl dX7_take_20 ?_
    refine wp_iload rfl dX7_take_21 ?_
    refine WP.at 23 rfl ?_
    obtain ⟨q7, H⟩ := H
    refine wp_cVi (M2 := M_Se_indexOf) coX7 l0 q7 [xi v3] rfl lv_X7_111 mo_Se_indexOf (Nat.le_of_ble_eq_true rfl) ⟨(Nat.le_of_ble_eq_true rfl), (Nat.le_of_ble_eq_true rfl)⟩ (Nat.le_of_ble_eq_true rfl) (Nat.le_of_ble_eq_true rfl) dX7_take_23 (t_Se_indexOf l0 v3 _ _ H) (fun v9 h8 H => ?_)
    refine wp_iconst (-1 : Int32) (by decide) dX7_take_26 ?_
    refine WP.at 27 rfl ?_
    refine wp_icmp_ne 61 (by decide) dX7_take_27 (fun c10 => ?_) (fun c10 => ?_)
    · replace H := H.1 c10
      exact wp_vret trivial dX7_take_61 H
    · replace H := H.2 c10
      refine wp_aload_n 0 rfl rfl dX7_take_30 ?_
      refine wp_geti coX7 2 (Nat.le_of_ble_eq_true rfl) fl_X7_18 rfl q7 dX7_take_31 ?_
      refine wp_sipush (200 : Int32) (by decide) dX7_take_34 ?_
      refine WP.at 37 rfl ?_
      refine wp_icmp_ge 61 (by decide) dX7_take_37 (fun c11 => ?_) (fun c11 => ?_)
      · replace H := H.1 c11
        exact wp_vret trivial dX7_take_61 H
      · replace H := H.2 c11
        refine wp_aload_n 0 rfl rfl dX7_take_40 ?_
        refine wp_getr coX7 0 (Nat.le_of_ble_eq_true rfl) fl_X7_9 rfl q7 dX7_take_41 ?_
        refine wp_aload_n 0 rfl rfl dX7_take_44 ?_
        refine wp_geti coX7 2 (Nat.le_of_ble_eq_true rfl) fl_X7_18 rfl q7 dX7_take_45 ?_
        refine wp_iload rfl dX7_take_48 ?_
        obtain ⟨q12, H⟩ := H
        obtain ⟨q13, H⟩ := H
        refine wp_iastore q12 q13 dX7_take_50 ?_
        refine wp_nh (fun h14 e15 => ?_)
        replace H := H h14 e15
        refine wp_aload_n 0 rfl rfl dX7_take_51 ?_
        refine WP.at 52 rfl ?_
        refine wp_dup rfl dX7_take_52 ?_
        refine wp_geti coX7 2 (Nat.le_of_ble_eq_true rfl) fl_X7_18 rfl q7 dX7_take_53 ?_
        refine wp_iconst (1 : Int32) (by decide) dX7_take_56 ?_
        refine wp_iadd dX7_take_57 ?_
        refine wp_puti coX7 2 (Nat.le_of_ble_eq_true rfl) fl_X7_18 rfl rfl ⟨rfl, rfl⟩ q7 dX7_take_58 ?_
        refine wp_nh (fun h16 e17 => ?_)
        replace H := H h16 e17
        exact wp_vret trivial dX7_take_61 H
def p_Se_takePlaced_L18 (l0 : xN) (l1 : xN) (l2 : xN) (l3 : Int32) (K18_58 : xH → Prop) (Q : xH → Prop) : Nat → Int32 → xH → Prop
  | 0, _, _ => False
  | f + 1, l4, h => (kd l2.1 = (1, 2)) ∧ (((hI h l2 2) ≤ l4 → K18_58 h) ∧ (¬ (hI h l2 2) ≤ l4 → (kd (hR h l2 1).1 = (2, 0)) ∧ (vp_in l4 (hS h (hR h l2 1) - 1)) ∧ ((l3 < (hI h (hR h l2 1) l4.toNatClampNeg) → ∀ v8 : Int32, v8 = l4 + (1 : Int32) → (p_Se_takePlaced_L18 l0 l1 l2 l3 K18_58 Q f) v8 h) ∧ (¬ l3 < (hI h (hR h l2 1) l4.toNatClampNeg) → (kd (hR h l2 0).1 = (2, 0)) ∧ (vp_in l4 (hS h (hR h l2 0) - 1)) ∧ (kd l0.1 = (1, 6)) ∧ p_Se_take l0 l1 (hI h (hR h l2 0) l4.toNatClampNeg) (0 : Int32) (0 : Int32) h (fun h13 : xH => ∀ v14 : Int32, v14 = l4 + (1 : Int32) → (p_Se_takePlaced_L18 l0 l1 l2 l3 K18_58 Q f) v14 h13)))))
set_option maxRecDepth 100000 in
set_option maxHeartbeats 4000000 in
theorem t_Se_takePlaced_L18 (l0 : xN) (l1 : xN) (l2 : xN) (l3 : Int32) (K18_58 : xH → Prop) (Q : xH → Prop) (hK18_58 : ∀ (h : xH), K18_58 h → WP M_Se_takePlaced 58 [] [] h 0 (qv Q)) : ∀ (f : Nat) (l4 : Int32) (h : xH), p_Se_takePlaced_L18 l0 l1 l2 l3 K18_58 Q f l4 h → WP M_Se_takePlaced 18 [(0, xr l0), (1, xr l1), (2, xr l2), (3, xi l3), (4, xi l4)] [] h 0 (qv Q) := by
  intro f
  induction f with
  | zero => exact fun _ _ H => H.elim
  | succ f hB18 =>
    intro l4 h H
    unfold p_Se_takePlaced_L18 at H
    refine wp_iload rfl dX7_takePlaced_18 ?_
    refine wp_aload_n 2 rfl rfl dX7_takePlaced_20 ?_
    obtain ⟨q3, H⟩ := H
    refine wp_geti coX2 2 (Nat.le_of_ble_eq_true rfl) fl_X7_87 rfl q3 dX7_takePlaced_21 ?_
    refine WP.at 24 rfl ?_
    refine wp_icmp_ge 58 (by decide) dX7_takePlaced_24 (fun c4 => ?_) (fun c4 => ?_)
    · replace H := H.1 c4
      exact WP.pick [] rfl (hK18_58 _ H)
    · replace H := H.2 c4
      refine wp_aload_n 2 rfl rfl dX7_takePlaced_27 ?_
      refine wp_getr coX2 1 (Nat.le_of_ble_eq_true rfl) fl_X7_101 rfl q3 dX7_takePlaced_28 ?_
      refine wp_iload rfl dX7_takePlaced_31 ?_
      obtain ⟨q5, H⟩ := H
      obtain ⟨q6, H⟩ := H
      refine wp_iaload q5 q6 dX7_takePlaced_33 ?_
      refine wp_iload_n 3 rfl rfl dX7_takePlaced_34 ?_
      refine WP.at 35 rfl ?_
      refine wp_icmp_gt 52 (by decide) dX7_takePlaced_35 (fun c7 => ?_) (fun c7 => ?_)
      · replace H := H.1 c7
        refine wp_iincN (1 : Int32) (by decide) rfl (Nat.le_of_ble_eq_true rfl) dX7_takePlaced_52 (ls' := fun v8 => [(4, xi v8), (0, xr l0), (1, xr l1), (2, xr l2), (3, xi l3)]) (fun _ => rfl) (fun v8 e9 => ?_)
        replace H := H v8 e9
        refine WP.at 55 rfl ?_
        refine wp_goto 18 (by decide) dX7_takePlaced_55 ?_
        exact WP.pick [1, 2, 3, 4, 0] rfl (hB18 v8 _ H)
      · replace H := H.2 c7
        refine wp_aload_n 0 rfl rfl dX7_takePlaced_38 ?_
        refine wp_aload_n 1 rfl rfl dX7_takePlaced_39 ?_
        refine wp_aload_n 2 rfl rfl dX7_takePlaced_40 ?_
        refine wp_getr coX2 0 (Nat.le_of_ble_eq_true rfl) fl_X7_94 rfl q3 dX7_takePlaced_41 ?_
        refine wp_iload rfl dX7_takePlaced_44 ?_
        obtain ⟨q10, H⟩ := H
        obtain ⟨q11, H⟩ := H
        refine wp_iaload q10 q11 dX7_takePlaced_46 ?_
        refine wp_iconst (0 : Int32) (by decide) dX7_takePlaced_47 ?_
        refine WP.at 48 rfl ?_
        refine wp_iconst (0 : Int32) (by decide) dX7_takePlaced_48 ?_
        refine WP.at 49 rfl ?_
        obtain ⟨q12, H⟩ := H
        refine wp_cVv (M2 := M_Se_take) coX7 l0 q12 [xr l1, xi (hI h (hR h l2 0) l4.toNatClampNeg), xi (0 : Int32), xi (0 : Int32)] rfl lv_X7_97 mo_Se_take (Nat.le_of_ble_eq_true rfl) ⟨(Nat.le_of_ble_eq_true rfl), (Nat.le_of_ble_eq_true rfl)⟩ (Nat.le_of_ble_eq_true rfl) (Nat.le_of_ble_eq_true rfl) dX7_takePlaced_49 (t_Se_take l0 l1 (hI h (hR h l2 0) l4.toNatClampNeg) (0 : Int32) (0 : Int32) _ _ H) (fun h13 H => ?_)
        refine wp_iincN (1 : Int32) (by decide) rfl (Nat.le_of_ble_eq_true rfl) dX7_takePlaced_52 (ls' := fun v14 => [(4, xi v14), (0, xr l0), (1, xr l1), (2, xr l2), (3, xi l3)]) (fun _ => rfl) (fun v14 e15 => ?_)
        replace H := H v14 e15
        refine WP.at 55 rfl ?_
        refine wp_goto 18 (by decide) dX7_takePlaced_55 ?_
        exact WP.pick [1, 2, 3, 4, 0] rfl (hB18 v14 _ H)
def p_Se_takePlaced (l0 : xN) (l1 : xN) (l2 : xN) (h : xH) (Q : xH → Prop) : Prop := (kd l2.1 = (1, 2)) ∧ (((8 : Int32) ≤ (hI h l2 3) → (∃ f17, p_Se_takePlaced_L18 l0 l1 l2 (3 : Int32) (fun (h16 : xH) => Q h16) Q f17 (0 : Int32) h)) ∧ (¬ (8 : Int32) ≤ (hI h l2 3) → (∃ f19, p_Se_takePlaced_L18 l0 l1 l2 (2 : Int32) (fun (h18 : xH) => Q h18) Q f19 (0 : Int32) h)))
set_option maxRecDepth 100000 in
set_option maxHeartbeats 4000000 in
theorem t_Se_takePlaced (l0 : xN) (l1 : xN) (l2 : xN) (h : xH) (Q : xH → Prop) (H : p_Se_takePlaced l0 l1 l2 h Q) : WP M_Se_takePlaced 0 [(0, xr l0), (1, xr l1), (2, xr l2)] [] h 0 (qv Q) := by
  unfold p_Se_takePlaced at H
  refine wp_aload_n 2 rfl rfl dX7_takePlaced_0 ?_
  obtain ⟨q1, H⟩ := H
  refine wp_geti coX2 3 (Nat.le_of_ble_eq_true rfl) fl_X7_37 rfl q1 dX7_takePlaced_1 ?_
  refine wp_bipush (8 : Int32) (by decide) dX7_takePlaced_4 ?_
  refine WP.at 6 rfl ?_
  refine wp_icmp_ge 13 (by decide) dX7_takePlaced_6 (fun c2 => ?_) (fun c2 => ?_)
  · replace H := H.1 c2
    refine wp_iconst (3 : Int32) (by decide) dX7_takePlaced_13 ?_
    refine wp_istore_n 3 rfl (Nat.le_of_ble_eq_true rfl) dX7_takePlaced_14 (ls' := [(3, xi (3 : Int32)), (0, xr l0), (1, xr l1), (2, xr l2)]) rfl ?_
    refine wp_iconst (0 : Int32) (by decide) dX7_takePlaced_15 ?_
    refine wp_istore (Nat.le_of_ble_eq_true rfl) dX7_takePlaced_16 (ls' := [(4, xi (0 : Int32)), (3, xi (3 : Int32)), (0, xr l0), (1, xr l1), (2, xr l2)]) rfl ?_
    refine WP.at 18 rfl ?_
    obtain ⟨f17, H⟩ := H
    refine WP.pick [2, 3, 4, 1, 0] rfl (t_Se_takePlaced_L18 l0 l1 l2 (3 : Int32) _ Q ?_ f17 (0 : Int32) _ H)
    · intro h16 H
      exact wp_vret trivial dX7_takePlaced_58 H
  · replace H := H.2 c2
    refine wp_iconst (2 : Int32) (by decide) dX7_takePlaced_9 ?_
    refine WP.at 10 rfl ?_
    refine wp_goto 14 (by decide) dX7_takePlaced_10 ?_
    refine wp_istore_n 3 rfl (Nat.le_of_ble_eq_true rfl) dX7_takePlaced_14 (ls' := [(3, xi (2 : Int32)), (0, xr l0), (1, xr l1), (2, xr l2)]) rfl ?_
    refine wp_iconst (0 : Int32) (by decide) dX7_takePlaced_15 ?_
    refine wp_istore (Nat.le_of_ble_eq_true rfl) dX7_takePlaced_16 (ls' := [(4, xi (0 : Int32)), (3, xi (2 : Int32)), (0, xr l0), (1, xr l1), (2, xr l2)]) rfl ?_
    refine WP.at 18 rfl ?_
    obtain ⟨f19, H⟩ := H
    refine WP.pick [2, 3, 4, 1, 0] rfl (t_Se_takePlaced_L18 l0 l1 l2 (2 : Int32) _ Q ?_ f19 (0 : Int32) _ H)
    · intro h18 H
      exact wp_vret trivial dX7_takePlaced_58 H
def p_F_isNext_L3 (l0 : xN) (l1 : Int32) (l2 : Int32) (l3 : Int32) (K3_48 : xH → Prop) (Q : Int32 → xH → Prop) : Nat → Int32 → xH → Prop
  | 0, _, _ => False
  | f + 1, l4, h => (kd l0.1 = (1, 2)) ∧ (((hI h l0 2) ≤ l4 → K3_48 h) ∧ (¬ (hI h l0 2) ≤ l4 → ((l4 = l2 → ∀ v4 : Int32, v4 = l4 + (1 : Int32) → (p_F_isNext_L3 l0 l1 l2 l3 K3_48 Q f) v4 h) ∧ (¬ l4 = l2 → ((l4 = l3 → ∀ v7 : Int32, v7 = l4 + (1 : Int32) → (p_F_isNext_L3 l0 l1 l2 l3 K3_48 Q f) v7 h) ∧ (¬ l4 = l3 → (kd (hR h l0 1).1 = (2, 0)) ∧ (vp_in l4 (hS h (hR h l0 1) - 1)) ∧ (vp_in l1 (hS h (hR h l0 1) - 1)) ∧ (((hI h (hR h l0 1) l1.toNatClampNeg) ≤ (hI h (hR h l0 1) l4.toNatClampNeg) → ∀ v13 : Int32, v13 = l4 + (1 : Int32) → (p_F_isNext_L3 l0 l1 l2 l3 K3_48 Q f) v13 h) ∧ (¬ (hI h (hR h l0 1) l1.toNatClampNeg) ≤ (hI h (hR h l0 1) l4.toNatClampNeg) → Q (0 : Int32) h))))))))
set_option maxRecDepth 100000 in
set_option maxHeartbeats 4000000 in
theorem t_F_isNext_L3 (l0 : xN) (l1 : Int32) (l2 : Int32) (l3 : Int32) (K3_48 : xH → Prop) (Q : Int32 → xH → Prop) (hK3_48 : ∀ (h : xH), K3_48 h → WP M_F_isNext 48 [(1, xi l1), (2, xi l2), (3, xi l3)] [] h 0 (qi Q)) : ∀ (f : Nat) (l4 : Int32) (h : xH), p_F_isNext_L3 l0 l1 l2 l3 K3_48 Q f l4 h → WP M_F_isNext 3 [(0, xr l0), (1, xi l1), (2, xi l2), (3, xi l3), (4, xi l4)] [] h 0 (qi Q) := by
  intro f
  induction f with
  | zero => exact fun _ _ H => H.elim
  | succ f hB3 =>
    intro l4 h H
    unfold p_F_isNext_L3 at H
    refine wp_iload rfl dX2_isNext_3 ?_
    refine wp_aload_n 0 rfl rfl dX2_isNext_5 ?_
    obtain ⟨q1, H⟩ := H
    refine wp_geti coX2 2 (Nat.le_of_ble_eq_true rfl) fl_X2_22 rfl q1 dX2_isNext_6 ?_
    refine WP.at 9 rfl ?_
    refine wp_icmp_ge 48 (by decide) dX2_isNext_9 (fun c2 => ?_) (fun c2 => ?_)
    · replace H := H.1 c2
      exact WP.pick [1, 2, 3] rfl (hK3_48 _ H)
    · replace H := H.2 c2
      refine wp_iload rfl dX2_isNext_12 ?_
      refine wp_iload_n 2 rfl rfl dX2_isNext_14 ?_
      refine WP.at 15 rfl ?_
      refine wp_icmp_eq 42 (by decide) dX2_isNext_15 (fun c3 => ?_) (fun c3 => ?_)
      · replace H := H.1 c3
        refine wp_iincN (1 : Int32) (by decide) rfl (Nat.le_of_ble_eq_true rfl) dX2_isNext_42 (ls' := fun v4 => [(4, xi v4), (0, xr l0), (1, xi l1), (2, xi l2), (3, xi l3)]) (fun _ => rfl) (fun v4 e5 => ?_)
        replace H := H v4 e5
        refine WP.at 45 rfl ?_
        refine wp_goto 3 (by decide) dX2_isNext_45 ?_
        exact WP.pick [1, 2, 3, 4, 0] rfl (hB3 v4 _ H)
      · replace H := H.2 c3
        refine wp_iload rfl dX2_isNext_18 ?_
        refine wp_iload_n 3 rfl rfl dX2_isNext_20 ?_
        refine WP.at 21 rfl ?_
        refine wp_icmp_eq 42 (by decide) dX2_isNext_21 (fun c6 => ?_) (fun c6 => ?_)
        · replace H := H.1 c6
          refine wp_iincN (1 : Int32) (by decide) rfl (Nat.le_of_ble_eq_true rfl) dX2_isNext_42 (ls' := fun v7 => [(4, xi v7), (0, xr l0), (1, xi l1), (2, xi l2), (3, xi l3)]) (fun _ => rfl) (fun v7 e8 => ?_)
          replace H := H v7 e8
          refine WP.at 45 rfl ?_
          refine wp_goto 3 (by decide) dX2_isNext_45 ?_
          exact WP.pick [1, 2, 3, 4, 0] rfl (hB3 v7 _ H)
        · replace H := H.2 c6
          refine wp_aload_n 0 rfl rfl dX2_isNext_24 ?_
          refine wp_getr coX2 1 (Nat.le_of_ble_eq_true rfl) fl_X2_15 rfl q1 dX2_isNext_25 ?_
          refine wp_iload rfl dX2_isNext_28 ?_
          obtain ⟨q9, H⟩ := H
          obtain ⟨q10, H⟩ := H
          refine wp_iaload q9 q10 dX2_isNext_30 ?_
          refine wp_aload_n 0 rfl rfl dX2_isNext_31 ?_
          refine wp_getr coX2 1 (Nat.le_of_ble_eq_true rfl) fl_X2_15 rfl q1 dX2_isNext_32 ?_
          refine wp_iload_n 1 rfl rfl dX2_isNext_35 ?_
          refine WP.at 36 rfl ?_
          obtain ⟨q11, H⟩ := H
          refine wp_iaload q9 q11 dX2_isNext_36 ?_
          refine WP.at 37 rfl ?_
          refine wp_icmp_ge 42 (by decide) dX2_isNext_37 (fun c12 => ?_) (fun c12 => ?_)
          · replace H := H.1 c12
            refine wp_iincN (1 : Int32) (by decide) rfl (Nat.le_of_ble_eq_true rfl) dX2_isNext_42 (ls' := fun v13 => [(4, xi v13), (0, xr l0), (1, xi l1), (2, xi l2), (3, xi l3)]) (fun _ => rfl) (fun v13 e14 => ?_)
            replace H := H v13 e14
            refine WP.at 45 rfl ?_
            refine wp_goto 3 (by decide) dX2_isNext_45 ?_
            exact WP.pick [1, 2, 3, 4, 0] rfl (hB3 v13 _ H)
          · replace H := H.2 c12
            refine wp_iconst (0 : Int32) (by decide) dX2_isNext_40 ?_
            exact wp_iret (Or.inl rfl) dX2_isNext_41 H
def p_F_isNext (l0 : xN) (l1 : Int32) (l2 : Int32) (l3 : Int32) (h : xH) (Q : Int32 → xH → Prop) : Prop := (∃ f18, p_F_isNext_L3 l0 l1 l2 l3 (fun (h15 : xH) => ((l1 = l2 → Q (0 : Int32) h15) ∧ (¬ l1 = l2 → ((l1 = l3 → Q (0 : Int32) h15) ∧ (¬ l1 = l3 → Q (1 : Int32) h15))))) Q f18 (0 : Int32) h)
set_option maxRecDepth 100000 in
set_option maxHeartbeats 4000000 in
theorem t_F_isNext (l0 : xN) (l1 : Int32) (l2 : Int32) (l3 : Int32) (h : xH) (Q : Int32 → xH → Prop) (H : p_F_isNext l0 l1 l2 l3 h Q) : WP M_F_isNext 0 [(0, xr l0), (1, xi l1), (2, xi l2), (3, xi l3)] [] h 0 (qi Q) := by
  unfold p_F_isNext at H
  refine wp_iconst (0 : Int32) (by decide) dX2_isNext_0 ?_
  refine wp_istore (Nat.le_of_ble_eq_true rfl) dX2_isNext_1 (ls' := [(4, xi (0 : Int32)), (0, xr l0), (1, xi l1), (2, xi l2), (3, xi l3)]) rfl ?_
  refine WP.at 3 rfl ?_
  obtain ⟨f18, H⟩ := H
  refine WP.pick [1, 2, 3, 4, 0] rfl (t_F_isNext_L3 l0 l1 l2 l3 _ Q ?_ f18 (0 : Int32) _ H)
  · intro h15 H
    refine wp_iload_n 1 rfl rfl dX2_isNext_48 ?_
    refine wp_iload_n 2 rfl rfl dX2_isNext_49 ?_
    refine WP.at 50 rfl ?_
    refine wp_icmp_eq 62 (by decide) dX2_isNext_50 (fun c16 => ?_) (fun c16 => ?_)
    · replace H := H.1 c16
      refine wp_iconst (0 : Int32) (by decide) dX2_isNext_62 ?_
      exact wp_iret (Or.inl rfl) dX2_isNext_63 H
    · replace H := H.2 c16
      refine wp_iload_n 1 rfl rfl dX2_isNext_53 ?_
      refine wp_iload_n 3 rfl rfl dX2_isNext_54 ?_
      refine WP.at 55 rfl ?_
      refine wp_icmp_eq 62 (by decide) dX2_isNext_55 (fun c17 => ?_) (fun c17 => ?_)
      · replace H := H.1 c17
        refine wp_iconst (0 : Int32) (by decide) dX2_isNext_62 ?_
        exact wp_iret (Or.inl rfl) dX2_isNext_63 H
      · replace H := H.2 c17
        refine wp_iconst (1 : Int32) (by decide) dX2_isNext_58 ?_
        refine WP.at 59 rfl ?_
        refine wp_goto 63 (by decide) dX2_isNext_59 ?_
        exact wp_iret (Or.inr rfl) dX2_isNext_63 H
def p_Se_takeDoubles_L15 (l0 : xN) (l1 : xN) (l2 : xN) (l3 : xN) (l4 : Int32) (K15_72 : xH → Prop) (Q : xH → Prop) : Nat → Int32 → xH → Prop
  | 0, _, _ => False
  | f + 1, l5, h => (kd l3.1 = (1, 2)) ∧ (((hI h l3 2) ≤ l5 → K15_72 h) ∧ (¬ (hI h l3 2) ≤ l5 → (kd l2.1 = (1, 2)) ∧ p_F_isNext l2 l4 (-1 : Int32) (-1 : Int32) h (fun (v7 : Int32) (h6 : xH) => ((v7 = 0 → ∀ v9 : Int32, v9 = l5 + (1 : Int32) → (p_Se_takeDoubles_L15 l0 l1 l2 l3 l4 K15_72 Q f) v9 h6) ∧ (¬ v7 = 0 → p_F_isNext l3 l5 (-1 : Int32) (-1 : Int32) h6 (fun (v12 : Int32) (h11 : xH) => ((v12 = 0 → ∀ v14 : Int32, v14 = l5 + (1 : Int32) → (p_Se_takeDoubles_L15 l0 l1 l2 l3 l4 K15_72 Q f) v14 h11) ∧ (¬ v12 = 0 → (kd (hR h11 l2 0).1 = (2, 0)) ∧ (vp_in l4 (hS h11 (hR h11 l2 0) - 1)) ∧ (kd (hR h11 l3 0).1 = (2, 0)) ∧ (vp_in l5 (hS h11 (hR h11 l3 0) - 1)) ∧ (kd l0.1 = (1, 6)) ∧ p_Se_take l0 l1 (hI h11 (hR h11 l2 0) l4.toNatClampNeg) (hI h11 (hR h11 l3 0) l5.toNatClampNeg) (0 : Int32) h11 (fun h21 : xH => ∀ v22 : Int32, v22 = l5 + (1 : Int32) → (p_Se_takeDoubles_L15 l0 l1 l2 l3 l4 K15_72 Q f) v22 h21)))))))))
set_option maxRecDepth 100000 in
set_option maxHeartbeats 4000000 in
theorem t_Se_takeDoubles_L15 (l0 : xN) (l1 : xN) (l2 : xN) (l3 : xN) (l4 : Int32) (K15_72 : xH → Prop) (Q : xH → Prop) (hK15_72 : ∀ (h : xH), K15_72 h → WP M_Se_takeDoubles 72 [(0, xr l0), (1, xr l1), (2, xr l2), (3, xr l3), (4, xi l4)] [] h 0 (qv Q)) : ∀ (f : Nat) (l5 : Int32) (h : xH), p_Se_takeDoubles_L15 l0 l1 l2 l3 l4 K15_72 Q f l5 h → WP M_Se_takeDoubles 15 [(0, xr l0), (1, xr l1), (2, xr l2), (3, xr l3), (4, xi l4), (5, xi l5)] [] h 0 (qv Q) := by
  intro f
  induction f with
  | zero => exact fun _ _ H => H.elim
  | succ f hB15 =>
    intro l5 h H
    unfold p_Se_takeDoubles_L15 at H
    refine wp_iload rfl dX7_takeDoubles_15 ?_
    refine wp_aload_n 3 rfl rfl dX7_takeDoubles_17 ?_
    obtain ⟨q3, H⟩ := H
    refine wp_geti coX2 2 (Nat.le_of_ble_eq_true rfl) fl_X7_87 rfl q3 dX7_takeDoubles_18 ?_
    refine WP.at 21 rfl ?_
    refine wp_icmp_ge 72 (by decide) dX7_takeDoubles_21 (fun c4 => ?_) (fun c4 => ?_)
    · replace H := H.1 c4
      exact WP.pick [0, 1, 2, 3, 4] rfl (hK15_72 _ H)
    · replace H := H.2 c4
      refine wp_aload_n 2 rfl rfl dX7_takeDoubles_24 ?_
      refine wp_iload rfl dX7_takeDoubles_25 ?_
      refine wp_iconst (-1 : Int32) (by decide) dX7_takeDoubles_27 ?_
      refine wp_iconst (-1 : Int32) (by decide) dX7_takeDoubles_28 ?_
      refine WP.at 29 rfl ?_
      obtain ⟨q5, H⟩ := H
      refine wp_cVi (M2 := M_F_isNext) coX2 l2 q5 [xi l4, xi (-1 : Int32), xi (-1 : Int32)] rfl lv_X7_90 mo_F_isNext (Nat.le_of_ble_eq_true rfl) ⟨(Nat.le_of_ble_eq_true rfl), (Nat.le_of_ble_eq_true rfl)⟩ (Nat.le_of_ble_eq_true rfl) (Nat.le_of_ble_eq_true rfl) dX7_takeDoubles_29 (t_F_isNext l2 l4 (-1 : Int32) (-1 : Int32) _ _ H) (fun v7 h6 H => ?_)
      refine WP.at 32 rfl ?_
      refine wp_if_eq 66 (by decide) dX7_takeDoubles_32 (fun c8 => ?_) (fun c8 => ?_)
      · replace H := H.1 c8
        refine wp_iincN (1 : Int32) (by decide) rfl (Nat.le_of_ble_eq_true rfl) dX7_takeDoubles_66 (ls' := fun v9 => [(5, xi v9), (0, xr l0), (1, xr l1), (2, xr l2), (3, xr l3), (4, xi l4)]) (fun _ => rfl) (fun v9 e10 => ?_)
        replace H := H v9 e10
        refine WP.at 69 rfl ?_
        refine wp_goto 15 (by decide) dX7_takeDoubles_69 ?_
        exact WP.pick [1, 2, 3, 4, 5, 0] rfl (hB15 v9 _ H)
      · replace H := H.2 c8
        refine wp_aload_n 3 rfl rfl dX7_takeDoubles_35 ?_
        refine wp_iload rfl dX7_takeDoubles_36 ?_
        refine wp_iconst (-1 : Int32) (by decide) dX7_takeDoubles_38 ?_
        refine wp_iconst (-1 : Int32) (by decide) dX7_takeDoubles_39 ?_
        refine WP.at 40 rfl ?_
        refine wp_cVi (M2 := M_F_isNext) coX2 l3 q3 [xi l5, xi (-1 : Int32), xi (-1 : Int32)] rfl lv_X7_90 mo_F_isNext (Nat.le_of_ble_eq_true rfl) ⟨(Nat.le_of_ble_eq_true rfl), (Nat.le_of_ble_eq_true rfl)⟩ (Nat.le_of_ble_eq_true rfl) (Nat.le_of_ble_eq_true rfl) dX7_takeDoubles_40 (t_F_isNext l3 l5 (-1 : Int32) (-1 : Int32) _ _ H) (fun v12 h11 H => ?_)
        refine WP.at 43 rfl ?_
        refine wp_if_eq 66 (by decide) dX7_takeDoubles_43 (fun c13 => ?_) (fun c13 => ?_)
        · replace H := H.1 c13
          refine wp_iincN (1 : Int32) (by decide) rfl (Nat.le_of_ble_eq_true rfl) dX7_takeDoubles_66 (ls' := fun v14 => [(5, xi v14), (0, xr l0), (1, xr l1), (2, xr l2), (3, xr l3), (4, xi l4)]) (fun _ => rfl) (fun v14 e15 => ?_)
          replace H := H v14 e15
          refine WP.at 69 rfl ?_
          refine wp_goto 15 (by decide) dX7_takeDoubles_69 ?_
          exact WP.pick [1, 2, 3, 4, 5, 0] rfl (hB15 v14 _ H)
        · replace H := H.2 c13
          refine wp_aload_n 0 rfl rfl dX7_takeDoubles_46 ?_
          refine wp_aload_n 1 rfl rfl dX7_takeDoubles_47 ?_
          refine wp_aload_n 2 rfl rfl dX7_takeDoubles_48 ?_
          refine wp_getr coX2 0 (Nat.le_of_ble_eq_true rfl) fl_X7_94 rfl q5 dX7_takeDoubles_49 ?_
          refine wp_iload rfl dX7_takeDoubles_52 ?_
          obtain ⟨q16, H⟩ := H
          obtain ⟨q17, H⟩ := H
          refine wp_iaload q16 q17 dX7_takeDoubles_54 ?_
          refine wp_aload_n 3 rfl rfl dX7_takeDoubles_55 ?_
          refine WP.at 56 rfl ?_
          refine wp_getr coX2 0 (Nat.le_of_ble_eq_true rfl) fl_X7_94 rfl q3 dX7_takeDoubles_56 ?_
          refine wp_iload rfl dX7_takeDoubles_59 ?_
          obtain ⟨q18, H⟩ := H
          obtain ⟨q19, H⟩ := H
          refine wp_iaload q18 q19 dX7_takeDoubles_61 ?_
          refine wp_iconst (0 : Int32) (by decide) dX7_takeDoubles_62 ?_
          refine WP.at 63 rfl ?_
          obtain ⟨q20, H⟩ := H
          refine wp_cVv (M2 := M_Se_take) coX7 l0 q20 [xr l1, xi (hI h11 (hR h11 l2 0) l4.toNatClampNeg), xi (hI h11 (hR h11 l3 0) l5.toNatClampNeg), xi (0 : Int32)] rfl lv_X7_97 mo_Se_take (Nat.le_of_ble_eq_true rfl) ⟨(Nat.le_of_ble_eq_true rfl), (Nat.le_of_ble_eq_true rfl)⟩ (Nat.le_of_ble_eq_true rfl) (Nat.le_of_ble_eq_true rfl) dX7_takeDoubles_63 (t_Se_take l0 l1 (hI h11 (hR h11 l2 0) l4.toNatClampNeg) (hI h11 (hR h11 l3 0) l5.toNatClampNeg) (0 : Int32) _ _ H) (fun h21 H => ?_)
          refine wp_iincN (1 : Int32) (by decide) rfl (Nat.le_of_ble_eq_true rfl) dX7_takeDoubles_66 (ls' := fun v22 => [(5, xi v22), (0, xr l0), (1, xr l1), (2, xr l2), (3, xr l3), (4, xi l4)]) (fun _ => rfl) (fun v22 e23 => ?_)
          replace H := H v22 e23
          refine WP.at 69 rfl ?_
          refine wp_goto 15 (by decide) dX7_takeDoubles_69 ?_
          exact WP.pick [1, 2, 3, 4, 5, 0] rfl (hB15 v22 _ H)
def p_Se_takeDoubles_L3 (l0 : xN) (l1 : xN) (l2 : xN) (l3 : xN) (K3_78 : xH → Prop) (Q : xH → Prop) : Nat → Int32 → xH → Prop
  | 0, _, _ => False
  | f + 1, l4, h => (kd l2.1 = (1, 2)) ∧ (((hI h l2 2) ≤ l4 → K3_78 h) ∧ (¬ (hI h l2 2) ≤ l4 → (∃ f27, p_Se_takeDoubles_L15 l0 l1 l2 l3 l4 (fun (h24 : xH) => ∀ v25 : Int32, v25 = l4 + (1 : Int32) → (p_Se_takeDoubles_L3 l0 l1 l2 l3 K3_78 Q f) v25 h24) Q f27 (0 : Int32) h)))
set_option maxRecDepth 100000 in
set_option maxHeartbeats 4000000 in
theorem t_Se_takeDoubles_L3 (l0 : xN) (l1 : xN) (l2 : xN) (l3 : xN) (K3_78 : xH → Prop) (Q : xH → Prop) (hK3_78 : ∀ (h : xH), K3_78 h → WP M_Se_takeDoubles 78 [] [] h 0 (qv Q)) : ∀ (f : Nat) (l4 : Int32) (h : xH), p_Se_takeDoubles_L3 l0 l1 l2 l3 K3_78 Q f l4 h → WP M_Se_takeDoubles 3 [(0, xr l0), (1, xr l1), (2, xr l2), (3, xr l3), (4, xi l4)] [] h 0 (qv Q) := by
  intro f
  induction f with
  | zero => exact fun _ _ H => H.elim
  | succ f hB3 =>
    intro l4 h H
    unfold p_Se_takeDoubles_L3 at H
    refine wp_iload rfl dX7_takeDoubles_3 ?_
    refine wp_aload_n 2 rfl rfl dX7_takeDoubles_5 ?_
    obtain ⟨q1, H⟩ := H
    refine wp_geti coX2 2 (Nat.le_of_ble_eq_true rfl) fl_X7_87 rfl q1 dX7_takeDoubles_6 ?_
    refine WP.at 9 rfl ?_
    refine wp_icmp_ge 78 (by decide) dX7_takeDoubles_9 (fun c2 => ?_) (fun c2 => ?_)
    · replace H := H.1 c2
      exact WP.pick [] rfl (hK3_78 _ H)
    · replace H := H.2 c2
      refine wp_iconst (0 : Int32) (by decide) dX7_takeDoubles_12 ?_
      refine wp_istore (Nat.le_of_ble_eq_true rfl) dX7_takeDoubles_13 (ls' := [(5, xi (0 : Int32)), (0, xr l0), (1, xr l1), (2, xr l2), (3, xr l3), (4, xi l4)]) rfl ?_
      refine WP.at 15 rfl ?_
      obtain ⟨f27, H⟩ := H
      refine WP.pick [1, 2, 3, 4, 5, 0] rfl (t_Se_takeDoubles_L15 l0 l1 l2 l3 l4 _ Q ?_ f27 (0 : Int32) _ H)
      · intro h24 H
        refine wp_iincN (1 : Int32) (by decide) rfl (Nat.le_of_ble_eq_true rfl) dX7_takeDoubles_72 (ls' := fun v25 => [(4, xi v25), (0, xr l0), (1, xr l1), (2, xr l2), (3, xr l3)]) (fun _ => rfl) (fun v25 e26 => ?_)
        replace H := H v25 e26
        refine WP.at 75 rfl ?_
        refine wp_goto 3 (by decide) dX7_takeDoubles_75 ?_
        exact WP.pick [1, 2, 3, 4, 0] rfl (hB3 v25 _ H)
def p_Se_takeDoubles (l0 : xN) (l1 : xN) (l2 : xN) (l3 : xN) (h : xH) (Q : xH → Prop) : Prop := (∃ f29, p_Se_takeDoubles_L3 l0 l1 l2 l3 (fun (h28 : xH) => Q h28) Q f29 (0 : Int32) h)
set_option maxRecDepth 100000 in
set_option maxHeartbeats 4000000 in
theorem t_Se_takeDoubles (l0 : xN) (l1 : xN) (l2 : xN) (l3 : xN) (h : xH) (Q : xH → Prop) (H : p_Se_takeDoubles l0 l1 l2 l3 h Q) : WP M_Se_takeDoubles 0 [(0, xr l0), (1, xr l1), (2, xr l2), (3, xr l3)] [] h 0 (qv Q) := by
  unfold p_Se_takeDoubles at H
  refine wp_iconst (0 : Int32) (by decide) dX7_takeDoubles_0 ?_
  refine wp_istore (Nat.le_of_ble_eq_true rfl) dX7_takeDoubles_1 (ls' := [(4, xi (0 : Int32)), (0, xr l0), (1, xr l1), (2, xr l2), (3, xr l3)]) rfl ?_
  refine WP.at 3 rfl ?_
  obtain ⟨f29, H⟩ := H
  refine WP.pick [1, 2, 3, 4, 0] rfl (t_Se_takeDoubles_L3 l0 l1 l2 l3 _ Q ?_ f29 (0 : Int32) _ H)
  · intro h28 H
    exact wp_vret trivial dX7_takeDoubles_78 H
def p_Se_takeRows_L105 (l0 : xN) (l1 : xN) (l2 : xN) (l3 : Int32) (l4 : Int32) (K105_157 : xH → Prop) (Q : xH → Prop) : Nat → Int32 → xH → Prop
  | 0, _, _ => False
  | f + 1, l5, h => (kd l2.1 = (1, 2)) ∧ (((hI h l2 2) ≤ l5 → K105_157 h) ∧ (¬ (hI h l2 2) ≤ l5 → p_F_isNext l2 l5 l3 l4 h (fun (v18 : Int32) (h17 : xH) => ((v18 = 0 → ∀ v20 : Int32, v20 = l5 + (1 : Int32) → (p_Se_takeRows_L105 l0 l1 l2 l3 l4 K105_157 Q f) v20 h17) ∧ (¬ v18 = 0 → (kd (hR h17 l2 0).1 = (2, 0)) ∧ (vp_in l3 (hS h17 (hR h17 l2 0) - 1)) ∧ (vp_in l4 (hS h17 (hR h17 l2 0) - 1)) ∧ (vp_in l5 (hS h17 (hR h17 l2 0) - 1)) ∧ (kd l0.1 = (1, 6)) ∧ p_Se_take l0 l1 (hI h17 (hR h17 l2 0) l3.toNatClampNeg) (hI h17 (hR h17 l2 0) l4.toNatClampNeg) (hI h17 (hR h17 l2 0) l5.toNatClampNeg) h17 (fun h27 : xH => ∀ v28 : Int32, v28 = l5 + (1 : Int32) → (p_Se_takeRows_L105 l0 l1 l2 l3 l4 K105_157 Q f) v28 h27))))))
set_option maxRecDepth 100000 in
set_option maxHeartbeats 4000000 in
theorem t_Se_takeRows_L105 (l0 : xN) (l1 : xN) (l2 : xN) (l3 : Int32) (l4 : Int32) (K105_157 : xH → Prop) (Q : xH → Prop) (hK105_157 : ∀ (h : xH), K105_157 h → WP M_Se_takeRows 157 [(0, xr l0), (1, xr l1), (2, xr l2), (3, xi l3), (4, xi l4)] [] h 0 (qv Q)) : ∀ (f : Nat) (l5 : Int32) (h : xH), p_Se_takeRows_L105 l0 l1 l2 l3 l4 K105_157 Q f l5 h → WP M_Se_takeRows 105 [(0, xr l0), (1, xr l1), (2, xr l2), (3, xi l3), (4, xi l4), (5, xi l5)] [] h 0 (qv Q) := by
  intro f
  induction f with
  | zero => exact fun _ _ H => H.elim
  | succ f hB105 =>
    intro l5 h H
    unfold p_Se_takeRows_L105 at H
    refine wp_iload rfl dX7_takeRows_105 ?_
    refine wp_aload_n 2 rfl rfl dX7_takeRows_107 ?_
    obtain ⟨q15, H⟩ := H
    refine wp_geti coX2 2 (Nat.le_of_ble_eq_true rfl) fl_X7_87 rfl q15 dX7_takeRows_108 ?_
    refine WP.at 111 rfl ?_
    refine wp_icmp_ge 157 (by decide) dX7_takeRows_111 (fun c16 => ?_) (fun c16 => ?_)
    · replace H := H.1 c16
      exact WP.pick [0, 1, 2, 3, 4] rfl (hK105_157 _ H)
    · replace H := H.2 c16
      refine wp_aload_n 2 rfl rfl dX7_takeRows_114 ?_
      refine wp_iload rfl dX7_takeRows_115 ?_
      refine wp_iload_n 3 rfl rfl dX7_takeRows_117 ?_
      refine wp_iload rfl dX7_takeRows_118 ?_
      refine WP.at 120 rfl ?_
      refine wp_cVi (M2 := M_F_isNext) coX2 l2 q15 [xi l5, xi l3, xi l4] rfl lv_X7_90 mo_F_isNext (Nat.le_of_ble_eq_true rfl) ⟨(Nat.le_of_ble_eq_true rfl), (Nat.le_of_ble_eq_true rfl)⟩ (Nat.le_of_ble_eq_true rfl) (Nat.le_of_ble_eq_true rfl) dX7_takeRows_120 (t_F_isNext l2 l5 l3 l4 _ _ H) (fun v18 h17 H => ?_)
      refine WP.at 123 rfl ?_
      refine wp_if_eq 151 (by decide) dX7_takeRows_123 (fun c19 => ?_) (fun c19 => ?_)
      · replace H := H.1 c19
        refine wp_iincN (1 : Int32) (by decide) rfl (Nat.le_of_ble_eq_true rfl) dX7_takeRows_151 (ls' := fun v20 => [(5, xi v20), (0, xr l0), (1, xr l1), (2, xr l2), (3, xi l3), (4, xi l4)]) (fun _ => rfl) (fun v20 e21 => ?_)
        replace H := H v20 e21
        refine WP.at 154 rfl ?_
        refine wp_goto 105 (by decide) dX7_takeRows_154 ?_
        exact WP.pick [1, 2, 3, 4, 5, 0] rfl (hB105 v20 _ H)
      · replace H := H.2 c19
        refine wp_aload_n 0 rfl rfl dX7_takeRows_126 ?_
        refine wp_aload_n 1 rfl rfl dX7_takeRows_127 ?_
        refine wp_aload_n 2 rfl rfl dX7_takeRows_128 ?_
        refine wp_getr coX2 0 (Nat.le_of_ble_eq_true rfl) fl_X7_94 rfl q15 dX7_takeRows_129 ?_
        refine wp_iload_n 3 rfl rfl dX7_takeRows_132 ?_
        obtain ⟨q22, H⟩ := H
        obtain ⟨q23, H⟩ := H
        refine wp_iaload q22 q23 dX7_takeRows_133 ?_
        refine wp_aload_n 2 rfl rfl dX7_takeRows_134 ?_
        refine WP.at 135 rfl ?_
        refine wp_getr coX2 0 (Nat.le_of_ble_eq_true rfl) fl_X7_94 rfl q15 dX7_takeRows_135 ?_
        refine wp_iload rfl dX7_takeRows_138 ?_
        obtain ⟨q24, H⟩ := H
        refine wp_iaload q22 q24 dX7_takeRows_140 ?_
        refine wp_aload_n 2 rfl rfl dX7_takeRows_141 ?_
        refine wp_getr coX2 0 (Nat.le_of_ble_eq_true rfl) fl_X7_94 rfl q15 dX7_takeRows_142 ?_
        refine wp_iload rfl dX7_takeRows_145 ?_
        obtain ⟨q25, H⟩ := H
        refine wp_iaload q22 q25 dX7_takeRows_147 ?_
        refine WP.at 148 rfl ?_
        obtain ⟨q26, H⟩ := H
        refine wp_cVv (M2 := M_Se_take) coX7 l0 q26 [xr l1, xi (hI h17 (hR h17 l2 0) l3.toNatClampNeg), xi (hI h17 (hR h17 l2 0) l4.toNatClampNeg), xi (hI h17 (hR h17 l2 0) l5.toNatClampNeg)] rfl lv_X7_97 mo_Se_take (Nat.le_of_ble_eq_true rfl) ⟨(Nat.le_of_ble_eq_true rfl), (Nat.le_of_ble_eq_true rfl)⟩ (Nat.le_of_ble_eq_true rfl) (Nat.le_of_ble_eq_true rfl) dX7_takeRows_148 (t_Se_take l0 l1 (hI h17 (hR h17 l2 0) l3.toNatClampNeg) (hI h17 (hR h17 l2 0) l4.toNatClampNeg) (hI h17 (hR h17 l2 0) l5.toNatClampNeg) _ _ H) (fun h27 H => ?_)
        refine WP.at 151 rfl ?_
        refine wp_iincN (1 : Int32) (by decide) rfl (Nat.le_of_ble_eq_true rfl) dX7_takeRows_151 (ls' := fun v28 => [(5, xi v28), (0, xr l0), (1, xr l1), (2, xr l2), (3, xi l3), (4, xi l4)]) (fun _ => rfl) (fun v28 e29 => ?_)
        replace H := H v28 e29
        refine WP.at 154 rfl ?_
        refine wp_goto 105 (by decide) dX7_takeRows_154 ?_
        exact WP.pick [1, 2, 3, 4, 5, 0] rfl (hB105 v28 _ H)
def p_Se_takeRows_L49 (l0 : xN) (l1 : xN) (l2 : xN) (l3 : Int32) (K49_163 : xH → Prop) (Q : xH → Prop) : Nat → Int32 → xH → Prop
  | 0, _, _ => False
  | f + 1, l4, h => (kd l2.1 = (1, 2)) ∧ (((hI h l2 2) ≤ l4 → K49_163 h) ∧ (¬ (hI h l2 2) ≤ l4 → p_F_isNext l2 l4 l3 (-1 : Int32) h (fun (v11 : Int32) (h10 : xH) => ((¬ v11 = 0 → (kd l1.1 = (1, 3)) ∧ ((¬ (hI h10 l1 1) = (2 : Int32) → (∃ f33, p_Se_takeRows_L105 l0 l1 l2 l3 l4 (fun (h30 : xH) => ∀ v31 : Int32, v31 = l4 + (1 : Int32) → (p_Se_takeRows_L49 l0 l1 l2 l3 K49_163 Q f) v31 h30) Q f33 (0 : Int32) h10)) ∧ ((hI h10 l1 1) = (2 : Int32) → (kd (hR h10 l2 0).1 = (2, 0)) ∧ (vp_in l3 (hS h10 (hR h10 l2 0) - 1)) ∧ (vp_in l4 (hS h10 (hR h10 l2 0) - 1)) ∧ (kd l0.1 = (1, 6)) ∧ p_Se_take l0 l1 (hI h10 (hR h10 l2 0) l3.toNatClampNeg) (hI h10 (hR h10 l2 0) l4.toNatClampNeg) (0 : Int32) h10 (fun h38 : xH => ∀ v39 : Int32, v39 = l4 + (1 : Int32) → (p_Se_takeRows_L49 l0 l1 l2 l3 K49_163 Q f) v39 h38)))) ∧ (v11 = 0 → ∀ v41 : Int32, v41 = l4 + (1 : Int32) → (p_Se_takeRows_L49 l0 l1 l2 l3 K49_163 Q f) v41 h10)))))
set_option maxRecDepth 100000 in
set_option maxHeartbeats 4000000 in
theorem t_Se_takeRows_L49 (l0 : xN) (l1 : xN) (l2 : xN) (l3 : Int32) (K49_163 : xH → Prop) (Q : xH → Prop) (hK49_163 : ∀ (h : xH), K49_163 h → WP M_Se_takeRows 163 [(0, xr l0), (1, xr l1), (2, xr l2), (3, xi l3)] [] h 0 (qv Q)) : ∀ (f : Nat) (l4 : Int32) (h : xH), p_Se_takeRows_L49 l0 l1 l2 l3 K49_163 Q f l4 h → WP M_Se_takeRows 49 [(0, xr l0), (1, xr l1), (2, xr l2), (3, xi l3), (4, xi l4)] [] h 0 (qv Q) := by
  intro f
  induction f with
  | zero => exact fun _ _ H => H.elim
  | succ f hB49 =>
    intro l4 h H
    unfold p_Se_takeRows_L49 at H
    refine wp_iload rfl dX7_takeRows_49 ?_
    refine wp_aload_n 2 rfl rfl dX7_takeRows_51 ?_
    obtain ⟨q8, H⟩ := H
    refine wp_geti coX2 2 (Nat.le_of_ble_eq_true rfl) fl_X7_87 rfl q8 dX7_takeRows_52 ?_
    refine WP.at 55 rfl ?_
    refine wp_icmp_ge 163 (by decide) dX7_takeRows_55 (fun c9 => ?_) (fun c9 => ?_)
    · replace H := H.1 c9
      exact WP.pick [0, 1, 2, 3] rfl (hK49_163 _ H)
    · replace H := H.2 c9
      refine wp_aload_n 2 rfl rfl dX7_takeRows_58 ?_
      refine wp_iload rfl dX7_takeRows_59 ?_
      refine wp_iload_n 3 rfl rfl dX7_takeRows_61 ?_
      refine wp_iconst (-1 : Int32) (by decide) dX7_takeRows_62 ?_
      refine WP.at 63 rfl ?_
      refine wp_cVi (M2 := M_F_isNext) coX2 l2 q8 [xi l4, xi l3, xi (-1 : Int32)] rfl lv_X7_90 mo_F_isNext (Nat.le_of_ble_eq_true rfl) ⟨(Nat.le_of_ble_eq_true rfl), (Nat.le_of_ble_eq_true rfl)⟩ (Nat.le_of_ble_eq_true rfl) (Nat.le_of_ble_eq_true rfl) dX7_takeRows_63 (t_F_isNext l2 l4 l3 (-1 : Int32) _ _ H) (fun v11 h10 H => ?_)
      refine WP.at 66 rfl ?_
      refine wp_if_ne 72 (by decide) dX7_takeRows_66 (fun c12 => ?_) (fun c12 => ?_)
      · replace H := H.1 c12
        refine wp_aload_n 1 rfl rfl dX7_takeRows_72 ?_
        obtain ⟨q13, H⟩ := H
        refine wp_geti coX4 1 (Nat.le_of_ble_eq_true rfl) fl_X7_52 rfl q13 dX7_takeRows_73 ?_
        refine wp_iconst (2 : Int32) (by decide) dX7_takeRows_76 ?_
        refine WP.at 77 rfl ?_
        refine wp_icmp_ne 102 (by decide) dX7_takeRows_77 (fun c14 => ?_) (fun c14 => ?_)
        · replace H := H.1 c14
          refine wp_iconst (0 : Int32) (by decide) dX7_takeRows_102 ?_
          refine wp_istore (Nat.le_of_ble_eq_true rfl) dX7_takeRows_103 (ls' := [(5, xi (0 : Int32)), (0, xr l0), (1, xr l1), (2, xr l2), (3, xi l3), (4, xi l4)]) rfl ?_
          refine WP.at 105 rfl ?_
          obtain ⟨f33, H⟩ := H
          refine WP.pick [1, 2, 3, 4, 5, 0] rfl (t_Se_takeRows_L105 l0 l1 l2 l3 l4 _ Q ?_ f33 (0 : Int32) _ H)
          · intro h30 H
            refine wp_iincN (1 : Int32) (by decide) rfl (Nat.le_of_ble_eq_true rfl) dX7_takeRows_157 (ls' := fun v31 => [(4, xi v31), (0, xr l0), (1, xr l1), (2, xr l2), (3, xi l3)]) (fun _ => rfl) (fun v31 e32 => ?_)
            replace H := H v31 e32
            refine WP.at 160 rfl ?_
            refine wp_goto 49 (by decide) dX7_takeRows_160 ?_
            exact WP.pick [1, 2, 3, 4, 0] rfl (hB49 v31 _ H)
        · replace H := H.2 c14
          refine wp_aload_n 0 rfl rfl dX7_takeRows_80 ?_
          refine wp_aload_n 1 rfl rfl dX7_takeRows_81 ?_
          refine wp_aload_n 2 rfl rfl dX7_takeRows_82 ?_
          refine wp_getr coX2 0 (Nat.le_of_ble_eq_true rfl) fl_X7_94 rfl q8 dX7_takeRows_83 ?_
          refine wp_iload_n 3 rfl rfl dX7_takeRows_86 ?_
          obtain ⟨q34, H⟩ := H
          obtain ⟨q35, H⟩ := H
          refine wp_iaload q34 q35 dX7_takeRows_87 ?_
          refine wp_aload_n 2 rfl rfl dX7_takeRows_88 ?_
          refine WP.at 89 rfl ?_
          refine wp_getr coX2 0 (Nat.le_of_ble_eq_true rfl) fl_X7_94 rfl q8 dX7_takeRows_89 ?_
          refine wp_iload rfl dX7_takeRows_92 ?_
          obtain ⟨q36, H⟩ := H
          refine wp_iaload q34 q36 dX7_takeRows_94 ?_
          refine wp_iconst (0 : Int32) (by decide) dX7_takeRows_95 ?_
          refine WP.at 96 rfl ?_
          obtain ⟨q37, H⟩ := H
          refine wp_cVv (M2 := M_Se_take) coX7 l0 q37 [xr l1, xi (hI h10 (hR h10 l2 0) l3.toNatClampNeg), xi (hI h10 (hR h10 l2 0) l4.toNatClampNeg), xi (0 : Int32)] rfl lv_X7_97 mo_Se_take (Nat.le_of_ble_eq_true rfl) ⟨(Nat.le_of_ble_eq_true rfl), (Nat.le_of_ble_eq_true rfl)⟩ (Nat.le_of_ble_eq_true rfl) (Nat.le_of_ble_eq_true rfl) dX7_takeRows_96 (t_Se_take l0 l1 (hI h10 (hR h10 l2 0) l3.toNatClampNeg) (hI h10 (hR h10 l2 0) l4.toNatClampNeg) (0 : Int32) _ _ H) (fun h38 H => ?_)
          refine WP.at 99 rfl ?_
          refine wp_goto 157 (by decide) dX7_takeRows_99 ?_
          refine wp_iincN (1 : Int32) (by decide) rfl (Nat.le_of_ble_eq_true rfl) dX7_takeRows_157 (ls' := fun v39 => [(4, xi v39), (0, xr l0), (1, xr l1), (2, xr l2), (3, xi l3)]) (fun _ => rfl) (fun v39 e40 => ?_)
          replace H := H v39 e40
          refine WP.at 160 rfl ?_
          refine wp_goto 49 (by decide) dX7_takeRows_160 ?_
          exact WP.pick [1, 2, 3, 4, 0] rfl (hB49 v39 _ H)
      · replace H := H.2 c12
        refine WP.at 69 rfl ?_
        refine wp_goto 157 (by decide) dX7_takeRows_69 ?_
        refine wp_iincN (1 : Int32) (by decide) rfl (Nat.le_of_ble_eq_true rfl) dX7_takeRows_157 (ls' := fun v41 => [(4, xi v41), (0, xr l0), (1, xr l1), (2, xr l2), (3, xi l3)]) (fun _ => rfl) (fun v41 e42 => ?_)
        replace H := H v41 e42
        refine WP.at 160 rfl ?_
        refine wp_goto 49 (by decide) dX7_takeRows_160 ?_
        exact WP.pick [1, 2, 3, 4, 0] rfl (hB49 v41 _ H)
def p_Se_takeRows_L2 (l0 : xN) (l1 : xN) (l2 : xN) (K2_169 : xH → Prop) (Q : xH → Prop) : Nat → Int32 → xH → Prop
  | 0, _, _ => False
  | f + 1, l3, h => (kd l2.1 = (1, 2)) ∧ (((hI h l2 2) ≤ l3 → K2_169 h) ∧ (¬ (hI h l2 2) ≤ l3 → p_F_isNext l2 l3 (-1 : Int32) (-1 : Int32) h (fun (v4 : Int32) (h3 : xH) => ((¬ v4 = 0 → (kd l1.1 = (1, 3)) ∧ ((¬ (hI h3 l1 1) = 0 → (∃ f46, p_Se_takeRows_L49 l0 l1 l2 l3 (fun (h43 : xH) => ∀ v44 : Int32, v44 = l3 + (1 : Int32) → (p_Se_takeRows_L2 l0 l1 l2 K2_169 Q f) v44 h43) Q f46 (0 : Int32) h3)) ∧ ((hI h3 l1 1) = 0 → (kd (hR h3 l2 0).1 = (2, 0)) ∧ (vp_in l3 (hS h3 (hR h3 l2 0) - 1)) ∧ (kd l0.1 = (1, 6)) ∧ p_Se_take l0 l1 (hI h3 (hR h3 l2 0) l3.toNatClampNeg) (0 : Int32) (0 : Int32) h3 (fun h50 : xH => ∀ v51 : Int32, v51 = l3 + (1 : Int32) → (p_Se_takeRows_L2 l0 l1 l2 K2_169 Q f) v51 h50)))) ∧ (v4 = 0 → ∀ v53 : Int32, v53 = l3 + (1 : Int32) → (p_Se_takeRows_L2 l0 l1 l2 K2_169 Q f) v53 h3)))))
set_option maxRecDepth 100000 in
set_option maxHeartbeats 4000000 in
theorem t_Se_takeRows_L2 (l0 : xN) (l1 : xN) (l2 : xN) (K2_169 : xH → Prop) (Q : xH → Prop) (hK2_169 : ∀ (h : xH), K2_169 h → WP M_Se_takeRows 169 [] [] h 0 (qv Q)) : ∀ (f : Nat) (l3 : Int32) (h : xH), p_Se_takeRows_L2 l0 l1 l2 K2_169 Q f l3 h → WP M_Se_takeRows 2 [(0, xr l0), (1, xr l1), (2, xr l2), (3, xi l3)] [] h 0 (qv Q) := by
  intro f
  induction f with
  | zero => exact fun _ _ H => H.elim
  | succ f hB2 =>
    intro l3 h H
    unfold p_Se_takeRows_L2 at H
    refine wp_iload_n 3 rfl rfl dX7_takeRows_2 ?_
    refine wp_aload_n 2 rfl rfl dX7_takeRows_3 ?_
    obtain ⟨q1, H⟩ := H
    refine wp_geti coX2 2 (Nat.le_of_ble_eq_true rfl) fl_X7_87 rfl q1 dX7_takeRows_4 ?_
    refine WP.at 7 rfl ?_
    refine wp_icmp_ge 169 (by decide) dX7_takeRows_7 (fun c2 => ?_) (fun c2 => ?_)
    · replace H := H.1 c2
      exact WP.pick [] rfl (hK2_169 _ H)
    · replace H := H.2 c2
      refine wp_aload_n 2 rfl rfl dX7_takeRows_10 ?_
      refine wp_iload_n 3 rfl rfl dX7_takeRows_11 ?_
      refine wp_iconst (-1 : Int32) (by decide) dX7_takeRows_12 ?_
      refine wp_iconst (-1 : Int32) (by decide) dX7_takeRows_13 ?_
      refine WP.at 14 rfl ?_
      refine wp_cVi (M2 := M_F_isNext) coX2 l2 q1 [xi l3, xi (-1 : Int32), xi (-1 : Int32)] rfl lv_X7_90 mo_F_isNext (Nat.le_of_ble_eq_true rfl) ⟨(Nat.le_of_ble_eq_true rfl), (Nat.le_of_ble_eq_true rfl)⟩ (Nat.le_of_ble_eq_true rfl) (Nat.le_of_ble_eq_true rfl) dX7_takeRows_14 (t_F_isNext l2 l3 (-1 : Int32) (-1 : Int32) _ _ H) (fun v4 h3 H => ?_)
      refine WP.at 17 rfl ?_
      refine wp_if_ne 23 (by decide) dX7_takeRows_17 (fun c5 => ?_) (fun c5 => ?_)
      · replace H := H.1 c5
        refine wp_aload_n 1 rfl rfl dX7_takeRows_23 ?_
        obtain ⟨q6, H⟩ := H
        refine wp_geti coX4 1 (Nat.le_of_ble_eq_true rfl) fl_X7_52 rfl q6 dX7_takeRows_24 ?_
        refine WP.at 27 rfl ?_
        refine wp_if_ne 46 (by decide) dX7_takeRows_27 (fun c7 => ?_) (fun c7 => ?_)
        · replace H := H.1 c7
          refine wp_iconst (0 : Int32) (by decide) dX7_takeRows_46 ?_
          refine wp_istore (Nat.le_of_ble_eq_true rfl) dX7_takeRows_47 (ls' := [(4, xi (0 : Int32)), (0, xr l0), (1, xr l1), (2, xr l2), (3, xi l3)]) rfl ?_
          refine WP.at 49 rfl ?_
          obtain ⟨f46, H⟩ := H
          refine WP.pick [1, 2, 3, 4, 0] rfl (t_Se_takeRows_L49 l0 l1 l2 l3 _ Q ?_ f46 (0 : Int32) _ H)
          · intro h43 H
            refine wp_iincN (1 : Int32) (by decide) rfl (Nat.le_of_ble_eq_true rfl) dX7_takeRows_163 (ls' := fun v44 => [(3, xi v44), (0, xr l0), (1, xr l1), (2, xr l2)]) (fun _ => rfl) (fun v44 e45 => ?_)
            replace H := H v44 e45
            refine WP.at 166 rfl ?_
            refine wp_goto 2 (by decide) dX7_takeRows_166 ?_
            exact WP.pick [1, 2, 3, 0] rfl (hB2 v44 _ H)
        · replace H := H.2 c7
          refine wp_aload_n 0 rfl rfl dX7_takeRows_30 ?_
          refine wp_aload_n 1 rfl rfl dX7_takeRows_31 ?_
          refine wp_aload_n 2 rfl rfl dX7_takeRows_32 ?_
          refine wp_getr coX2 0 (Nat.le_of_ble_eq_true rfl) fl_X7_94 rfl q1 dX7_takeRows_33 ?_
          refine wp_iload_n 3 rfl rfl dX7_takeRows_36 ?_
          obtain ⟨q47, H⟩ := H
          obtain ⟨q48, H⟩ := H
          refine wp_iaload q47 q48 dX7_takeRows_37 ?_
          refine wp_iconst (0 : Int32) (by decide) dX7_takeRows_38 ?_
          refine WP.at 39 rfl ?_
          refine wp_iconst (0 : Int32) (by decide) dX7_takeRows_39 ?_
          refine WP.at 40 rfl ?_
          obtain ⟨q49, H⟩ := H
          refine wp_cVv (M2 := M_Se_take) coX7 l0 q49 [xr l1, xi (hI h3 (hR h3 l2 0) l3.toNatClampNeg), xi (0 : Int32), xi (0 : Int32)] rfl lv_X7_97 mo_Se_take (Nat.le_of_ble_eq_true rfl) ⟨(Nat.le_of_ble_eq_true rfl), (Nat.le_of_ble_eq_true rfl)⟩ (Nat.le_of_ble_eq_true rfl) (Nat.le_of_ble_eq_true rfl) dX7_takeRows_40 (t_Se_take l0 l1 (hI h3 (hR h3 l2 0) l3.toNatClampNeg) (0 : Int32) (0 : Int32) _ _ H) (fun h50 H => ?_)
          refine WP.at 43 rfl ?_
          refine wp_goto 163 (by decide) dX7_takeRows_43 ?_
          refine wp_iincN (1 : Int32) (by decide) rfl (Nat.le_of_ble_eq_true rfl) dX7_takeRows_163 (ls' := fun v51 => [(3, xi v51), (0, xr l0), (1, xr l1), (2, xr l2)]) (fun _ => rfl) (fun v51 e52 => ?_)
          replace H := H v51 e52
          refine WP.at 166 rfl ?_
          refine wp_goto 2 (by decide) dX7_takeRows_166 ?_
          exact WP.pick [1, 2, 3, 0] rfl (hB2 v51 _ H)
      · replace H := H.2 c5
        refine WP.at 20 rfl ?_
        refine wp_goto 163 (by decide) dX7_takeRows_20 ?_
        refine wp_iincN (1 : Int32) (by decide) rfl (Nat.le_of_ble_eq_true rfl) dX7_takeRows_163 (ls' := fun v53 => [(3, xi v53), (0, xr l0), (1, xr l1), (2, xr l2)]) (fun _ => rfl) (fun v53 e54 => ?_)
        replace H := H v53 e54
        refine WP.at 166 rfl ?_
        refine wp_goto 2 (by decide) dX7_takeRows_166 ?_
        exact WP.pick [1, 2, 3, 0] rfl (hB2 v53 _ H)
def p_Se_takeRows (l0 : xN) (l1 : xN) (l2 : xN) (h : xH) (Q : xH → Prop) : Prop := (∃ f56, p_Se_takeRows_L2 l0 l1 l2 (fun (h55 : xH) => Q h55) Q f56 (0 : Int32) h)
set_option maxRecDepth 100000 in
set_option maxHeartbeats 4000000 in
theorem t_Se_takeRows (l0 : xN) (l1 : xN) (l2 : xN) (h : xH) (Q : xH → Prop) (H : p_Se_takeRows l0 l1 l2 h Q) : WP M_Se_takeRows 0 [(0, xr l0), (1, xr l1), (2, xr l2)] [] h 0 (qv Q) := by
  unfold p_Se_takeRows at H
  refine wp_iconst (0 : Int32) (by decide) dX7_takeRows_0 ?_
  refine wp_istore_n 3 rfl (Nat.le_of_ble_eq_true rfl) dX7_takeRows_1 (ls' := [(3, xi (0 : Int32)), (0, xr l0), (1, xr l1), (2, xr l2)]) rfl ?_
  refine WP.at 2 rfl ?_
  obtain ⟨f56, H⟩ := H
  refine WP.pick [1, 2, 3, 0] rfl (t_Se_takeRows_L2 l0 l1 l2 _ Q ?_ f56 (0 : Int32) _ H)
  · intro h55 H
    exact wp_vret trivial dX7_takeRows_169 H
def p_Se_findTakers (l0 : xN) (l1 : xN) (l2 : xN) (l3 : xN) (h : xH) (Q : xH → Prop) : Prop := (kd l1.1 = (1, 3)) ∧ (((hI h l1 1) = (1 : Int32) → (kd l0.1 = (1, 6)) ∧ p_Se_takePlaced l0 l1 l2 h (fun h3 : xH => Q h3)) ∧ ((hI h l1 1) = (4 : Int32) → (kd l0.1 = (1, 6)) ∧ p_Se_takeDoubles l0 l1 l2 l3 h (fun h5 : xH => Q h5)) ∧ (¬ (hI h l1 1) = (1 : Int32) → ¬ (hI h l1 1) = (4 : Int32) → (kd l0.1 = (1, 6)) ∧ p_Se_takeRows l0 l1 l2 h (fun h7 : xH => Q h7)))
set_option maxRecDepth 100000 in
set_option maxHeartbeats 4000000 in
theorem t_Se_findTakers (l0 : xN) (l1 : xN) (l2 : xN) (l3 : xN) (h : xH) (Q : xH → Prop) (H : p_Se_findTakers l0 l1 l2 l3 h Q) : WP M_Se_findTakers 0 [(0, xr l0), (1, xr l1), (2, xr l2), (3, xr l3)] [] h 0 (qv Q) := by
  unfold p_Se_findTakers at H
  refine wp_aload_n 1 rfl rfl dX7_findTakers_0 ?_
  obtain ⟨q1, H⟩ := H
  refine wp_geti coX4 1 (Nat.le_of_ble_eq_true rfl) fl_X7_52 rfl q1 dX7_findTakers_1 ?_
  refine WP.at 4 rfl ?_
  refine wp_lsw dX7_findTakers_4 (by decide +kernel) (fun y => if y = 1 then 32 else if y = 4 then 41 else 51) (fun y => by simp only [Op.lookupswitch.offset]; repeat (first | split | omega | simp_all)) ?_
  by_cases c1 : (hI h l1 1) = (1 : Int32)
  · replace H := H.1 c1
    refine WP.at 32 (by rw [c1]; rfl) ?_
    refine wp_aload_n 0 rfl rfl dX7_findTakers_32 ?_
    refine wp_aload_n 1 rfl rfl dX7_findTakers_33 ?_
    refine wp_aload_n 2 rfl rfl dX7_findTakers_34 ?_
    refine WP.at 35 rfl ?_
    obtain ⟨q2, H⟩ := H
    refine wp_cVv (M2 := M_Se_takePlaced) coX7 l0 q2 [xr l1, xr l2] rfl lv_X7_77 mo_Se_takePlaced (Nat.le_of_ble_eq_true rfl) ⟨(Nat.le_of_ble_eq_true rfl), (Nat.le_of_ble_eq_true rfl)⟩ (Nat.le_of_ble_eq_true rfl) (Nat.le_of_ble_eq_true rfl) dX7_findTakers_35 (t_Se_takePlaced l0 l1 l2 _ _ H) (fun h3 H => ?_)
    refine WP.at 38 rfl ?_
    refine wp_goto 57 (by decide) dX7_findTakers_38 ?_
    exact wp_vret trivial dX7_findTakers_57 H
  · by_cases c2 : (hI h l1 1) = (4 : Int32)
    · replace H := H.2.1 c2
      refine WP.at 41 (by rw [c2]; rfl) ?_
      refine wp_aload_n 0 rfl rfl dX7_findTakers_41 ?_
      refine wp_aload_n 1 rfl rfl dX7_findTakers_42 ?_
      refine wp_aload_n 2 rfl rfl dX7_findTakers_43 ?_
      refine wp_aload_n 3 rfl rfl dX7_findTakers_44 ?_
      refine WP.at 45 rfl ?_
      obtain ⟨q4, H⟩ := H
      refine wp_cVv (M2 := M_Se_takeDoubles) coX7 l0 q4 [xr l1, xr l2, xr l3] rfl lv_X7_81 mo_Se_takeDoubles (Nat.le_of_ble_eq_true rfl) ⟨(Nat.le_of_ble_eq_true rfl), (Nat.le_of_ble_eq_true rfl)⟩ (Nat.le_of_ble_eq_true rfl) (Nat.le_of_ble_eq_true rfl) dX7_findTakers_45 (t_Se_takeDoubles l0 l1 l2 l3 _ _ H) (fun h5 H => ?_)
      refine WP.at 48 rfl ?_
      refine wp_goto 57 (by decide) dX7_findTakers_48 ?_
      exact wp_vret trivial dX7_findTakers_57 H
    · replace H := H.2.2 c1 c2
      refine WP.at 51 (by show (if _ then _ else _) = _; rw [if_neg (lv_neT (a := 1) c1 (by decide)), if_neg (lv_neT (a := 4) c2 (by decide))]) ?_
      refine wp_aload_n 0 rfl rfl dX7_findTakers_51 ?_
      refine wp_aload_n 1 rfl rfl dX7_findTakers_52 ?_
      refine wp_aload_n 2 rfl rfl dX7_findTakers_53 ?_
      refine WP.at 54 rfl ?_
      obtain ⟨q6, H⟩ := H
      refine wp_cVv (M2 := M_Se_takeRows) coX7 l0 q6 [xr l1, xr l2] rfl lv_X7_84 mo_Se_takeRows (Nat.le_of_ble_eq_true rfl) ⟨(Nat.le_of_ble_eq_true rfl), (Nat.le_of_ble_eq_true rfl)⟩ (Nat.le_of_ble_eq_true rfl) (Nat.le_of_ble_eq_true rfl) dX7_findTakers_54 (t_Se_takeRows l0 l1 l2 _ _ H) (fun h7 H => ?_)
      exact wp_vret trivial dX7_findTakers_57 H
def p_Se_unitsOfTakers_L4 (l0 : xN) (l1 : xN) (K4_32 : Int32 → xH → Prop) (Q : Int32 → xH → Prop) : Nat → Int32 → Int32 → xH → Prop
  | 0, _, _, _ => False
  | f + 1, l2, l3, h => (kd l0.1 = (1, 6)) ∧ (((hI h l0 2) ≤ l3 → K4_32 l2 h) ∧ (¬ (hI h l0 2) ≤ l3 → (kd l1.1 = (1, 3)) ∧ (kd (hR h l0 0).1 = (2, 0)) ∧ (vp_in l3 (hS h (hR h l0 0) - 1)) ∧ (kd (hR h l1 6).1 = (2, 0)) ∧ (vp_in (hI h (hR h l0 0) l3.toNatClampNeg) (hS h (hR h l1 6) - 1)) ∧ ∀ v8 : Int32, v8 = l2 + (hI h (hR h l1 6) (hI h (hR h l0 0) l3.toNatClampNeg).toNatClampNeg) → ∀ v10 : Int32, v10 = l3 + (1 : Int32) → (p_Se_unitsOfTakers_L4 l0 l1 K4_32 Q f) v8 v10 h))
set_option maxRecDepth 100000 in
set_option maxHeartbeats 4000000 in
theorem t_Se_unitsOfTakers_L4 (l0 : xN) (l1 : xN) (K4_32 : Int32 → xH → Prop) (Q : Int32 → xH → Prop) (hK4_32 : ∀ (x2 : Int32) (h : xH), K4_32 x2 h → WP M_Se_unitsOfTakers 32 [(2, xi x2)] [] h 0 (qi Q)) : ∀ (f : Nat) (l2 : Int32) (l3 : Int32) (h : xH), p_Se_unitsOfTakers_L4 l0 l1 K4_32 Q f l2 l3 h → WP M_Se_unitsOfTakers 4 [(0, xr l0), (1, xr l1), (2, xi l2), (3, xi l3)] [] h 0 (qi Q) := by
  intro f
  induction f with
  | zero => exact fun _ _ _ H => H.elim
  | succ f hB4 =>
    intro l2 l3 h H
    unfold p_Se_unitsOfTakers_L4 at H
    refine wp_iload_n 3 rfl rfl dX7_unitsOfTakers_4 ?_
    refine wp_aload_n 0 rfl rfl dX7_unitsOfTakers_5 ?_
    obtain ⟨q1, H⟩ := H
    refine wp_geti coX7 2 (Nat.le_of_ble_eq_true rfl) fl_X7_18 rfl q1 dX7_unitsOfTakers_6 ?_
    refine WP.at 9 rfl ?_
    refine wp_icmp_ge 32 (by decide) dX7_unitsOfTakers_9 (fun c2 => ?_) (fun c2 => ?_)
    · replace H := H.1 c2
      exact WP.pick [2] rfl (hK4_32 l2 _ H)
    · replace H := H.2 c2
      refine wp_iload_n 2 rfl rfl dX7_unitsOfTakers_12 ?_
      refine wp_aload_n 1 rfl rfl dX7_unitsOfTakers_13 ?_
      obtain ⟨q3, H⟩ := H
      refine wp_getr coX4 6 (Nat.le_of_ble_eq_true rfl) fl_X7_108 rfl q3 dX7_unitsOfTakers_14 ?_
      refine wp_aload_n 0 rfl rfl dX7_unitsOfTakers_17 ?_
      refine wp_getr coX7 0 (Nat.le_of_ble_eq_true rfl) fl_X7_9 rfl q1 dX7_unitsOfTakers_18 ?_
      refine wp_iload_n 3 rfl rfl dX7_unitsOfTakers_21 ?_
      obtain ⟨q4, H⟩ := H
      obtain ⟨q5, H⟩ := H
      refine wp_iaload q4 q5 dX7_unitsOfTakers_22 ?_
      refine WP.at 23 rfl ?_
      obtain ⟨q6, H⟩ := H
      obtain ⟨q7, H⟩ := H
      refine wp_iaload q6 q7 dX7_unitsOfTakers_23 ?_
      refine wp_iadd dX7_unitsOfTakers_24 ?_
      refine wp_nm (fun v8 e9 => ?_)
      replace H := H v8 e9
      refine wp_istore_n 2 rfl (Nat.le_of_ble_eq_true rfl) dX7_unitsOfTakers_25 (ls' := [(2, xi v8), (0, xr l0), (1, xr l1), (3, xi l3)]) rfl ?_
      refine wp_iincN (1 : Int32) (by decide) rfl (Nat.le_of_ble_eq_true rfl) dX7_unitsOfTakers_26 (ls' := fun v10 => [(3, xi v10), (2, xi v8), (0, xr l0), (1, xr l1)]) (fun _ => rfl) (fun v10 e11 => ?_)
      replace H := H v10 e11
      refine WP.at 29 rfl ?_
      refine wp_goto 4 (by decide) dX7_unitsOfTakers_29 ?_
      exact WP.pick [2, 3, 1, 0] rfl (hB4 v8 v10 _ H)
def p_Se_unitsOfTakers (l0 : xN) (l1 : xN) (h : xH) (Q : Int32 → xH → Prop) : Prop := (∃ f14, p_Se_unitsOfTakers_L4 l0 l1 (fun (x12 : Int32) (h13 : xH) => Q x12 h13) Q f14 (0 : Int32) (0 : Int32) h)
set_option maxRecDepth 100000 in
set_option maxHeartbeats 4000000 in
theorem t_Se_unitsOfTakers (l0 : xN) (l1 : xN) (h : xH) (Q : Int32 → xH → Prop) (H : p_Se_unitsOfTakers l0 l1 h Q) : WP M_Se_unitsOfTakers 0 [(0, xr l0), (1, xr l1)] [] h 0 (qi Q) := by
  unfold p_Se_unitsOfTakers at H
  refine wp_iconst (0 : Int32) (by decide) dX7_unitsOfTakers_0 ?_
  refine wp_istore_n 2 rfl (Nat.le_of_ble_eq_true rfl) dX7_unitsOfTakers_1 (ls' := [(2, xi (0 : Int32)), (0, xr l0), (1, xr l1)]) rfl ?_
  refine wp_iconst (0 : Int32) (by decide) dX7_unitsOfTakers_2 ?_
  refine wp_istore_n 3 rfl (Nat.le_of_ble_eq_true rfl) dX7_unitsOfTakers_3 (ls' := [(3, xi (0 : Int32)), (2, xi (0 : Int32)), (0, xr l0), (1, xr l1)]) rfl ?_
  refine WP.at 4 rfl ?_
  obtain ⟨f14, H⟩ := H
  refine WP.pick [2, 3, 1, 0] rfl (t_Se_unitsOfTakers_L4 l0 l1 _ Q ?_ f14 (0 : Int32) (0 : Int32) _ H)
  · intro x12 h13 H
    refine wp_iload_n 2 rfl rfl dX7_unitsOfTakers_32 ?_
    exact wp_iret trivial dX7_unitsOfTakers_33 H
def p_Jm_max (l0 : Int32) (l1 : Int32) (h : xH) (Q : Int32 → xH → Prop) : Prop := ((l0 < l1 → Q l1 h) ∧ (¬ l0 < l1 → Q l0 h))
set_option maxRecDepth 100000 in
set_option maxHeartbeats 4000000 in
theorem t_Jm_max (l0 : Int32) (l1 : Int32) (h : xH) (Q : Int32 → xH → Prop) (H : p_Jm_max l0 l1 h Q) : WP M_Jm_max 0 [(0, xi l0), (1, xi l1)] [] h 0 (qi Q) := by
  unfold p_Jm_max at H
  refine wp_iload_n 0 rfl rfl dJ9_max_7cf53_0 ?_
  refine wp_iload_n 1 rfl rfl dJ9_max_7cf53_1 ?_
  refine WP.at 2 rfl ?_
  refine wp_icmp_lt 9 (by decide) dJ9_max_7cf53_2 (fun c1 => ?_) (fun c1 => ?_)
  · replace H := H.1 c1
    refine wp_iload_n 1 rfl rfl dJ9_max_7cf53_9 ?_
    exact wp_iret trivial dJ9_max_7cf53_10 H
  · replace H := H.2 c1
    refine wp_iload_n 0 rfl rfl dJ9_max_7cf53_5 ?_
    refine WP.at 6 rfl ?_
    refine wp_goto 10 (by decide) dJ9_max_7cf53_6 ?_
    exact wp_iret trivial dJ9_max_7cf53_10 H
def p_Se_share_L54 (l0 : xN) (l1 : xN) (l2 : Int32) (l3 : Int32) (l4 : Int32) (K54_131 : xH → Prop) (Q : xH → Prop) : Nat → Int32 → xH → Prop
  | 0, _, _ => False
  | f + 1, l5, h => (kd l0.1 = (1, 6)) ∧ (((hI h l0 2) ≤ l5 → K54_131 h) ∧ (¬ (hI h l0 2) ≤ l5 → (kd l1.1 = (1, 3)) ∧ (kd (hR h l0 0).1 = (2, 0)) ∧ (vp_in l5 (hS h (hR h l0 0) - 1)) ∧ (kd (hR h l1 6).1 = (2, 0)) ∧ (vp_in (hI h (hR h l0 0) l5.toNatClampNeg) (hS h (hR h l1 6) - 1)) ∧ p_Jm_max (hI h (hR h l1 6) (hI h (hR h l0 0) l5.toNatClampNeg).toNatClampNeg) (1 : Int32) h (fun (v11 : Int32) (h10 : xH) => (¬ (hI h10 l0 2) = 0) ∧ (¬ v11 = 0) ∧ (kd (hR h10 l0 1).1 = (2, 0)) ∧ (vp_in l5 (hS h10 (hR h10 l0 1) - 1)) ∧ ∀ h16 : xH, h16 = sI h10 (hR h10 l0 1) l5.toNatClampNeg (l3 + ((((l4 / (hI h10 l0 2)) / v11) / (10 : Int32)) * (10 : Int32))) → (kd (hR h16 l0 1).1 = (2, 0)) ∧ (vp_in l5 (hS h16 (hR h16 l0 1) - 1)) ∧ ∀ h20 : xH, h20 = sI h16 l0 8 ((hI h16 l0 8) + (v11 * (hI h16 (hR h16 l0 1) l5.toNatClampNeg))) → ∀ v22 : Int32, v22 = l5 + (1 : Int32) → (p_Se_share_L54 l0 l1 l2 l3 l4 K54_131 Q f) v22 h20)))
set_option maxRecDepth 100000 in
set_option maxHeartbeats 4000000 in
theorem t_Se_share_L54 (l0 : xN) (l1 : xN) (l2 : Int32) (l3 : Int32) (l4 : Int32) (K54_131 : xH → Prop) (Q : xH → Prop) (hK54_131 : ∀ (h : xH), K54_131 h → WP M_Se_share 131 [(0, xr l0), (2, xi l2)] [] h 0 (qv Q)) : ∀ (f : Nat) (l5 : Int32) (h : xH), p_Se_share_L54 l0 l1 l2 l3 l4 K54_131 Q f l5 h → WP M_Se_share 54 [(0, xr l0), (1, xr l1), (2, xi l2), (3, xi l3), (4, xi l4), (5, xi l5)] [] h 0 (qv Q) := by
  intro f
  induction f with
  | zero => exact fun _ _ H => H.elim
  | succ f hB54 =>
    intro l5 h H
    unfold p_Se_share_L54 at H
    refine wp_iload rfl dX7_share_54 ?_
    refine wp_aload_n 0 rfl rfl dX7_share_56 ?_
    obtain ⟨q3, H⟩ := H
    refine wp_geti coX7 2 (Nat.le_of_ble_eq_true rfl) fl_X7_18 rfl q3 dX7_share_57 ?_
    refine WP.at 60 rfl ?_
    refine wp_icmp_ge 131 (by decide) dX7_share_60 (fun c4 => ?_) (fun c4 => ?_)
    · replace H := H.1 c4
      exact WP.pick [0, 2] rfl (hK54_131 _ H)
    · replace H := H.2 c4
      refine wp_aload_n 1 rfl rfl dX7_share_63 ?_
      obtain ⟨q5, H⟩ := H
      refine wp_getr coX4 6 (Nat.le_of_ble_eq_true rfl) fl_X7_108 rfl q5 dX7_share_64 ?_
      refine wp_aload_n 0 rfl rfl dX7_share_67 ?_
      refine wp_getr coX7 0 (Nat.le_of_ble_eq_true rfl) fl_X7_9 rfl q3 dX7_share_68 ?_
      refine wp_iload rfl dX7_share_71 ?_
      obtain ⟨q6, H⟩ := H
      obtain ⟨q7, H⟩ := H
      refine wp_iaload q6 q7 dX7_share_73 ?_
      obtain ⟨q8, H⟩ := H
      obtain ⟨q9, H⟩ := H
      refine wp_iaload q8 q9 dX7_share_74 ?_
      refine WP.at 75 rfl ?_
      refine wp_iconst (1 : Int32) (by decide) dX7_share_75 ?_
      refine WP.at 76 rfl ?_
      refine wp_cSi (M2 := M_Jm_max) [xi (hI h (hR h l1 6) (hI h (hR h l0 0) l5.toNatClampNeg).toNatClampNeg), xi (1 : Int32)] rfl ls_X7_119 mo_Jm_max (Nat.le_of_ble_eq_true rfl) ⟨(Nat.le_of_ble_eq_true rfl), (Nat.le_of_ble_eq_true rfl)⟩ (Nat.le_of_ble_eq_true rfl) (Nat.le_of_ble_eq_true rfl) dX7_share_76 (t_Jm_max (hI h (hR h l1 6) (hI h (hR h l0 0) l5.toNatClampNeg).toNatClampNeg) (1 : Int32) _ _ H) (fun v11 h10 H => ?_)
      refine wp_istore (Nat.le_of_ble_eq_true rfl) dX7_share_79 (ls' := [(6, xi v11), (0, xr l0), (1, xr l1), (2, xi l2), (3, xi l3), (4, xi l4), (5, xi l5)]) rfl ?_
      refine wp_aload_n 0 rfl rfl dX7_share_81 ?_
      refine wp_getr coX7 1 (Nat.le_of_ble_eq_true rfl) fl_X7_15 rfl q3 dX7_share_82 ?_
      refine wp_iload rfl dX7_share_85 ?_
      refine wp_iload_n 3 rfl rfl dX7_share_87 ?_
      refine wp_iload rfl dX7_share_88 ?_
      refine WP.at 90 rfl ?_
      refine wp_aload_n 0 rfl rfl dX7_share_90 ?_
      refine wp_geti coX7 2 (Nat.le_of_ble_eq_true rfl) fl_X7_18 rfl q3 dX7_share_91 ?_
      obtain ⟨q12, H⟩ := H
      refine wp_idiv q12 dX7_share_94 ?_
      refine wp_iload rfl dX7_share_95 ?_
      obtain ⟨q13, H⟩ := H
      refine wp_idiv q13 dX7_share_97 ?_
      refine wp_bipush (10 : Int32) (by decide) dX7_share_98 ?_
      refine wp_idiv (by decide) dX7_share_100 ?_
      refine wp_bipush (10 : Int32) (by decide) dX7_share_101 ?_
      refine WP.at 103 rfl ?_
      refine wp_imul dX7_share_103 ?_
      refine wp_iadd dX7_share_104 ?_
      obtain ⟨q14, H⟩ := H
      obtain ⟨q15, H⟩ := H
      refine wp_iastore q14 q15 dX7_share_105 ?_
      refine wp_nh (fun h16 e17 => ?_)
      replace H := H h16 e17
      refine wp_aload_n 0 rfl rfl dX7_share_106 ?_
      refine wp_dup rfl dX7_share_107 ?_
      refine wp_geti coX7 8 (Nat.le_of_ble_eq_true rfl) fl_X7_34 rfl q3 dX7_share_108 ?_
      refine wp_iload rfl dX7_share_111 ?_
      refine wp_aload_n 0 rfl rfl dX7_share_113 ?_
      refine WP.at 114 rfl ?_
      refine wp_getr coX7 1 (Nat.le_of_ble_eq_true rfl) fl_X7_15 rfl q3 dX7_share_114 ?_
      refine wp_iload rfl dX7_share_117 ?_
      obtain ⟨q18, H⟩ := H
      obtain ⟨q19, H⟩ := H
      refine wp_iaload q18 q19 dX7_share_119 ?_
      refine wp_imul dX7_share_120 ?_
      refine wp_iadd dX7_share_121 ?_
      refine wp_puti coX7 8 (Nat.le_of_ble_eq_true rfl) fl_X7_34 rfl rfl ⟨rfl, rfl⟩ q3 dX7_share_122 ?_
      refine wp_nh (fun h20 e21 => ?_)
      replace H := H h20 e21
      refine wp_iincN (1 : Int32) (by decide) rfl (Nat.le_of_ble_eq_true rfl) dX7_share_125 (ls' := fun v22 => [(5, xi v22), (6, xi v11), (0, xr l0), (1, xr l1), (2, xi l2), (3, xi l3), (4, xi l4)]) (fun _ => rfl) (fun v22 e23 => ?_)
      replace H := H v22 e23
      refine WP.at 128 rfl ?_
      refine wp_goto 54 (by decide) dX7_share_128 ?_
      exact WP.pick [2, 3, 4, 5, 6, 0] rfl (hB54 v22 _ H)
def p_Se_share (l0 : xN) (l1 : xN) (l2 : Int32) (h : xH) (Q : xH → Prop) : Prop := (kd l1.1 = (1, 3)) ∧ ((¬ (hI h l1 1) = (1 : Int32) → (∃ f28, p_Se_share_L54 l0 l1 l2 (0 : Int32) l2 (fun (h24 : xH) => (kd l0.1 = (1, 6)) ∧ ∀ h26 : xH, h26 = sI h24 l0 6 ((l2 + (hI h24 l0 7)) - (hI h24 l0 8)) → Q h26) Q f28 (0 : Int32) h)) ∧ ((hI h l1 1) = (1 : Int32) → ∀ v29 : Int32, v29 = hI h l1 5 → (kd l0.1 = (1, 6)) ∧ p_Se_unitsOfTakers l0 l1 h (fun (v33 : Int32) (h32 : xH) => ∀ v34 : Int32, v34 = l2 - (v33 * (hI h32 l1 5)) → p_Jm_max (0 : Int32) (-v34) h32 (fun (v37 : Int32) (h36 : xH) => ∀ h38 : xH, h38 = sI h36 l0 7 v37 → p_Jm_max (0 : Int32) v34 h38 (fun (v41 : Int32) (h40 : xH) => (∃ f45, p_Se_share_L54 l0 l1 l2 v29 v41 (fun (h42 : xH) => ∀ h43 : xH, h43 = sI h42 l0 6 ((l2 + (hI h42 l0 7)) - (hI h42 l0 8)) → Q h43) Q f45 (0 : Int32) h40))))))
set_option maxRecDepth 100000 in
set_option maxHeartbeats 4000000 in
theorem t_Se_share (l0 : xN) (l1 : xN) (l2 : Int32) (h : xH) (Q : xH → Prop) (H : p_Se_share l0 l1 l2 h Q) : WP M_Se_share 0 [(0, xr l0), (1, xr l1), (2, xi l2)] [] h 0 (qv Q) := by
  unfold p_Se_share at H
  refine wp_iconst (0 : Int32) (by decide) dX7_share_0 ?_
  refine wp_istore_n 3 rfl (Nat.le_of_ble_eq_true rfl) dX7_share_1 (ls' := [(3, xi (0 : Int32)), (0, xr l0), (1, xr l1), (2, xi l2)]) rfl ?_
  refine wp_iload_n 2 rfl rfl dX7_share_2 ?_
  refine wp_istore (Nat.le_of_ble_eq_true rfl) dX7_share_3 (ls' := [(4, xi l2), (3, xi (0 : Int32)), (0, xr l0), (1, xr l1), (2, xi l2)]) rfl ?_
  refine wp_aload_n 1 rfl rfl dX7_share_5 ?_
  obtain ⟨q1, H⟩ := H
  refine wp_geti coX4 1 (Nat.le_of_ble_eq_true rfl) fl_X7_52 rfl q1 dX7_share_6 ?_
  refine wp_iconst (1 : Int32) (by decide) dX7_share_9 ?_
  refine WP.at 10 rfl ?_
  refine WP.at 10 rfl ?_
  refine wp_icmp_ne 51 (by decide) dX7_share_10 (fun c2 => ?_) (fun c2 => ?_)
  · replace H := H.1 c2
    refine wp_iconst (0 : Int32) (by decide) dX7_share_51 ?_
    refine wp_istore (Nat.le_of_ble_eq_true rfl) dX7_share_52 (ls' := [(5, xi (0 : Int32)), (4, xi l2), (3, xi (0 : Int32)), (0, xr l0), (1, xr l1), (2, xi l2)]) rfl ?_
    refine WP.at 54 rfl ?_
    obtain ⟨f28, H⟩ := H
    refine WP.pick [3, 4, 5, 2, 1, 0] rfl (t_Se_share_L54 l0 l1 l2 (0 : Int32) l2 _ Q ?_ f28 (0 : Int32) _ H)
    · intro h24 H
      refine wp_aload_n 0 rfl rfl dX7_share_131 ?_
      refine wp_iload_n 2 rfl rfl dX7_share_132 ?_
      refine wp_aload_n 0 rfl rfl dX7_share_133 ?_
      obtain ⟨q25, H⟩ := H
      refine wp_geti coX7 7 (Nat.le_of_ble_eq_true rfl) fl_X7_31 rfl q25 dX7_share_134 ?_
      refine wp_iadd dX7_share_137 ?_
      refine wp_aload_n 0 rfl rfl dX7_share_138 ?_
      refine wp_geti coX7 8 (Nat.le_of_ble_eq_true rfl) fl_X7_34 rfl q25 dX7_share_139 ?_
      refine WP.at 142 rfl ?_
      refine wp_isub dX7_share_142 ?_
      refine wp_puti coX7 6 (Nat.le_of_ble_eq_true rfl) fl_X7_28 rfl rfl ⟨rfl, rfl⟩ q25 dX7_share_143 ?_
      refine wp_nh (fun h26 e27 => ?_)
      replace H := H h26 e27
      exact wp_vret trivial dX7_share_146 H
  · replace H := H.2 c2
    refine wp_aload_n 1 rfl rfl dX7_share_13 ?_
    refine wp_geti coX4 5 (Nat.le_of_ble_eq_true rfl) fl_X7_65 rfl q1 dX7_share_14 ?_
    refine wp_nm (fun v29 e30 => ?_)
    replace H := H v29 e30
    refine wp_istore_n 3 rfl (Nat.le_of_ble_eq_true rfl) dX7_share_17 (ls' := [(3, xi v29), (4, xi l2), (0, xr l0), (1, xr l1), (2, xi l2)]) rfl ?_
    refine wp_iload_n 2 rfl rfl dX7_share_18 ?_
    refine wp_aload_n 0 rfl rfl dX7_share_19 ?_
    refine wp_aload_n 1 rfl rfl dX7_share_20 ?_
    refine WP.at 21 rfl ?_
    obtain ⟨q31, H⟩ := H
    refine wp_cVi (M2 := M_Se_unitsOfTakers) coX7 l0 q31 [xr l1] rfl lv_X7_115 mo_Se_unitsOfTakers (Nat.le_of_ble_eq_true rfl) ⟨(Nat.le_of_ble_eq_true rfl), (Nat.le_of_ble_eq_true rfl)⟩ (Nat.le_of_ble_eq_true rfl) (Nat.le_of_ble_eq_true rfl) dX7_share_21 (t_Se_unitsOfTakers l0 l1 _ _ H) (fun v33 h32 H => ?_)
    refine WP.at 24 rfl ?_
    refine wp_aload_n 1 rfl rfl dX7_share_24 ?_
    refine wp_geti coX4 5 (Nat.le_of_ble_eq_true rfl) fl_X7_65 rfl q1 dX7_share_25 ?_
    refine wp_imul dX7_share_28 ?_
    refine wp_isub dX7_share_29 ?_
    refine wp_nm (fun v34 e35 => ?_)
    replace H := H v34 e35
    refine wp_istore (Nat.le_of_ble_eq_true rfl) dX7_share_30 (ls' := [(5, xi v34), (3, xi v29), (4, xi l2), (0, xr l0), (1, xr l1), (2, xi l2)]) rfl ?_
    refine wp_aload_n 0 rfl rfl dX7_share_32 ?_
    refine wp_iconst (0 : Int32) (by decide) dX7_share_33 ?_
    refine wp_iload rfl dX7_share_34 ?_
    refine WP.at 36 rfl ?_
    refine wp_ineg dX7_share_36 ?_
    refine WP.at 37 rfl ?_
    refine wp_cSi (M2 := M_Jm_max) [xi (0 : Int32), xi (-v34)] rfl ls_X7_119 mo_Jm_max (Nat.le_of_ble_eq_true rfl) ⟨(Nat.le_of_ble_eq_true rfl), (Nat.le_of_ble_eq_true rfl)⟩ (Nat.le_of_ble_eq_true rfl) (Nat.le_of_ble_eq_true rfl) dX7_share_37 (t_Jm_max (0 : Int32) (-v34) _ _ H) (fun v37 h36 H => ?_)
    refine wp_puti coX7 7 (Nat.le_of_ble_eq_true rfl) fl_X7_31 rfl rfl ⟨rfl, rfl⟩ q31 dX7_share_40 ?_
    refine wp_nh (fun h38 e39 => ?_)
    replace H := H h38 e39
    refine wp_iconst (0 : Int32) (by decide) dX7_share_43 ?_
    refine wp_iload rfl dX7_share_44 ?_
    refine WP.at 46 rfl ?_
    refine wp_cSi (M2 := M_Jm_max) [xi (0 : Int32), xi v34] rfl ls_X7_119 mo_Jm_max (Nat.le_of_ble_eq_true rfl) ⟨(Nat.le_of_ble_eq_true rfl), (Nat.le_of_ble_eq_true rfl)⟩ (Nat.le_of_ble_eq_true rfl) (Nat.le_of_ble_eq_true rfl) dX7_share_46 (t_Jm_max (0 : Int32) v34 _ _ H) (fun v41 h40 H => ?_)
    refine wp_istore (Nat.le_of_ble_eq_true rfl) dX7_share_49 (ls' := [(4, xi v41), (5, xi v34), (3, xi v29), (0, xr l0), (1, xr l1), (2, xi l2)]) rfl ?_
    refine wp_iconst (0 : Int32) (by decide) dX7_share_51 ?_
    refine WP.at 52 rfl ?_
    refine wp_istore (Nat.le_of_ble_eq_true rfl) dX7_share_52 (ls' := [(5, xi (0 : Int32)), (4, xi v41), (3, xi v29), (0, xr l0), (1, xr l1), (2, xi l2)]) rfl ?_
    refine WP.at 54 rfl ?_
    obtain ⟨f45, H⟩ := H
    refine WP.pick [3, 4, 5, 2, 1, 0] rfl (t_Se_share_L54 l0 l1 l2 v29 v41 _ Q ?_ f45 (0 : Int32) _ H)
    · intro h42 H
      refine wp_aload_n 0 rfl rfl dX7_share_131 ?_
      refine wp_iload_n 2 rfl rfl dX7_share_132 ?_
      refine wp_aload_n 0 rfl rfl dX7_share_133 ?_
      refine wp_geti coX7 7 (Nat.le_of_ble_eq_true rfl) fl_X7_31 rfl q31 dX7_share_134 ?_
      refine wp_iadd dX7_share_137 ?_
      refine wp_aload_n 0 rfl rfl dX7_share_138 ?_
      refine wp_geti coX7 8 (Nat.le_of_ble_eq_true rfl) fl_X7_34 rfl q31 dX7_share_139 ?_
      refine WP.at 142 rfl ?_
      refine wp_isub dX7_share_142 ?_
      refine wp_puti coX7 6 (Nat.le_of_ble_eq_true rfl) fl_X7_28 rfl rfl ⟨rfl, rfl⟩ q31 dX7_share_143 ?_
      refine wp_nh (fun h43 e44 => ?_)
      replace H := H h43 e44
      exact wp_vret trivial dX7_share_146 H
def p_Se_reckon_j78 (s0 : Int32) (s1 : xN) (l0 : xN) (l1 : xN) (h : xH) (Q : xH → Prop) : Prop := (kd s1.1 = (1, 6)) ∧ (s0 = 0 ∨ s0 = 1) ∧ ∀ h22 : xH, h22 = sI h s1 3 s0 → (kd l0.1 = (1, 6)) ∧ (((hI h22 l0 3) = 0 → (kd l1.1 = (1, 3)) ∧ ∀ v27 : Int32, v27 = (hI h22 l1 9) * (hI h22 l1 5) → ∀ h29 : xH, h29 = sI h22 l0 4 ((((v27.toInt64) * ((hI h22 l1 4).toInt64)) / (1000 : Int64)).toInt32) → (kd (hR h29 l1 8).1 = (2, 0)) ∧ (vp_in (4 : Int32) (hS h29 (hR h29 l1 8) - 1)) ∧ ∀ v33 : Int32, v33 = (v27 - (hI h29 l0 4)) + (hI h29 (hR h29 l1 8) (4 : Int32).toNatClampNeg) → ((¬ (hI h29 l0 2) = 0 → p_Se_share l0 l1 v33 h29 (fun h36 : xH => Q h36)) ∧ ((hI h29 l0 2) = 0 → ∀ h37 : xH, h37 = sI h29 l0 5 v33 → Q h37))) ∧ (¬ (hI h22 l0 3) = 0 → (kd l1.1 = (1, 3)) ∧ (kd (hR h22 l1 8).1 = (2, 0)) ∧ (vp_in (4 : Int32) (hS h22 (hR h22 l1 8) - 1)) ∧ ∀ h42 : xH, h42 = sI h22 l0 5 (hI h22 (hR h22 l1 8) (4 : Int32).toNatClampNeg) → Q h42))
set_option maxRecDepth 100000 in
set_option maxHeartbeats 4000000 in
theorem t_Se_reckon_j78 (s0 : Int32) (s1 : xN) (l0 : xN) (l1 : xN) (h : xH) (Q : xH → Prop) (H : p_Se_reckon_j78 s0 s1 l0 l1 h Q) : WP M_Se_reckon 78 [(0, xr l0), (1, xr l1)] [xi s0, xr s1] h 0 (qv Q) := by
  unfold p_Se_reckon_j78 at H
  obtain ⟨q20, H⟩ := H
  obtain ⟨q21, H⟩ := H
  refine wp_puti coX7 3 (Nat.le_of_ble_eq_true rfl) fl_X7_55 rfl rfl (zo_nf q21) q20 dX7_reckon_78 ?_
  refine wp_nh (fun h22 e23 => ?_)
  replace H := H h22 e23
  refine wp_aload_n 0 rfl rfl dX7_reckon_81 ?_
  obtain ⟨q24, H⟩ := H
  refine wp_geti coX7 3 (Nat.le_of_ble_eq_true rfl) fl_X7_55 rfl q24 dX7_reckon_82 ?_
  refine WP.at 85 rfl ?_
  refine wp_if_eq 99 (by decide) dX7_reckon_85 (fun c25 => ?_) (fun c25 => ?_)
  · replace H := H.1 c25
    refine wp_aload_n 1 rfl rfl dX7_reckon_99 ?_
    obtain ⟨q26, H⟩ := H
    refine wp_geti coX4 9 (Nat.le_of_ble_eq_true rfl) fl_X7_62 rfl q26 dX7_reckon_100 ?_
    refine wp_aload_n 1 rfl rfl dX7_reckon_103 ?_
    refine wp_geti coX4 5 (Nat.le_of_ble_eq_true rfl) fl_X7_65 rfl q26 dX7_reckon_104 ?_
    refine wp_imul dX7_reckon_107 ?_
    refine wp_nm (fun v27 e28 => ?_)
    replace H := H v27 e28
    refine wp_istore (Nat.le_of_ble_eq_true rfl) dX7_reckon_108 (ls' := [(5, xi v27), (0, xr l0), (1, xr l1)]) rfl ?_
    refine wp_aload_n 0 rfl rfl dX7_reckon_110 ?_
    refine WP.at 111 rfl ?_
    refine wp_iload rfl dX7_reckon_111 ?_
    refine wp_i2l dX7_reckon_113 ?_
    refine wp_aload_n 1 rfl rfl dX7_reckon_114 ?_
    refine wp_geti coX4 4 (Nat.le_of_ble_eq_true rfl) fl_X7_68 rfl q26 dX7_reckon_115 ?_
    refine wp_i2l dX7_reckon_118 ?_
    refine wp_lmul dX7_reckon_119 ?_
    refine wp_ldc2 (1000 : Int64) cL_X7_71 dX7_reckon_120 ?_
    refine wp_ldiv (by decide) dX7_reckon_123 ?_
    refine WP.at 124 rfl ?_
    refine wp_l2i dX7_reckon_124 ?_
    refine wp_puti coX7 4 (Nat.le_of_ble_eq_true rfl) fl_X7_22 rfl rfl ⟨rfl, rfl⟩ q24 dX7_reckon_125 ?_
    refine wp_nh (fun h29 e30 => ?_)
    replace H := H h29 e30
    refine wp_iload rfl dX7_reckon_128 ?_
    refine wp_aload_n 0 rfl rfl dX7_reckon_130 ?_
    refine wp_geti coX7 4 (Nat.le_of_ble_eq_true rfl) fl_X7_22 rfl q24 dX7_reckon_131 ?_
    refine wp_isub dX7_reckon_134 ?_
    refine wp_aload_n 1 rfl rfl dX7_reckon_135 ?_
    refine wp_getr coX4 8 (Nat.le_of_ble_eq_true rfl) fl_X7_59 rfl q26 dX7_reckon_136 ?_
    refine WP.at 139 rfl ?_
    refine wp_iconst (4 : Int32) (by decide) dX7_reckon_139 ?_
    obtain ⟨q31, H⟩ := H
    obtain ⟨q32, H⟩ := H
    refine wp_iaload q31 q32 dX7_reckon_140 ?_
    refine wp_iadd dX7_reckon_141 ?_
    refine wp_nm (fun v33 e34 => ?_)
    replace H := H v33 e34
    refine wp_istore (Nat.le_of_ble_eq_true rfl) dX7_reckon_142 (ls' := [(6, xi v33), (5, xi v27), (0, xr l0), (1, xr l1)]) rfl ?_
    refine wp_aload_n 0 rfl rfl dX7_reckon_144 ?_
    refine wp_geti coX7 2 (Nat.le_of_ble_eq_true rfl) fl_X7_18 rfl q24 dX7_reckon_145 ?_
    refine WP.at 148 rfl ?_
    refine wp_if_ne 160 (by decide) dX7_reckon_148 (fun c35 => ?_) (fun c35 => ?_)
    · replace H := H.1 c35
      refine wp_aload_n 0 rfl rfl dX7_reckon_160 ?_
      refine wp_aload_n 1 rfl rfl dX7_reckon_161 ?_
      refine wp_iload rfl dX7_reckon_162 ?_
      refine WP.at 164 rfl ?_
      refine wp_cVv (M2 := M_Se_share) coX7 l0 q24 [xr l1, xi v33] rfl lv_X7_73 mo_Se_share (Nat.le_of_ble_eq_true rfl) ⟨(Nat.le_of_ble_eq_true rfl), (Nat.le_of_ble_eq_true rfl)⟩ (Nat.le_of_ble_eq_true rfl) (Nat.le_of_ble_eq_true rfl) dX7_reckon_164 (t_Se_share l0 l1 v33 _ _ H) (fun h36 H => ?_)
      exact wp_vret trivial dX7_reckon_167 H
    · replace H := H.2 c35
      refine wp_aload_n 0 rfl rfl dX7_reckon_151 ?_
      refine wp_iload rfl dX7_reckon_152 ?_
      refine wp_puti coX7 5 (Nat.le_of_ble_eq_true rfl) fl_X7_25 rfl rfl ⟨rfl, rfl⟩ q24 dX7_reckon_154 ?_
      refine wp_nh (fun h37 e38 => ?_)
      replace H := H h37 e38
      refine WP.at 157 rfl ?_
      refine wp_goto 167 (by decide) dX7_reckon_157 ?_
      exact wp_vret trivial dX7_reckon_167 H
  · replace H := H.2 c25
    refine wp_aload_n 0 rfl rfl dX7_reckon_88 ?_
    refine wp_aload_n 1 rfl rfl dX7_reckon_89 ?_
    obtain ⟨q39, H⟩ := H
    refine wp_getr coX4 8 (Nat.le_of_ble_eq_true rfl) fl_X7_59 rfl q39 dX7_reckon_90 ?_
    refine wp_iconst (4 : Int32) (by decide) dX7_reckon_93 ?_
    obtain ⟨q40, H⟩ := H
    obtain ⟨q41, H⟩ := H
    refine wp_iaload q40 q41 dX7_reckon_94 ?_
    refine wp_puti coX7 5 (Nat.le_of_ble_eq_true rfl) fl_X7_25 rfl rfl ⟨rfl, rfl⟩ q24 dX7_reckon_95 ?_
    refine wp_nh (fun h42 e43 => ?_)
    replace H := H h42 e43
    exact wp_vret trivial dX7_reckon_98 H
def p_Se_reckon_j52 (l0 : xN) (l1 : xN) (l4 : Int32) (h : xH) (Q : xH → Prop) : Prop := ((¬ l4 = 0 → p_Se_reckon_j78 (1 : Int32) l0 l0 l1 h Q) ∧ (l4 = 0 → (kd l0.1 = (1, 6)) ∧ ((¬ (hI h l0 2) = 0 → p_Se_reckon_j78 (0 : Int32) l0 l0 l1 h Q) ∧ ((hI h l0 2) = 0 → (kd l1.1 = (1, 3)) ∧ (((hI h l1 1) = (3 : Int32) → p_Se_reckon_j78 (0 : Int32) l0 l0 l1 h Q) ∧ (¬ (hI h l1 1) = (3 : Int32) → p_Se_reckon_j78 (1 : Int32) l0 l0 l1 h Q))))))
set_option maxRecDepth 100000 in
set_option maxHeartbeats 4000000 in
theorem t_Se_reckon_j52 (l0 : xN) (l1 : xN) (l4 : Int32) (h : xH) (Q : xH → Prop) (H : p_Se_reckon_j52 l0 l1 l4 h Q) : WP M_Se_reckon 52 [(0, xr l0), (1, xr l1), (4, xi l4)] [] h 0 (qv Q) := by
  unfold p_Se_reckon_j52 at H
  refine wp_aload_n 0 rfl rfl dX7_reckon_52 ?_
  refine wp_iload rfl dX7_reckon_53 ?_
  refine WP.at 55 rfl ?_
  refine wp_if_ne 73 (by decide) dX7_reckon_55 (fun c19 => ?_) (fun c19 => ?_)
  · replace H := H.1 c19
    refine wp_iconst (1 : Int32) (by decide) dX7_reckon_73 ?_
    refine WP.at 74 rfl ?_
    refine wp_goto 78 (by decide) dX7_reckon_74 ?_
    exact WP.pick [0, 1] rfl (t_Se_reckon_j78 (1 : Int32) l0 l0 l1 _ _ H)
  · replace H := H.2 c19
    refine wp_aload_n 0 rfl rfl dX7_reckon_58 ?_
    obtain ⟨q44, H⟩ := H
    refine wp_geti coX7 2 (Nat.le_of_ble_eq_true rfl) fl_X7_18 rfl q44 dX7_reckon_59 ?_
    refine WP.at 62 rfl ?_
    refine wp_if_ne 77 (by decide) dX7_reckon_62 (fun c45 => ?_) (fun c45 => ?_)
    · replace H := H.1 c45
      refine wp_iconst (0 : Int32) (by decide) dX7_reckon_77 ?_
      refine WP.at 78 rfl ?_
      exact WP.pick [0, 1] rfl (t_Se_reckon_j78 (0 : Int32) l0 l0 l1 _ _ H)
    · replace H := H.2 c45
      refine wp_aload_n 1 rfl rfl dX7_reckon_65 ?_
      obtain ⟨q46, H⟩ := H
      refine wp_geti coX4 1 (Nat.le_of_ble_eq_true rfl) fl_X7_52 rfl q46 dX7_reckon_66 ?_
      refine wp_iconst (3 : Int32) (by decide) dX7_reckon_69 ?_
      refine WP.at 70 rfl ?_
      refine wp_icmp_eq 77 (by decide) dX7_reckon_70 (fun c47 => ?_) (fun c47 => ?_)
      · replace H := H.1 c47
        refine wp_iconst (0 : Int32) (by decide) dX7_reckon_77 ?_
        refine WP.at 78 rfl ?_
        exact WP.pick [0, 1] rfl (t_Se_reckon_j78 (0 : Int32) l0 l0 l1 _ _ H)
      · replace H := H.2 c47
        refine wp_iconst (1 : Int32) (by decide) dX7_reckon_73 ?_
        refine WP.at 74 rfl ?_
        refine wp_goto 78 (by decide) dX7_reckon_74 ?_
        exact WP.pick [0, 1] rfl (t_Se_reckon_j78 (1 : Int32) l0 l0 l1 _ _ H)
def p_Se_reckon (l0 : xN) (l1 : xN) (l2 : xN) (l3 : xN) (h : xH) (Q : xH → Prop) : Prop := (kd l0.1 = (1, 6)) ∧ ∀ h2 : xH, h2 = sI h l0 2 (0 : Int32) → ∀ h4 : xH, h4 = sI h2 l0 4 (0 : Int32) → ∀ h6 : xH, h6 = sI h4 l0 5 (0 : Int32) → ∀ h8 : xH, h8 = sI h6 l0 6 (0 : Int32) → ∀ h10 : xH, h10 = sI h8 l0 7 (0 : Int32) → ∀ h12 : xH, h12 = sI h10 l0 8 (0 : Int32) → (kd l2.1 = (1, 2)) ∧ (kd l1.1 = (1, 3)) ∧ p_Po_isVoid l1 (hI h12 l2 3) h12 (fun (v17 : Int32) (h16 : xH) => ((¬ v17 = 0 → p_Se_reckon_j52 l0 l1 v17 h16 Q) ∧ (v17 = 0 → p_Se_findTakers l0 l1 l2 l3 h16 (fun h48 : xH => p_Se_reckon_j52 l0 l1 v17 h48 Q))))
set_option maxRecDepth 100000 in
set_option maxHeartbeats 4000000 in
theorem t_Se_reckon (l0 : xN) (l1 : xN) (l2 : xN) (l3 : xN) (h : xH) (Q : xH → Prop) (H : p_Se_reckon l0 l1 l2 l3 h Q) : WP M_Se_reckon 0 [(0, xr l0), (1, xr l1), (2, xr l2), (3, xr l3)] [] h 0 (qv Q) := by
  unfold p_Se_reckon at H
  refine wp_aload_n 0 rfl rfl dX7_reckon_0 ?_
  refine wp_iconst (0 : Int32) (by decide) dX7_reckon_1 ?_
  obtain ⟨q1, H⟩ := H
  refine wp_puti coX7 2 (Nat.le_of_ble_eq_true rfl) fl_X7_18 rfl rfl ⟨rfl, rfl⟩ q1 dX7_reckon_2 ?_
  refine wp_nh (fun h2 e3 => ?_)
  replace H := H h2 e3
  refine wp_aload_n 0 rfl rfl dX7_reckon_5 ?_
  refine wp_iconst (0 : Int32) (by decide) dX7_reckon_6 ?_
  refine wp_puti coX7 4 (Nat.le_of_ble_eq_true rfl) fl_X7_22 rfl rfl ⟨rfl, rfl⟩ q1 dX7_reckon_7 ?_
  refine wp_nh (fun h4 e5 => ?_)
  replace H := H h4 e5
  refine wp_aload_n 0 rfl rfl dX7_reckon_10 ?_
  refine WP.at 11 rfl ?_
  refine wp_iconst (0 : Int32) (by decide) dX7_reckon_11 ?_
  refine wp_puti coX7 5 (Nat.le_of_ble_eq_true rfl) fl_X7_25 rfl rfl ⟨rfl, rfl⟩ q1 dX7_reckon_12 ?_
  refine wp_nh (fun h6 e7 => ?_)
  replace H := H h6 e7
  refine wp_aload_n 0 rfl rfl dX7_reckon_15 ?_
  refine wp_iconst (0 : Int32) (by decide) dX7_reckon_16 ?_
  refine wp_puti coX7 6 (Nat.le_of_ble_eq_true rfl) fl_X7_28 rfl rfl ⟨rfl, rfl⟩ q1 dX7_reckon_17 ?_
  refine wp_nh (fun h8 e9 => ?_)
  replace H := H h8 e9
  refine wp_aload_n 0 rfl rfl dX7_reckon_20 ?_
  refine wp_iconst (0 : Int32) (by decide) dX7_reckon_21 ?_
  refine wp_puti coX7 7 (Nat.le_of_ble_eq_true rfl) fl_X7_31 rfl rfl ⟨rfl, rfl⟩ q1 dX7_reckon_22 ?_
  refine wp_nh (fun h10 e11 => ?_)
  replace H := H h10 e11
  refine WP.at 25 rfl ?_
  refine wp_aload_n 0 rfl rfl dX7_reckon_25 ?_
  refine wp_iconst (0 : Int32) (by decide) dX7_reckon_26 ?_
  refine wp_puti coX7 8 (Nat.le_of_ble_eq_true rfl) fl_X7_34 rfl rfl ⟨rfl, rfl⟩ q1 dX7_reckon_27 ?_
  refine wp_nh (fun h12 e13 => ?_)
  replace H := H h12 e13
  refine wp_aload_n 1 rfl rfl dX7_reckon_30 ?_
  refine wp_aload_n 2 rfl rfl dX7_reckon_31 ?_
  obtain ⟨q14, H⟩ := H
  refine wp_geti coX2 3 (Nat.le_of_ble_eq_true rfl) fl_X7_37 rfl q14 dX7_reckon_32 ?_
  refine WP.at 35 rfl ?_
  obtain ⟨q15, H⟩ := H
  refine wp_cVi (M2 := M_Po_isVoid) coX4 l1 q15 [xi (hI h12 l2 3)] rfl lv_X7_42 mo_Po_isVoid (Nat.le_of_ble_eq_true rfl) ⟨(Nat.le_of_ble_eq_true rfl), (Nat.le_of_ble_eq_true rfl)⟩ (Nat.le_of_ble_eq_true rfl) (Nat.le_of_ble_eq_true rfl) dX7_reckon_35 (t_Po_isVoid l1 (hI h12 l2 3) _ _ H) (fun v17 h16 H => ?_)
  refine wp_istore (Nat.le_of_ble_eq_true rfl) dX7_reckon_38 (ls' := [(4, xi v17), (0, xr l0), (1, xr l1), (2, xr l2), (3, xr l3)]) rfl ?_
  refine WP.at 40 rfl ?_
  refine wp_iload rfl dX7_reckon_40 ?_
  refine WP.at 42 rfl ?_
  refine wp_if_ne 52 (by decide) dX7_reckon_42 (fun c18 => ?_) (fun c18 => ?_)
  · replace H := H.1 c18
    exact WP.pick [1, 2, 0] rfl (t_Se_reckon_j52 l0 l1 v17 _ _ H)
  · replace H := H.2 c18
    refine wp_aload_n 0 rfl rfl dX7_reckon_45 ?_
    refine wp_aload_n 1 rfl rfl dX7_reckon_46 ?_
    refine wp_aload_n 2 rfl rfl dX7_reckon_47 ?_
    refine wp_aload_n 3 rfl rfl dX7_reckon_48 ?_
    refine WP.at 49 rfl ?_
    refine wp_cVv (M2 := M_Se_findTakers) coX7 l0 q1 [xr l1, xr l2, xr l3] rfl lv_X7_48 mo_Se_findTakers (Nat.le_of_ble_eq_true rfl) ⟨(Nat.le_of_ble_eq_true rfl), (Nat.le_of_ble_eq_true rfl)⟩ (Nat.le_of_ble_eq_true rfl) (Nat.le_of_ble_eq_true rfl) dX7_reckon_49 (t_Se_findTakers l0 l1 l2 l3 _ _ H) (fun h48 H => ?_)
    refine WP.at 52 rfl ?_
    exact WP.pick [1, 2, 0] rfl (t_Se_reckon_j52 l0 l1 v17 _ _ H)
