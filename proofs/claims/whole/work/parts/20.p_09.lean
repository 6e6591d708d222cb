def p_M_change_j38 (s0 : Int32) (l0 : xN) (l1 : Int32) (l2 : Int32) (l3 : Int32) (l4 : Int32) (h : xH) (Q : Int32 → xH → Prop) : Prop := ((s0 ≤ 0 → (kd l0.1 = (1, 10)) ∧ (kd (hR h l0 57).1 = (2, 0)) ∧ (vp_in (((8 : Int32) * (((12 : Int32) * l1) + l2)) + l4) (hS h (hR h l0 57) - 1)) ∧ ∀ v14 : Int32, v14 = hI h (hR h l0 57) (((8 : Int32) * (((12 : Int32) * l1) + l2)) + l4).toNatClampNeg → ((¬ v14 = 0 → (vp_in (((8 : Int32) * (((12 : Int32) * l1) + l2)) + l3) (hS h (hR h l0 57) - 1)) ∧ (¬ v14 = 0) ∧ Q ((hI h (hR h l0 57) (((8 : Int32) * (((12 : Int32) * l1) + l2)) + l3).toNatClampNeg) / v14) h) ∧ (v14 = 0 → p_M_none l0 (6 : Int32) h (fun (v20 : Int32) (h19 : xH) => Q v20 h19)))) ∧ (¬ s0 ≤ 0 → (kd l0.1 = (1, 10)) ∧ p_M_none l0 s0 h (fun (v23 : Int32) (h22 : xH) => Q v23 h22)))
set_option maxRecDepth 100000 in
set_option maxHeartbeats 4000000 in
theorem t_M_change_j38 (s0 : Int32) (l0 : xN) (l1 : Int32) (l2 : Int32) (l3 : Int32) (l4 : Int32) (h : xH) (Q : Int32 → xH → Prop) (H : p_M_change_j38 s0 l0 l1 l2 l3 l4 h Q) : WP M_M_change 38 [(0, xr l0), (1, xi l1), (2, xi l2), (3, xi l3), (4, xi l4)] [xi s0] h 0 (qi Q) := by
  unfold p_M_change_j38 at H
  refine wp_istore (Nat.le_of_ble_eq_true rfl) dX11_change_38 (ls' := [(5, xi s0), (0, xr l0), (1, xi l1), (2, xi l2), (3, xi l3), (4, xi l4)]) rfl ?_
  refine wp_iload rfl dX11_change_40 ?_
  refine WP.at 42 rfl ?_
  refine wp_if_le 52 (by decide) dX11_change_42 (fun c10 => ?_) (fun c10 => ?_)
  · replace H := H.1 c10
    refine wp_aload_n 0 rfl rfl dX11_change_52 ?_
    obtain ⟨q11, H⟩ := H
    refine wp_getr coX11 57 (Nat.le_of_ble_eq_true rfl) fl_X11_140 rfl q11 dX11_change_53 ?_
    refine wp_bipush (8 : Int32) (by decide) dX11_change_56 ?_
    refine wp_bipush (12 : Int32) (by decide) dX11_change_58 ?_
    refine wp_iload_n 1 rfl rfl dX11_change_60 ?_
    refine wp_imul dX11_change_61 ?_
    refine wp_iload_n 2 rfl rfl dX11_change_62 ?_
    refine WP.at 63 rfl ?_
    refine wp_iadd dX11_change_63 ?_
    refine wp_imul dX11_change_64 ?_
    refine wp_iload rfl dX11_change_65 ?_
    refine wp_iadd dX11_change_67 ?_
    obtain ⟨q12, H⟩ := H
    obtain ⟨q13, H⟩ := H
    refine wp_iaload q12 q13 dX11_change_68 ?_
    refine wp_nm (fun v14 e15 => ?_)
    replace H := H v14 e15
    refine wp_istore (Nat.le_of_ble_eq_true rfl) dX11_change_69 (ls' := [(6, xi v14), (5, xi s0), (0, xr l0), (1, xi l1), (2, xi l2), (3, xi l3), (4, xi l4)]) rfl ?_
    refine wp_iload rfl dX11_change_71 ?_
    refine WP.at 73 rfl ?_
    refine wp_if_ne 85 (by decide) dX11_change_73 (fun c16 => ?_) (fun c16 => ?_)
    · replace H := H.1 c16
      refine wp_aload_n 0 rfl rfl dX11_change_85 ?_
      refine wp_getr coX11 57 (Nat.le_of_ble_eq_true rfl) fl_X11_140 rfl q11 dX11_change_86 ?_
      refine wp_bipush (8 : Int32) (by decide) dX11_change_89 ?_
      refine wp_bipush (12 : Int32) (by decide) dX11_change_91 ?_
      refine wp_iload_n 1 rfl rfl dX11_change_93 ?_
      refine wp_imul dX11_change_94 ?_
      refine wp_iload_n 2 rfl rfl dX11_change_95 ?_
      refine WP.at 96 rfl ?_
      refine wp_iadd dX11_change_96 ?_
      refine wp_imul dX11_change_97 ?_
      refine wp_iload_n 3 rfl rfl dX11_change_98 ?_
      refine wp_iadd dX11_change_99 ?_
      obtain ⟨q17, H⟩ := H
      refine wp_iaload q12 q17 dX11_change_100 ?_
      refine wp_iload rfl dX11_change_101 ?_
      obtain ⟨q18, H⟩ := H
      refine wp_idiv q18 dX11_change_103 ?_
      exact wp_iret trivial dX11_change_104 H
    · replace H := H.2 c16
      refine wp_aload_n 0 rfl rfl dX11_change_76 ?_
      refine wp_bipush (6 : Int32) (by decide) dX11_change_77 ?_
      refine WP.at 79 rfl ?_
      refine wp_cVi (M2 := M_M_none) coX11 l0 q11 [xi (6 : Int32)] rfl lv_X11_344 mo_M_none (Nat.le_of_ble_eq_true rfl) ⟨(Nat.le_of_ble_eq_true rfl), (Nat.le_of_ble_eq_true rfl)⟩ (Nat.le_of_ble_eq_true rfl) (Nat.le_of_ble_eq_true rfl) dX11_change_79 (t_M_none l0 (6 : Int32) _ _ H) (fun v20 h19 H => ?_)
      refine WP.at 82 rfl ?_
      refine wp_goto 104 (by decide) dX11_change_82 ?_
      exact wp_iret trivial dX11_change_104 H
  · replace H := H.2 c10
    refine wp_aload_n 0 rfl rfl dX11_change_45 ?_
    refine wp_iload rfl dX11_change_46 ?_
    refine WP.at 48 rfl ?_
    obtain ⟨q21, H⟩ := H
    refine wp_cVi (M2 := M_M_none) coX11 l0 q21 [xi s0] rfl lv_X11_344 mo_M_none (Nat.le_of_ble_eq_true rfl) ⟨(Nat.le_of_ble_eq_true rfl), (Nat.le_of_ble_eq_true rfl)⟩ (Nat.le_of_ble_eq_true rfl) (Nat.le_of_ble_eq_true rfl) dX11_change_48 (t_M_none l0 s0 _ _ H) (fun v23 h22 H => ?_)
    exact wp_iret trivial dX11_change_51 H
def p_M_change (l0 : xN) (l1 : Int32) (l2 : Int32) (l3 : Int32) (l4 : Int32) (h : xH) (Q : Int32 → xH → Prop) : Prop := p_M_isWindow l1 h (fun (v2 : Int32) (h1 : xH) => ((¬ v2 = 0 → (kd l0.1 = (1, 10)) ∧ p_M_lacksItem l0 l1 l2 (3 : Int32) l3 h1 (fun (v6 : Int32) (h5 : xH) => ((v6 ≤ 0 → p_M_lacksItem l0 l1 l2 (3 : Int32) l4 h5 (fun (v9 : Int32) (h8 : xH) => p_M_change_j38 v9 l0 l1 l2 l3 l4 h8 Q)) ∧ (¬ v6 ≤ 0 → p_M_change_j38 v6 l0 l1 l2 l3 l4 h5 Q)))) ∧ (v2 = 0 → Q (0 : Int32) h1)))
set_option maxRecDepth 100000 in
set_option maxHeartbeats 4000000 in
theorem t_M_change (l0 : xN) (l1 : Int32) (l2 : Int32) (l3 : Int32) (l4 : Int32) (h : xH) (Q : Int32 → xH → Prop) (H : p_M_change l0 l1 l2 l3 l4 h Q) : WP M_M_change 0 [(0, xr l0), (1, xi l1), (2, xi l2), (3, xi l3), (4, xi l4)] [] h 0 (qi Q) := by
  unfold p_M_change at H
  refine wp_iload_n 1 rfl rfl dX11_change_0 ?_
  refine WP.at 1 rfl ?_
  refine wp_cSi (M2 := M_M_isWindow) [xi l1] rfl ls_X11_326 mo_M_isWindow (Nat.le_of_ble_eq_true rfl) ⟨(Nat.le_of_ble_eq_true rfl), (Nat.le_of_ble_eq_true rfl)⟩ (Nat.le_of_ble_eq_true rfl) (Nat.le_of_ble_eq_true rfl) dX11_change_1 (t_M_isWindow l1 _ _ H) (fun v2 h1 H => ?_)
  refine WP.at 4 rfl ?_
  refine wp_if_ne 9 (by decide) dX11_change_4 (fun c3 => ?_) (fun c3 => ?_)
  · replace H := H.1 c3
    refine wp_aload_n 0 rfl rfl dX11_change_9 ?_
    refine wp_iload_n 1 rfl rfl dX11_change_10 ?_
    refine wp_iload_n 2 rfl rfl dX11_change_11 ?_
    refine wp_iconst (3 : Int32) (by decide) dX11_change_12 ?_
    refine wp_iload_n 3 rfl rfl dX11_change_13 ?_
    refine WP.at 14 rfl ?_
    obtain ⟨q4, H⟩ := H
    refine wp_cVi (M2 := M_M_lacksItem) coX11 l0 q4 [xi l1, xi l2, xi (3 : Int32), xi l3] rfl lv_X11_341 mo_M_lacksItem (Nat.le_of_ble_eq_true rfl) ⟨(Nat.le_of_ble_eq_true rfl), (Nat.le_of_ble_eq_true rfl)⟩ (Nat.le_of_ble_eq_true rfl) (Nat.le_of_ble_eq_true rfl) dX11_change_14 (t_M_lacksItem l0 l1 l2 (3 : Int32) l3 _ _ H) (fun v6 h5 H => ?_)
    refine wp_istore (Nat.le_of_ble_eq_true rfl) dX11_change_17 (ls' := [(5, xi v6), (0, xr l0), (1, xi l1), (2, xi l2), (3, xi l3), (4, xi l4)]) rfl ?_
    refine WP.at 19 rfl ?_
    refine wp_iload rfl dX11_change_19 ?_
    refine WP.at 21 rfl ?_
    refine wp_if_le 29 (by decide) dX11_change_21 (fun c7 => ?_) (fun c7 => ?_)
    · replace H := H.1 c7
      refine wp_aload_n 0 rfl rfl dX11_change_29 ?_
      refine wp_iload_n 1 rfl rfl dX11_change_30 ?_
      refine wp_iload_n 2 rfl rfl dX11_change_31 ?_
      refine wp_iconst (3 : Int32) (by decide) dX11_change_32 ?_
      refine wp_iload rfl dX11_change_33 ?_
      refine WP.at 35 rfl ?_
      refine wp_cVi (M2 := M_M_lacksItem) coX11 l0 q4 [xi l1, xi l2, xi (3 : Int32), xi l4] rfl lv_X11_341 mo_M_lacksItem (Nat.le_of_ble_eq_true rfl) ⟨(Nat.le_of_ble_eq_true rfl), (Nat.le_of_ble_eq_true rfl)⟩ (Nat.le_of_ble_eq_true rfl) (Nat.le_of_ble_eq_true rfl) dX11_change_35 (t_M_lacksItem l0 l1 l2 (3 : Int32) l4 _ _ H) (fun v9 h8 H => ?_)
      refine WP.at 38 rfl ?_
      exact WP.pick [1, 2, 3, 4, 5] rfl (t_M_change_j38 v9 l0 l1 l2 l3 l4 _ _ H)
    · replace H := H.2 c7
      refine wp_iload rfl dX11_change_24 ?_
      refine WP.at 26 rfl ?_
      refine wp_goto 38 (by decide) dX11_change_26 ?_
      exact WP.pick [1, 2, 3, 4, 5] rfl (t_M_change_j38 v6 l0 l1 l2 l3 l4 _ _ H)
  · replace H := H.2 c3
    refine wp_iconst (0 : Int32) (by decide) dX11_change_7 ?_
    exact wp_iret trivial dX11_change_8 H
def p_T_isSatchel (l0 : Int32) (h : xH) (Q : Int32 → xH → Prop) : Prop := ((l0 < 0 → Q (0 : Int32) h) ∧ (¬ l0 < 0 → (((4 : Int32) ≤ l0 → Q (0 : Int32) h) ∧ (¬ (4 : Int32) ≤ l0 → Q (1 : Int32) h))))
set_option maxRecDepth 100000 in
set_option maxHeartbeats 4000000 in
theorem t_T_isSatchel (l0 : Int32) (h : xH) (Q : Int32 → xH → Prop) (H : p_T_isSatchel l0 h Q) : WP M_T_isSatchel 0 [(0, xi l0)] [] h 0 (qi Q) := by
  unfold p_T_isSatchel at H
  refine wp_iload_n 0 rfl rfl dX10_isSatchel_0 ?_
  refine WP.at 1 rfl ?_
  refine wp_if_lt 13 (by decide) dX10_isSatchel_1 (fun c1 => ?_) (fun c1 => ?_)
  · replace H := H.1 c1
    refine wp_iconst (0 : Int32) (by decide) dX10_isSatchel_13 ?_
    exact wp_iret (Or.inl rfl) dX10_isSatchel_14 H
  · replace H := H.2 c1
    refine wp_iload_n 0 rfl rfl dX10_isSatchel_4 ?_
    refine wp_iconst (4 : Int32) (by decide) dX10_isSatchel_5 ?_
    refine WP.at 6 rfl ?_
    refine wp_icmp_ge 13 (by decide) dX10_isSatchel_6 (fun c2 => ?_) (fun c2 => ?_)
    · replace H := H.1 c2
      refine wp_iconst (0 : Int32) (by decide) dX10_isSatchel_13 ?_
      exact wp_iret (Or.inl rfl) dX10_isSatchel_14 H
    · replace H := H.2 c2
      refine wp_iconst (1 : Int32) (by decide) dX10_isSatchel_9 ?_
      refine WP.at 10 rfl ?_
      refine wp_goto 14 (by decide) dX10_isSatchel_10 ?_
      exact wp_iret (Or.inr rfl) dX10_isSatchel_14 H
def p_Sa_begin (l0 : xN) (l1 : Int32) (l2 : Int32) (h : xH) (Q : xH → Prop) : Prop := (kd l0.1 = (1, 5)) ∧ ∀ h2 : xH, h2 = sI h l0 1 l1 → ∀ h4 : xH, h4 = sI h2 l0 2 l2 → p_Ja_fill (hR h4 l0 0) (-1 : Int32) h4 (fun h6 : xH => Q h6)
set_option maxRecDepth 100000 in
set_option maxHeartbeats 4000000 in
theorem t_Sa_begin (l0 : xN) (l1 : Int32) (l2 : Int32) (h : xH) (Q : xH → Prop) (H : p_Sa_begin l0 l1 l2 h Q) : WP M_Sa_begin 0 [(0, xr l0), (1, xi l1), (2, xi l2)] [] h 0 (qv Q) := by
  unfold p_Sa_begin at H
  refine wp_aload_n 0 rfl rfl dX6_begin_0 ?_
  refine wp_iload_n 1 rfl rfl dX6_begin_1 ?_
  obtain ⟨q1, H⟩ := H
  refine wp_puti coX6 1 (Nat.le_of_ble_eq_true rfl) fl_X6_19 rfl rfl ⟨rfl, rfl⟩ q1 dX6_begin_2 ?_
  refine wp_nh (fun h2 e3 => ?_)
  replace H := H h2 e3
  refine wp_aload_n 0 rfl rfl dX6_begin_5 ?_
  refine wp_iload_n 2 rfl rfl dX6_begin_6 ?_
  refine wp_puti coX6 2 (Nat.le_of_ble_eq_true rfl) fl_X6_15 rfl rfl ⟨rfl, rfl⟩ q1 dX6_begin_7 ?_
  refine wp_nh (fun h4 e5 => ?_)
  replace H := H h4 e5
  refine wp_aload_n 0 rfl rfl dX6_begin_10 ?_
  refine WP.at 11 rfl ?_
  refine wp_getr coX6 0 (Nat.le_of_ble_eq_true rfl) fl_X6_9 rfl q1 dX6_begin_11 ?_
  refine wp_iconst (-1 : Int32) (by decide) dX6_begin_14 ?_
  refine WP.at 15 rfl ?_
  refine wp_cSv (M2 := M_Ja_fill) [xr (hR h4 l0 0), xi (-1 : Int32)] rfl ls_X6_22 mo_Ja_fill (Nat.le_of_ble_eq_true rfl) ⟨(Nat.le_of_ble_eq_true rfl), (Nat.le_of_ble_eq_true rfl)⟩ (Nat.le_of_ble_eq_true rfl) (Nat.le_of_ble_eq_true rfl) dX6_begin_15 (t_Ja_fill (hR h4 l0 0) (-1 : Int32) _ _ H) (fun h6 H => ?_)
  exact wp_vret trivial dX6_begin_18 H
def p_T_satchel (l0 : xN) (l1 : Int32) (l2 : Int32) (l3 : Int32) (h : xH) (Q : Int32 → xH → Prop) : Prop := p_T_isSatchel l1 h (fun (v2 : Int32) (h1 : xH) => ((¬ v2 = 0 → ((l2 < 0 → Q (-3 : Int32) h1) ∧ (¬ l2 < 0 → (((5 : Int32) < l2 → Q (-3 : Int32) h1) ∧ (¬ (5 : Int32) < l2 → ((l3 ≤ (10 : Int32) → ((0 ≤ l3 → (kd l0.1 = (1, 9)) ∧ (kd (hR h1 l0 4).1 = (5, 5)) ∧ (vp_in l1 (hS h1 (hR h1 l0 4) - 1)) ∧ (kd (hR h1 (hR h1 l0 4) l1.toNatClampNeg).1 = (1, 5)) ∧ p_Sa_begin (hR h1 (hR h1 l0 4) l1.toNatClampNeg) l2 l3 h1 (fun h12 : xH => Q l3 h12)) ∧ (¬ 0 ≤ l3 → (kd l0.1 = (1, 9)) ∧ p_T_found l0 (5 : Int32) h1 (fun (v15 : Int32) (h14 : xH) => Q v15 h14)))) ∧ (¬ l3 ≤ (10 : Int32) → Q (-3 : Int32) h1))))))) ∧ (v2 = 0 → Q (-2 : Int32) h1)))
set_option maxRecDepth 100000 in
set_option maxHeartbeats 4000000 in
theorem t_T_satchel (l0 : xN) (l1 : Int32) (l2 : Int32) (l3 : Int32) (h : xH) (Q : Int32 → xH → Prop) (H : p_T_satchel l0 l1 l2 l3 h Q) : WP M_T_satchel 0 [(0, xr l0), (1, xi l1), (2, xi l2), (3, xi l3)] [] h 0 (qi Q) := by
  unfold p_T_satchel at H
  refine wp_iload_n 1 rfl rfl dX10_satchel_0 ?_
  refine WP.at 1 rfl ?_
  refine wp_cSi (M2 := M_T_isSatchel) [xi l1] rfl ls_X10_324 mo_T_isSatchel (Nat.le_of_ble_eq_true rfl) ⟨(Nat.le_of_ble_eq_true rfl), (Nat.le_of_ble_eq_true rfl)⟩ (Nat.le_of_ble_eq_true rfl) (Nat.le_of_ble_eq_true rfl) dX10_satchel_1 (t_T_isSatchel l1 _ _ H) (fun v2 h1 H => ?_)
  refine WP.at 4 rfl ?_
  refine wp_if_ne 10 (by decide) dX10_satchel_4 (fun c3 => ?_) (fun c3 => ?_)
  · replace H := H.1 c3
    refine wp_iload_n 2 rfl rfl dX10_satchel_10 ?_
    refine WP.at 11 rfl ?_
    refine wp_if_lt 25 (by decide) dX10_satchel_11 (fun c4 => ?_) (fun c4 => ?_)
    · replace H := H.1 c4
      refine wp_bipush (-3 : Int32) (by decide) dX10_satchel_25 ?_
      exact wp_iret trivial dX10_satchel_27 H
    · replace H := H.2 c4
      refine wp_iload_n 2 rfl rfl dX10_satchel_14 ?_
      refine wp_iconst (5 : Int32) (by decide) dX10_satchel_15 ?_
      refine WP.at 16 rfl ?_
      refine wp_icmp_gt 25 (by decide) dX10_satchel_16 (fun c5 => ?_) (fun c5 => ?_)
      · replace H := H.1 c5
        refine wp_bipush (-3 : Int32) (by decide) dX10_satchel_25 ?_
        exact wp_iret trivial dX10_satchel_27 H
      · replace H := H.2 c5
        refine wp_iload_n 3 rfl rfl dX10_satchel_19 ?_
        refine wp_bipush (10 : Int32) (by decide) dX10_satchel_20 ?_
        refine WP.at 22 rfl ?_
        refine wp_icmp_le 28 (by decide) dX10_satchel_22 (fun c6 => ?_) (fun c6 => ?_)
        · replace H := H.1 c6
          refine wp_iload_n 3 rfl rfl dX10_satchel_28 ?_
          refine WP.at 29 rfl ?_
          refine wp_if_ge 38 (by decide) dX10_satchel_29 (fun c7 => ?_) (fun c7 => ?_)
          · replace H := H.1 c7
            refine wp_aload_n 0 rfl rfl dX10_satchel_38 ?_
            obtain ⟨q8, H⟩ := H
            refine wp_getr coX10 4 (Nat.le_of_ble_eq_true rfl) fl_X10_35 rfl q8 dX10_satchel_39 ?_
            refine wp_iload_n 1 rfl rfl dX10_satchel_42 ?_
            obtain ⟨q9, H⟩ := H
            obtain ⟨q10, H⟩ := H
            refine wp_aaload q9 q10 dX10_satchel_43 ?_
            refine wp_iload_n 2 rfl rfl dX10_satchel_44 ?_
            refine wp_iload_n 3 rfl rfl dX10_satchel_45 ?_
            refine WP.at 46 rfl ?_
            obtain ⟨q11, H⟩ := H
            refine wp_cVv (M2 := M_Sa_begin) coX6 (hR h1 (hR h1 l0 4) l1.toNatClampNeg) q11 [xi l2, xi l3] rfl lv_X10_327 mo_Sa_begin (Nat.le_of_ble_eq_true rfl) ⟨(Nat.le_of_ble_eq_true rfl), (Nat.le_of_ble_eq_true rfl)⟩ (Nat.le_of_ble_eq_true rfl) (Nat.le_of_ble_eq_true rfl) dX10_satchel_46 (t_Sa_begin (hR h1 (hR h1 l0 4) l1.toNatClampNeg) l2 l3 _ _ H) (fun h12 H => ?_)
            refine WP.at 49 rfl ?_
            refine wp_iload_n 3 rfl rfl dX10_satchel_49 ?_
            exact wp_iret trivial dX10_satchel_50 H
          · replace H := H.2 c7
            refine wp_aload_n 0 rfl rfl dX10_satchel_32 ?_
            refine wp_iconst (5 : Int32) (by decide) dX10_satchel_33 ?_
            refine WP.at 34 rfl ?_
            obtain ⟨q13, H⟩ := H
            refine wp_cVi (M2 := M_T_found) coX10 l0 q13 [xi (5 : Int32)] rfl lv_X10_272 mo_T_found (Nat.le_of_ble_eq_true rfl) ⟨(Nat.le_of_ble_eq_true rfl), (Nat.le_of_ble_eq_true rfl)⟩ (Nat.le_of_ble_eq_true rfl) (Nat.le_of_ble_eq_true rfl) dX10_satchel_34 (t_T_found l0 (5 : Int32) _ _ H) (fun v15 h14 H => ?_)
            exact wp_iret trivial dX10_satchel_37 H
        · replace H := H.2 c6
          refine wp_bipush (-3 : Int32) (by decide) dX10_satchel_25 ?_
          exact wp_iret trivial dX10_satchel_27 H
  · replace H := H.2 c3
    refine wp_bipush (-2 : Int32) (by decide) dX10_satchel_7 ?_
    exact wp_iret trivial dX10_satchel_9 H
def p_M_isSatchel (l0 : Int32) (h : xH) (Q : Int32 → xH → Prop) : Prop := p_M_in l0 (0 : Int32) (3 : Int32) h (fun (v2 : Int32) (h1 : xH) => (v2 = 0 ∨ v2 = 1) ∧ Q v2 h1)
set_option maxRecDepth 100000 in
set_option maxHeartbeats 4000000 in
theorem t_M_isSatchel (l0 : Int32) (h : xH) (Q : Int32 → xH → Prop) (H : p_M_isSatchel l0 h Q) : WP M_M_isSatchel 0 [(0, xi l0)] [] h 0 (qi Q) := by
  unfold p_M_isSatchel at H
  refine wp_iload_n 0 rfl rfl dX11_isSatchel_0 ?_
  refine wp_iconst (0 : Int32) (by decide) dX11_isSatchel_1 ?_
  refine wp_iconst (3 : Int32) (by decide) dX11_isSatchel_2 ?_
  refine WP.at 3 rfl ?_
  refine wp_cSi (M2 := M_M_in) [xi l0, xi (0 : Int32), xi (3 : Int32)] rfl ls_X11_172 mo_M_in (Nat.le_of_ble_eq_true rfl) ⟨(Nat.le_of_ble_eq_true rfl), (Nat.le_of_ble_eq_true rfl)⟩ (Nat.le_of_ble_eq_true rfl) (Nat.le_of_ble_eq_true rfl) dX11_isSatchel_3 (t_M_in l0 (0 : Int32) (3 : Int32) _ _ H) (fun v2 h1 H => ?_)
  obtain ⟨q3, H⟩ := H
  exact wp_iret q3 dX11_isSatchel_6 H
def p_M_satchel_L62 (l0 : xN) (l1 : Int32) (l3 : Int32) (K62_88 : xH → Prop) (Q : Int32 → xH → Prop) : Nat → Int32 → xH → Prop
  | 0, _, _ => False
  | f + 1, l4, h => (((10 : Int32) ≤ l4 → K62_88 h) ∧ (¬ (10 : Int32) ≤ l4 → (kd l0.1 = (1, 10)) ∧ (kd (hR h l0 61).1 = (2, 0)) ∧ (vp_in (((10 : Int32) * l1) + l4) (hS h (hR h l0 61) - 1)) ∧ ∀ h26 : xH, h26 = sI h (hR h l0 61) (((10 : Int32) * l1) + l4).toNatClampNeg (-1 : Int32) → ∀ v28 : Int32, v28 = l4 + (1 : Int32) → (p_M_satchel_L62 l0 l1 l3 K62_88 Q f) v28 h26))
set_option maxRecDepth 100000 in
set_option maxHeartbeats 4000000 in
theorem t_M_satchel_L62 (l0 : xN) (l1 : Int32) (l3 : Int32) (K62_88 : xH → Prop) (Q : Int32 → xH → Prop) (hK62_88 : ∀ (h : xH), K62_88 h → WP M_M_satchel 88 [(3, xi l3)] [] h 0 (qi Q)) : ∀ (f : Nat) (l4 : Int32) (h : xH), p_M_satchel_L62 l0 l1 l3 K62_88 Q f l4 h → WP M_M_satchel 62 [(0, xr l0), (1, xi l1), (3, xi l3), (4, xi l4)] [] h 0 (qi Q) := by
  intro f
  induction f with
  | zero => exact fun _ _ H => H.elim
  | succ f hB62 =>
    intro l4 h H
    unfold p_M_satchel_L62 at H
    refine wp_iload rfl dX11_satchel_62 ?_
    refine wp_bipush (10 : Int32) (by decide) dX11_satchel_64 ?_
    refine WP.at 66 rfl ?_
    refine wp_icmp_ge 88 (by decide) dX11_satchel_66 (fun c22 => ?_) (fun c22 => ?_)
    · replace H := H.1 c22
      exact WP.pick [2] rfl (hK62_88 _ H)
    · replace H := H.2 c22
      refine wp_aload_n 0 rfl rfl dX11_satchel_69 ?_
      obtain ⟨q23, H⟩ := H
      refine wp_getr coX11 61 (Nat.le_of_ble_eq_true rfl) fl_X11_152 rfl q23 dX11_satchel_70 ?_
      refine wp_bipush (10 : Int32) (by decide) dX11_satchel_73 ?_
      refine wp_iload_n 1 rfl rfl dX11_satchel_75 ?_
      refine wp_imul dX11_satchel_76 ?_
      refine wp_iload rfl dX11_satchel_77 ?_
      refine wp_iadd dX11_satchel_79 ?_
      refine WP.at 80 rfl ?_
      refine wp_iconst (-1 : Int32) (by decide) dX11_satchel_80 ?_
      obtain ⟨q24, H⟩ := H
      obtain ⟨q25, H⟩ := H
      refine wp_iastore q24 q25 dX11_satchel_81 ?_
      refine wp_nh (fun h26 e27 => ?_)
      replace H := H h26 e27
      refine wp_iincN (1 : Int32) (by decide) rfl (Nat.le_of_ble_eq_true rfl) dX11_satchel_82 (ls' := fun v28 => [(4, xi v28), (0, xr l0), (1, xi l1), (3, xi l3)]) (fun _ => rfl) (fun v28 e29 => ?_)
      replace H := H v28 e29
      refine WP.at 85 rfl ?_
      refine wp_goto 62 (by decide) dX11_satchel_85 ?_
      exact WP.pick [1, 2, 3, 0] rfl (hB62 v28 _ H)
def p_M_satchel (l0 : xN) (l1 : Int32) (l2 : Int32) (l3 : Int32) (h : xH) (Q : Int32 → xH → Prop) : Prop := p_M_isSatchel l1 h (fun (v2 : Int32) (h1 : xH) => ((¬ v2 = 0 → p_M_in l2 (0 : Int32) (5 : Int32) h1 (fun (v5 : Int32) (h4 : xH) => ((v5 = 0 → Q (-3 : Int32) h4) ∧ (¬ v5 = 0 → ((l3 ≤ (10 : Int32) → ((0 ≤ l3 → (kd l0.1 = (1, 10)) ∧ (kd (hR h4 l0 58).1 = (3, 0)) ∧ (vp_in l1 (hS h4 (hR h4 l0 58) - 1)) ∧ ∀ h12 : xH, h12 = sI h4 (hR h4 l0 58) l1.toNatClampNeg (1 : Int32) → (kd (hR h12 l0 59).1 = (2, 0)) ∧ (vp_in l1 (hS h12 (hR h12 l0 59) - 1)) ∧ ∀ h16 : xH, h16 = sI h12 (hR h12 l0 59) l1.toNatClampNeg l2 → (kd (hR h16 l0 60).1 = (2, 0)) ∧ (vp_in l1 (hS h16 (hR h16 l0 60) - 1)) ∧ ∀ h20 : xH, h20 = sI h16 (hR h16 l0 60) l1.toNatClampNeg l3 → (∃ f31, p_M_satchel_L62 l0 l1 l3 (fun (h30 : xH) => Q l3 h30) Q f31 (0 : Int32) h20)) ∧ (¬ 0 ≤ l3 → (kd l0.1 = (1, 10)) ∧ p_M_meets l0 (5 : Int32) h4 (fun (v34 : Int32) (h33 : xH) => Q v34 h33)))) ∧ (¬ l3 ≤ (10 : Int32) → Q (-3 : Int32) h4)))))) ∧ (v2 = 0 → Q (-2 : Int32) h1)))
set_option maxRecDepth 100000 in
set_option maxHeartbeats 4000000 in
theorem t_M_satchel (l0 : xN) (l1 : Int32) (l2 : Int32) (l3 : Int32) (h : xH) (Q : Int32 → xH → Prop) (H : p_M_satchel l0 l1 l2 l3 h Q) : WP M_M_satchel 0 [(0, xr l0), (1, xi l1), (2, xi l2), (3, xi l3)] [] h 0 (qi Q) := by
  unfold p_M_satchel at H
  refine wp_iload_n 1 rfl rfl dX11_satchel_0 ?_
  refine WP.at 1 rfl ?_
  refine wp_cSi (M2 := M_M_isSatchel) [xi l1] rfl ls_X11_347 mo_M_isSatchel (Nat.le_of_ble_eq_true rfl) ⟨(Nat.le_of_ble_eq_true rfl), (Nat.le_of_ble_eq_true rfl)⟩ (Nat.le_of_ble_eq_true rfl) (Nat.le_of_ble_eq_true rfl) dX11_satchel_1 (t_M_isSatchel l1 _ _ H) (fun v2 h1 H => ?_)
  refine WP.at 4 rfl ?_
  refine wp_if_ne 10 (by decide) dX11_satchel_4 (fun c3 => ?_) (fun c3 => ?_)
  · replace H := H.1 c3
    refine wp_iload_n 2 rfl rfl dX11_satchel_10 ?_
    refine wp_iconst (0 : Int32) (by decide) dX11_satchel_11 ?_
    refine wp_iconst (5 : Int32) (by decide) dX11_satchel_12 ?_
    refine WP.at 13 rfl ?_
    refine wp_cSi (M2 := M_M_in) [xi l2, xi (0 : Int32), xi (5 : Int32)] rfl ls_X11_172 mo_M_in (Nat.le_of_ble_eq_true rfl) ⟨(Nat.le_of_ble_eq_true rfl), (Nat.le_of_ble_eq_true rfl)⟩ (Nat.le_of_ble_eq_true rfl) (Nat.le_of_ble_eq_true rfl) dX11_satchel_13 (t_M_in l2 (0 : Int32) (5 : Int32) _ _ H) (fun v5 h4 H => ?_)
    refine WP.at 16 rfl ?_
    refine wp_if_eq 25 (by decide) dX11_satchel_16 (fun c6 => ?_) (fun c6 => ?_)
    · replace H := H.1 c6
      refine wp_bipush (-3 : Int32) (by decide) dX11_satchel_25 ?_
      exact wp_iret trivial dX11_satchel_27 H
    · replace H := H.2 c6
      refine wp_iload_n 3 rfl rfl dX11_satchel_19 ?_
      refine wp_bipush (10 : Int32) (by decide) dX11_satchel_20 ?_
      refine WP.at 22 rfl ?_
      refine wp_icmp_le 28 (by decide) dX11_satchel_22 (fun c7 => ?_) (fun c7 => ?_)
      · replace H := H.1 c7
        refine wp_iload_n 3 rfl rfl dX11_satchel_28 ?_
        refine WP.at 29 rfl ?_
        refine wp_if_ge 38 (by decide) dX11_satchel_29 (fun c8 => ?_) (fun c8 => ?_)
        · replace H := H.1 c8
          refine wp_aload_n 0 rfl rfl dX11_satchel_38 ?_
          obtain ⟨q9, H⟩ := H
          refine wp_getr coX11 58 (Nat.le_of_ble_eq_true rfl) fl_X11_143 rfl q9 dX11_satchel_39 ?_
          refine wp_iload_n 1 rfl rfl dX11_satchel_42 ?_
          refine wp_iconst (1 : Int32) (by decide) dX11_satchel_43 ?_
          obtain ⟨q10, H⟩ := H
          obtain ⟨q11, H⟩ := H
          refine wp_bastore (Or.inr rfl) q10 q11 dX11_satchel_44 ?_
          refine wp_nh (fun h12 e13 => ?_)
          replace H := H h12 e13
          refine wp_aload_n 0 rfl rfl dX11_satchel_45 ?_
          refine wp_getr coX11 59 (Nat.le_of_ble_eq_true rfl) fl_X11_146 rfl q9 dX11_satchel_46 ?_
          refine WP.at 49 rfl ?_
          refine wp_iload_n 1 rfl rfl dX11_satchel_49 ?_
          refine wp_iload_n 2 rfl rfl dX11_satchel_50 ?_
          obtain ⟨q14, H⟩ := H
          obtain ⟨q15, H⟩ := H
          refine wp_iastore q14 q15 dX11_satchel_51 ?_
          refine wp_nh (fun h16 e17 => ?_)
          replace H := H h16 e17
          refine wp_aload_n 0 rfl rfl dX11_satchel_52 ?_
          refine wp_getr coX11 60 (Nat.le_of_ble_eq_true rfl) fl_X11_149 rfl q9 dX11_satchel_53 ?_
          refine wp_iload_n 1 rfl rfl dX11_satchel_56 ?_
          refine wp_iload_n 3 rfl rfl dX11_satchel_57 ?_
          obtain ⟨q18, H⟩ := H
          obtain ⟨q19, H⟩ := H
          refine wp_iastore q18 q19 dX11_satchel_58 ?_
          refine wp_nh (fun h20 e21 => ?_)
          replace H := H h20 e21
          refine WP.at 59 rfl ?_
          refine wp_iconst (0 : Int32) (by decide) dX11_satchel_59 ?_
          refine wp_istore (Nat.le_of_ble_eq_true rfl) dX11_satchel_60 (ls' := [(4, xi (0 : Int32)), (0, xr l0), (1, xi l1), (2, xi l2), (3, xi l3)]) rfl ?_
          refine WP.at 62 rfl ?_
          obtain ⟨f31, H⟩ := H
          refine WP.pick [1, 2, 4, 0] rfl (t_M_satchel_L62 l0 l1 l3 _ Q ?_ f31 (0 : Int32) _ H)
          · intro h30 H
            refine wp_iload_n 3 rfl rfl dX11_satchel_88 ?_
            exact wp_iret trivial dX11_satchel_89 H
        · replace H := H.2 c8
          refine wp_aload_n 0 rfl rfl dX11_satchel_32 ?_
          refine wp_iconst (5 : Int32) (by decide) dX11_satchel_33 ?_
          refine WP.at 34 rfl ?_
          obtain ⟨q32, H⟩ := H
          refine wp_cVi (M2 := M_M_meets) coX11 l0 q32 [xi (5 : Int32)] rfl lv_X11_316 mo_M_meets (Nat.le_of_ble_eq_true rfl) ⟨(Nat.le_of_ble_eq_true rfl), (Nat.le_of_ble_eq_true rfl)⟩ (Nat.le_of_ble_eq_true rfl) (Nat.le_of_ble_eq_true rfl) dX11_satchel_34 (t_M_meets l0 (5 : Int32) _ _ H) (fun v34 h33 H => ?_)
          exact wp_iret trivial dX11_satchel_37 H
      · replace H := H.2 c7
        refine wp_bipush (-3 : Int32) (by decide) dX11_satchel_25 ?_
        exact wp_iret trivial dX11_satchel_27 H
  · replace H := H.2 c3
    refine wp_bipush (-2 : Int32) (by decide) dX11_satchel_7 ?_
    exact wp_iret trivial dX11_satchel_9 H
def p_Sl_brings (l0 : xN) (h : xH) (Q : Int32 → xH → Prop) : Prop := (kd l0.1 = (1, 7)) ∧ ((¬ (hI h l0 1) = 0 → ((¬ (hI h l0 1) = (1 : Int32) → Q (-2 : Int32) h) ∧ ((hI h l0 1) = (1 : Int32) → Q (hI h l0 2) h))) ∧ ((hI h l0 1) = 0 → Q (-1 : Int32) h))
set_option maxRecDepth 100000 in
set_option maxHeartbeats 4000000 in
theorem t_Sl_brings (l0 : xN) (h : xH) (Q : Int32 → xH → Prop) (H : p_Sl_brings l0 h Q) : WP M_Sl_brings 0 [(0, xr l0)] [] h 0 (qi Q) := by
  unfold p_Sl_brings at H
  refine wp_aload_n 0 rfl rfl dX8_brings_0 ?_
  obtain ⟨q1, H⟩ := H
  refine wp_geti coX8 1 (Nat.le_of_ble_eq_true rfl) fl_X8_15 rfl q1 dX8_brings_1 ?_
  refine WP.at 4 rfl ?_
  refine wp_if_ne 9 (by decide) dX8_brings_4 (fun c2 => ?_) (fun c2 => ?_)
  · replace H := H.1 c2
    refine wp_aload_n 0 rfl rfl dX8_brings_9 ?_
    refine wp_geti coX8 1 (Nat.le_of_ble_eq_true rfl) fl_X8_15 rfl q1 dX8_brings_10 ?_
    refine wp_iconst (1 : Int32) (by decide) dX8_brings_13 ?_
    refine WP.at 14 rfl ?_
    refine wp_icmp_ne 24 (by decide) dX8_brings_14 (fun c3 => ?_) (fun c3 => ?_)
    · replace H := H.1 c3
      refine wp_bipush (-2 : Int32) (by decide) dX8_brings_24 ?_
      exact wp_iret trivial dX8_brings_26 H
    · replace H := H.2 c3
      refine wp_aload_n 0 rfl rfl dX8_brings_17 ?_
      refine wp_geti coX8 2 (Nat.le_of_ble_eq_true rfl) fl_X8_19 rfl q1 dX8_brings_18 ?_
      refine WP.at 21 rfl ?_
      refine wp_goto 26 (by decide) dX8_brings_21 ?_
      exact wp_iret trivial dX8_brings_26 H
  · replace H := H.2 c2
    refine wp_iconst (-1 : Int32) (by decide) dX8_brings_7 ?_
    exact wp_iret trivial dX8_brings_8 H
def p_T_refusePlace_j36 (l0 : xN) (h : xH) (Q : Int32 → xH → Prop) : Prop := (kd l0.1 = (1, 9)) ∧ p_T_found l0 (2 : Int32) h (fun (v9 : Int32) (h8 : xH) => Q v9 h8)
set_option maxRecDepth 100000 in
set_option maxHeartbeats 4000000 in
theorem t_T_refusePlace_j36 (l0 : xN) (h : xH) (Q : Int32 → xH → Prop) (H : p_T_refusePlace_j36 l0 h Q) : WP M_T_refusePlace 36 [(0, xr l0)] [] h 0 (qi Q) := by
  unfold p_T_refusePlace_j36 at H
  refine wp_aload_n 0 rfl rfl dX10_refusePlace_36 ?_
  refine wp_iconst (2 : Int32) (by decide) dX10_refusePlace_37 ?_
  refine WP.at 38 rfl ?_
  obtain ⟨q7, H⟩ := H
  refine wp_cVi (M2 := M_T_found) coX10 l0 q7 [xi (2 : Int32)] rfl lv_X10_272 mo_T_found (Nat.le_of_ble_eq_true rfl) ⟨(Nat.le_of_ble_eq_true rfl), (Nat.le_of_ble_eq_true rfl)⟩ (Nat.le_of_ble_eq_true rfl) (Nat.le_of_ble_eq_true rfl) dX10_refusePlace_38 (t_T_found l0 (2 : Int32) _ _ H) (fun v9 h8 H => ?_)
  refine WP.at 41 rfl ?_
  refine wp_goto 45 (by decide) dX10_refusePlace_41 ?_
  exact wp_iret trivial dX10_refusePlace_45 H
def p_T_refusePlace (l0 : xN) (l1 : Int32) (l2 : Int32) (h : xH) (Q : Int32 → xH → Prop) : Prop := (kd l0.1 = (1, 9)) ∧ (kd (hR h l0 4).1 = (5, 5)) ∧ (vp_in l1 (hS h (hR h l0 4) - 1)) ∧ (kd (hR h (hR h l0 4) l1.toNatClampNeg).1 = (1, 5)) ∧ ((¬ (hI h (hR h (hR h l0 4) l1.toNatClampNeg) 2) = (-1 : Int32) → ((l2 < 0 → p_T_refusePlace_j36 l0 h Q) ∧ (¬ l2 < 0 → (vp_in l1 (hS h (hR h l0 4) - 1)) ∧ ((l2 < (hI h (hR h (hR h l0 4) l1.toNatClampNeg) 2) → Q (0 : Int32) h) ∧ (¬ l2 < (hI h (hR h (hR h l0 4) l1.toNatClampNeg) 2) → p_T_refusePlace_j36 l0 h Q))))) ∧ ((hI h (hR h (hR h l0 4) l1.toNatClampNeg) 2) = (-1 : Int32) → p_T_found l0 (1 : Int32) h (fun (v13 : Int32) (h12 : xH) => Q v13 h12)))
set_option maxRecDepth 100000 in
set_option maxHeartbeats 4000000 in
theorem t_T_refusePlace (l0 : xN) (l1 : Int32) (l2 : Int32) (h : xH) (Q : Int32 → xH → Prop) (H : p_T_refusePlace l0 l1 l2 h Q) : WP M_T_refusePlace 0 [(0, xr l0), (1, xi l1), (2, xi l2)] [] h 0 (qi Q) := by
  unfold p_T_refusePlace at H
  refine wp_aload_n 0 rfl rfl dX10_refusePlace_0 ?_
  obtain ⟨q1, H⟩ := H
  refine wp_getr coX10 4 (Nat.le_of_ble_eq_true rfl) fl_X10_35 rfl q1 dX10_refusePlace_1 ?_
  refine wp_iload_n 1 rfl rfl dX10_refusePlace_4 ?_
  obtain ⟨q2, H⟩ := H
  obtain ⟨q3, H⟩ := H
  refine wp_aaload q2 q3 dX10_refusePlace_5 ?_
  obtain ⟨q4, H⟩ := H
  refine wp_geti coX6 2 (Nat.le_of_ble_eq_true rfl) fl_X10_339 rfl q4 dX10_refusePlace_6 ?_
  refine wp_iconst (-1 : Int32) (by decide) dX10_refusePlace_9 ?_
  refine WP.at 10 rfl ?_
  refine wp_icmp_ne 19 (by decide) dX10_refusePlace_10 (fun c5 => ?_) (fun c5 => ?_)
  · replace H := H.1 c5
    refine wp_iload_n 2 rfl rfl dX10_refusePlace_19 ?_
    refine WP.at 20 rfl ?_
    refine wp_if_lt 36 (by decide) dX10_refusePlace_20 (fun c6 => ?_) (fun c6 => ?_)
    · replace H := H.1 c6
      exact WP.pick [0] rfl (t_T_refusePlace_j36 l0 _ _ H)
    · replace H := H.2 c6
      refine wp_iload_n 2 rfl rfl dX10_refusePlace_23 ?_
      refine wp_aload_n 0 rfl rfl dX10_refusePlace_24 ?_
      refine wp_getr coX10 4 (Nat.le_of_ble_eq_true rfl) fl_X10_35 rfl q1 dX10_refusePlace_25 ?_
      refine wp_iload_n 1 rfl rfl dX10_refusePlace_28 ?_
      obtain ⟨q10, H⟩ := H
      refine wp_aaload q2 q10 dX10_refusePlace_29 ?_
      refine wp_geti coX6 2 (Nat.le_of_ble_eq_true rfl) fl_X10_339 rfl q4 dX10_refusePlace_30 ?_
      refine WP.at 33 rfl ?_
      refine wp_icmp_lt 44 (by decide) dX10_refusePlace_33 (fun c11 => ?_) (fun c11 => ?_)
      · replace H := H.1 c11
        refine wp_iconst (0 : Int32) (by decide) dX10_refusePlace_44 ?_
        exact wp_iret trivial dX10_refusePlace_45 H
      · replace H := H.2 c11
        exact WP.pick [0] rfl (t_T_refusePlace_j36 l0 _ _ H)
  · replace H := H.2 c5
    refine wp_aload_n 0 rfl rfl dX10_refusePlace_13 ?_
    refine wp_iconst (1 : Int32) (by decide) dX10_refusePlace_14 ?_
    refine WP.at 15 rfl ?_
    refine wp_cVi (M2 := M_T_found) coX10 l0 q1 [xi (1 : Int32)] rfl lv_X10_272 mo_T_found (Nat.le_of_ble_eq_true rfl) ⟨(Nat.le_of_ble_eq_true rfl), (Nat.le_of_ble_eq_true rfl)⟩ (Nat.le_of_ble_eq_true rfl) (Nat.le_of_ble_eq_true rfl) dX10_refusePlace_15 (t_T_found l0 (1 : Int32) _ _ H) (fun v13 h12 H => ?_)
    exact wp_iret trivial dX10_refusePlace_18 H
def p_Sa_takes (l0 : xN) (l1 : Int32) (h : xH) (Q : Int32 → xH → Prop) : Prop := (kd l0.1 = (1, 5)) ∧ (((hI h l0 1) = (1 : Int32) → ((l1 = 0 → Q (1 : Int32) h) ∧ (¬ l1 = 0 → ((¬ l1 = (1 : Int32) → Q (0 : Int32) h) ∧ (l1 = (1 : Int32) → Q (1 : Int32) h))))) ∧ ((hI h l0 1) = (2 : Int32) → ((l1 = (2 : Int32) → Q (1 : Int32) h) ∧ (¬ l1 = (2 : Int32) → ((¬ l1 = (3 : Int32) → Q (0 : Int32) h) ∧ (l1 = (3 : Int32) → Q (1 : Int32) h))))) ∧ ((hI h l0 1) = (3 : Int32) → ((¬ l1 = (3 : Int32) → Q (0 : Int32) h) ∧ (l1 = (3 : Int32) → Q (1 : Int32) h))) ∧ ((hI h l0 1) = (4 : Int32) → ((¬ l1 = (4 : Int32) → Q (0 : Int32) h) ∧ (l1 = (4 : Int32) → Q (1 : Int32) h))) ∧ ((hI h l0 1) = (5 : Int32) → ((¬ l1 = (1 : Int32) → Q (0 : Int32) h) ∧ (l1 = (1 : Int32) → Q (1 : Int32) h))) ∧ ((∀ q ∈ ([(1 : Int32), (2 : Int32), (3 : Int32), (4 : Int32), (5 : Int32)] : List Int32), (hI h l0 1) ≠ q) → Q (1 : Int32) h))
set_option maxRecDepth 100000 in
set_option maxHeartbeats 4000000 in
theorem t_Sa_takes (l0 : xN) (l1 : Int32) (h : xH) (Q : Int32 → xH → Prop) (H : p_Sa_takes l0 l1 h Q) : WP M_Sa_takes 0 [(0, xr l0), (1, xi l1)] [] h 0 (qi Q) := by
  unfold p_Sa_takes at H
  refine wp_aload_n 0 rfl rfl dX6_takes_0 ?_
  obtain ⟨q1, H⟩ := H
  refine wp_geti coX6 1 (Nat.le_of_ble_eq_true rfl) fl_X6_19 rfl q1 dX6_takes_1 ?_
  refine WP.at 4 rfl ?_
  refine wp_tsw dX6_takes_4 [((1 : Int32), 40), ((2 : Int32), 55), ((3 : Int32), 71), ((4 : Int32), 82), ((5 : Int32), 93)] 104 (by decide) (by decide +kernel) (by decide +kernel) ?_ ?_
  · refine List.forall_mem_cons.mpr ⟨fun c0 => ?_, List.forall_mem_cons.mpr ⟨fun c0 => ?_, List.forall_mem_cons.mpr ⟨fun c0 => ?_, List.forall_mem_cons.mpr ⟨fun c0 => ?_, List.forall_mem_cons.mpr ⟨fun c0 => ?_, fun _ z => absurd z List.not_mem_nil⟩⟩⟩⟩⟩
    · replace H := H.1 c0
      refine wp_iload_n 1 rfl rfl dX6_takes_40 ?_
      refine WP.at 41 rfl ?_
      refine wp_if_eq 49 (by decide) dX6_takes_41 (fun c2 => ?_) (fun c2 => ?_)
      · replace H := H.1 c2
        refine wp_iconst (1 : Int32) (by decide) dX6_takes_49 ?_
        refine WP.at 50 rfl ?_
        refine wp_goto 54 (by decide) dX6_takes_50 ?_
        exact wp_iret (Or.inr rfl) dX6_takes_54 H
      · replace H := H.2 c2
        refine wp_iload_n 1 rfl rfl dX6_takes_44 ?_
        refine wp_iconst (1 : Int32) (by decide) dX6_takes_45 ?_
        refine WP.at 46 rfl ?_
        refine wp_icmp_ne 53 (by decide) dX6_takes_46 (fun c3 => ?_) (fun c3 => ?_)
        · replace H := H.1 c3
          refine wp_iconst (0 : Int32) (by decide) dX6_takes_53 ?_
          exact wp_iret (Or.inl rfl) dX6_takes_54 H
        · replace H := H.2 c3
          refine wp_iconst (1 : Int32) (by decide) dX6_takes_49 ?_
          refine WP.at 50 rfl ?_
          refine wp_goto 54 (by decide) dX6_takes_50 ?_
          exact wp_iret (Or.inr rfl) dX6_takes_54 H
    · replace H := H.2.1 c0
      refine wp_iload_n 1 rfl rfl dX6_takes_55 ?_
      refine wp_iconst (2 : Int32) (by decide) dX6_takes_56 ?_
      refine WP.at 57 rfl ?_
      refine wp_icmp_eq 65 (by decide) dX6_takes_57 (fun c4 => ?_) (fun c4 => ?_)
      · replace H := H.1 c4
        refine wp_iconst (1 : Int32) (by decide) dX6_takes_65 ?_
        refine WP.at 66 rfl ?_
        refine wp_goto 70 (by decide) dX6_takes_66 ?_
        exact wp_iret (Or.inr rfl) dX6_takes_70 H
      · replace H := H.2 c4
        refine wp_iload_n 1 rfl rfl dX6_takes_60 ?_
        refine wp_iconst (3 : Int32) (by decide) dX6_takes_61 ?_
        refine WP.at 62 rfl ?_
        refine wp_icmp_ne 69 (by decide) dX6_takes_62 (fun c5 => ?_) (fun c5 => ?_)
        · replace H := H.1 c5
          refine wp_iconst (0 : Int32) (by decide) dX6_takes_69 ?_
          exact wp_iret (Or.inl rfl) dX6_takes_70 H
        · replace H := H.2 c5
          refine wp_iconst (1 : Int32) (by decide) dX6_takes_65 ?_
          refine WP.at 66 rfl ?_
          refine wp_goto 70 (by decide) dX6_takes_66 ?_
          exact wp_iret (Or.inr rfl) dX6_takes_70 H
    · replace H := H.2.2.1 c0
      refine wp_iload_n 1 rfl rfl dX6_takes_71 ?_
      refine wp_iconst (3 : Int32) (by decide) dX6_takes_72 ?_
      refine WP.at 73 rfl ?_
      refine wp_icmp_ne 80 (by decide) dX6_takes_73 (fun c6 => ?_) (fun c6 => ?_)
      · replace H := H.1 c6
        refine wp_iconst (0 : Int32) (by decide) dX6_takes_80 ?_
        exact wp_iret (Or.inl rfl) dX6_takes_81 H
      · replace H := H.2 c6
        refine wp_iconst (1 : Int32) (by decide) dX6_takes_76 ?_
        refine WP.at 77 rfl ?_
        refine wp_goto 81 (by decide) dX6_takes_77 ?_
        exact wp_iret (Or.inr rfl) dX6_takes_81 H
    · replace H := H.2.2.2.1 c0
      refine wp_iload_n 1 rfl rfl dX6_takes_82 ?_
      refine wp_iconst (4 : Int32) (by decide) dX6_takes_83 ?_
      refine WP.at 84 rfl ?_
      refine wp_icmp_ne 91 (by decide) dX6_takes_84 (fun c7 => ?_) (fun c7 => ?_)
      · replace H := H.1 c7
        refine wp_iconst (0 : Int32) (by decide) dX6_takes_91 ?_
        exact wp_iret (Or.inl rfl) dX6_takes_92 H
      · replace H := H.2 c7
        refine wp_iconst (1 : Int32) (by decide) dX6_takes_87 ?_
        refine WP.at 88 rfl ?_
        refine wp_goto 92 (by decide) dX6_takes_88 ?_
        exact wp_iret (Or.inr rfl) dX6_takes_92 H
    · replace H := H.2.2.2.2.1 c0
      refine wp_iload_n 1 rfl rfl dX6_takes_93 ?_
      refine wp_iconst (1 : Int32) (by decide) dX6_takes_94 ?_
      refine WP.at 95 rfl ?_
      refine wp_icmp_ne 102 (by decide) dX6_takes_95 (fun c8 => ?_) (fun c8 => ?_)
      · replace H := H.1 c8
        refine wp_iconst (0 : Int32) (by decide) dX6_takes_102 ?_
        exact wp_iret (Or.inl rfl) dX6_takes_103 H
      · replace H := H.2 c8
        refine wp_iconst (1 : Int32) (by decide) dX6_takes_98 ?_
        refine WP.at 99 rfl ?_
        refine wp_goto 103 (by decide) dX6_takes_99 ?_
        exact wp_iret (Or.inr rfl) dX6_takes_103 H
  · intro c0
    replace H := H.2.2.2.2.2 c0
    refine wp_iconst (1 : Int32) (by decide) dX6_takes_104 ?_
    exact wp_iret (Or.inr rfl) dX6_takes_105 H
def p_T_putIn_j58 (s0 : Int32) (l0 : xN) (l1 : Int32) (l2 : Int32) (l3 : Int32) (h : xH) (Q : Int32 → xH → Prop) : Prop := ((¬ s0 = 0 → (kd l0.1 = (1, 9)) ∧ (kd (hR h l0 4).1 = (5, 5)) ∧ (vp_in l1 (hS h (hR h l0 4) - 1)) ∧ (kd (hR h (hR h l0 4) l1.toNatClampNeg).1 = (1, 5)) ∧ (kd (hR h (hR h (hR h l0 4) l1.toNatClampNeg) 0).1 = (2, 0)) ∧ (vp_in l2 (hS h (hR h (hR h (hR h l0 4) l1.toNatClampNeg) 0) - 1)) ∧ ∀ h22 : xH, h22 = sI h (hR h (hR h (hR h l0 4) l1.toNatClampNeg) 0) l2.toNatClampNeg l3 → Q (0 : Int32) h22) ∧ (s0 = 0 → (kd l0.1 = (1, 9)) ∧ p_T_found l0 (4 : Int32) h (fun (v26 : Int32) (h25 : xH) => Q v26 h25)))
set_option maxRecDepth 100000 in
set_option maxHeartbeats 4000000 in
theorem t_T_putIn_j58 (s0 : Int32) (l0 : xN) (l1 : Int32) (l2 : Int32) (l3 : Int32) (h : xH) (Q : Int32 → xH → Prop) (H : p_T_putIn_j58 s0 l0 l1 l2 l3 h Q) : WP M_T_putIn 58 [(0, xr l0), (1, xi l1), (2, xi l2), (3, xi l3)] [xi s0] h 0 (qi Q) := by
  unfold p_T_putIn_j58 at H
  refine wp_istore (Nat.le_of_ble_eq_true rfl) dX10_putIn_58 (ls' := [(6, xi s0), (0, xr l0), (1, xi l1), (2, xi l2), (3, xi l3)]) rfl ?_
  refine wp_iload rfl dX10_putIn_60 ?_
  refine WP.at 62 rfl ?_
  refine wp_if_ne 71 (by decide) dX10_putIn_62 (fun c15 => ?_) (fun c15 => ?_)
  · replace H := H.1 c15
    refine wp_aload_n 0 rfl rfl dX10_putIn_71 ?_
    obtain ⟨q16, H⟩ := H
    refine wp_getr coX10 4 (Nat.le_of_ble_eq_true rfl) fl_X10_35 rfl q16 dX10_putIn_72 ?_
    refine wp_iload_n 1 rfl rfl dX10_putIn_75 ?_
    obtain ⟨q17, H⟩ := H
    obtain ⟨q18, H⟩ := H
    refine wp_aaload q17 q18 dX10_putIn_76 ?_
    obtain ⟨q19, H⟩ := H
    refine wp_getr coX6 0 (Nat.le_of_ble_eq_true rfl) fl_X10_340 rfl q19 dX10_putIn_77 ?_
    refine wp_iload_n 2 rfl rfl dX10_putIn_80 ?_
    refine wp_iload_n 3 rfl rfl dX10_putIn_81 ?_
    refine WP.at 82 rfl ?_
    obtain ⟨q20, H⟩ := H
    obtain ⟨q21, H⟩ := H
    refine wp_iastore q20 q21 dX10_putIn_82 ?_
    refine wp_nh (fun h22 e23 => ?_)
    replace H := H h22 e23
    refine wp_iconst (0 : Int32) (by decide) dX10_putIn_83 ?_
    exact wp_iret trivial dX10_putIn_84 H
  · replace H := H.2 c15
    refine wp_aload_n 0 rfl rfl dX10_putIn_65 ?_
    refine wp_iconst (4 : Int32) (by decide) dX10_putIn_66 ?_
    refine WP.at 67 rfl ?_
    obtain ⟨q24, H⟩ := H
    refine wp_cVi (M2 := M_T_found) coX10 l0 q24 [xi (4 : Int32)] rfl lv_X10_272 mo_T_found (Nat.le_of_ble_eq_true rfl) ⟨(Nat.le_of_ble_eq_true rfl), (Nat.le_of_ble_eq_true rfl)⟩ (Nat.le_of_ble_eq_true rfl) (Nat.le_of_ble_eq_true rfl) dX10_putIn_67 (t_T_found l0 (4 : Int32) _ _ H) (fun v26 h25 H => ?_)
    exact wp_iret trivial dX10_putIn_70 H
def p_T_putIn (l0 : xN) (l1 : Int32) (l2 : Int32) (l3 : Int32) (h : xH) (Q : Int32 → xH → Prop) : Prop := (kd l0.1 = (1, 9)) ∧ p_T_refusePlace l0 l1 l2 h (fun (v3 : Int32) (h2 : xH) => ((v3 = 0 → p_T_findTicket l0 l3 h2 (fun (v6 : xN) (h5 : xH) => ((¬ v6.1 = 0 → (kd (hR h5 l0 4).1 = (5, 5)) ∧ (vp_in l1 (hS h5 (hR h5 l0 4) - 1)) ∧ (kd v6.1 = (1, 8)) ∧ (kd (hR h5 v6 0).1 = (1, 3)) ∧ (kd (hR h5 (hR h5 l0 4) l1.toNatClampNeg).1 = (1, 5)) ∧ p_Sa_takes (hR h5 (hR h5 l0 4) l1.toNatClampNeg) (hI h5 (hR h5 v6 0) 1) h5 (fun (v14 : Int32) (h13 : xH) => p_T_putIn_j58 v14 l0 l1 l2 l3 h13 Q)) ∧ (v6.1 = 0 → ((¬ l3 = (-1 : Int32) → p_T_putIn_j58 (0 : Int32) l0 l1 l2 l3 h5 Q) ∧ (l3 = (-1 : Int32) → p_T_putIn_j58 (1 : Int32) l0 l1 l2 l3 h5 Q)))))) ∧ (¬ v3 = 0 → Q v3 h2)))
set_option maxRecDepth 100000 in
set_option maxHeartbeats 4000000 in
theorem t_T_putIn (l0 : xN) (l1 : Int32) (l2 : Int32) (l3 : Int32) (h : xH) (Q : Int32 → xH → Prop) (H : p_T_putIn l0 l1 l2 l3 h Q) : WP M_T_putIn 0 [(0, xr l0), (1, xi l1), (2, xi l2), (3, xi l3)] [] h 0 (qi Q) := by
  unfold p_T_putIn at H
  refine wp_aload_n 0 rfl rfl dX10_putIn_0 ?_
  refine wp_iload_n 1 rfl rfl dX10_putIn_1 ?_
  refine wp_iload_n 2 rfl rfl dX10_putIn_2 ?_
  refine WP.at 3 rfl ?_
  obtain ⟨q1, H⟩ := H
  refine wp_cVi (M2 := M_T_refusePlace) coX10 l0 q1 [xi l1, xi l2] rfl lv_X10_349 mo_T_refusePlace (Nat.le_of_ble_eq_true rfl) ⟨(Nat.le_of_ble_eq_true rfl), (Nat.le_of_ble_eq_true rfl)⟩ (Nat.le_of_ble_eq_true rfl) (Nat.le_of_ble_eq_true rfl) dX10_putIn_3 (t_T_refusePlace l0 l1 l2 _ _ H) (fun v3 h2 H => ?_)
  refine wp_istore (Nat.le_of_ble_eq_true rfl) dX10_putIn_6 (ls' := [(4, xi v3), (0, xr l0), (1, xi l1), (2, xi l2), (3, xi l3)]) rfl ?_
  refine wp_iload rfl dX10_putIn_8 ?_
  refine WP.at 10 rfl ?_
  refine wp_if_eq 16 (by decide) dX10_putIn_10 (fun c4 => ?_) (fun c4 => ?_)
  · replace H := H.1 c4
    refine wp_aload_n 0 rfl rfl dX10_putIn_16 ?_
    refine wp_iload_n 3 rfl rfl dX10_putIn_17 ?_
    refine WP.at 18 rfl ?_
    refine wp_cVr (M2 := M_T_findTicket) coX10 l0 q1 [xi l3] rfl lv_X10_187 mo_T_findTicket (Nat.le_of_ble_eq_true rfl) ⟨(Nat.le_of_ble_eq_true rfl), (Nat.le_of_ble_eq_true rfl)⟩ (Nat.le_of_ble_eq_true rfl) (Nat.le_of_ble_eq_true rfl) dX10_putIn_18 (t_T_findTicket l0 l3 _ _ H) (fun v6 h5 H => ?_)
    refine wp_astore (Nat.le_of_ble_eq_true rfl) dX10_putIn_21 (ls' := [(5, xr v6), (4, xi v3), (0, xr l0), (1, xi l1), (2, xi l2), (3, xi l3)]) rfl ?_
    refine wp_aload rfl dX10_putIn_23 ?_
    refine WP.at 25 rfl ?_
    refine wp_ifnonnull 41 (by decide) dX10_putIn_25 (fun c7 => ?_) (fun c7 => ?_)
    · replace H := H.1 c7
      refine wp_aload_n 0 rfl rfl dX10_putIn_41 ?_
      refine wp_getr coX10 4 (Nat.le_of_ble_eq_true rfl) fl_X10_35 rfl q1 dX10_putIn_42 ?_
      refine wp_iload_n 1 rfl rfl dX10_putIn_45 ?_
      obtain ⟨q8, H⟩ := H
      obtain ⟨q9, H⟩ := H
      refine wp_aaload q8 q9 dX10_putIn_46 ?_
      refine wp_aload rfl dX10_putIn_47 ?_
      obtain ⟨q10, H⟩ := H
      refine wp_getr coX9 0 (Nat.le_of_ble_eq_true rfl) fl_X10_191 rfl q10 dX10_putIn_49 ?_
      obtain ⟨q11, H⟩ := H
      refine wp_geti coX4 1 (Nat.le_of_ble_eq_true rfl) fl_X10_242 rfl q11 dX10_putIn_52 ?_
      refine WP.at 55 rfl ?_
      refine WP.at 55 rfl ?_
      obtain ⟨q12, H⟩ := H
      refine wp_cVi (M2 := M_Sa_takes) coX6 (hR h5 (hR h5 l0 4) l1.toNatClampNeg) q12 [xi (hI h5 (hR h5 v6 0) 1)] rfl lv_X10_445 mo_Sa_takes (Nat.le_of_ble_eq_true rfl) ⟨(Nat.le_of_ble_eq_true rfl), (Nat.le_of_ble_eq_true rfl)⟩ (Nat.le_of_ble_eq_true rfl) (Nat.le_of_ble_eq_true rfl) dX10_putIn_55 (t_Sa_takes (hR h5 (hR h5 l0 4) l1.toNatClampNeg) (hI h5 (hR h5 v6 0) 1) _ _ H) (fun v14 h13 H => ?_)
      refine WP.at 58 rfl ?_
      exact WP.pick [2, 3, 4, 5] rfl (t_T_putIn_j58 v14 l0 l1 l2 l3 _ _ H)
    · replace H := H.2 c7
      refine wp_iload_n 3 rfl rfl dX10_putIn_28 ?_
      refine wp_iconst (-1 : Int32) (by decide) dX10_putIn_29 ?_
      refine WP.at 30 rfl ?_
      refine wp_icmp_ne 37 (by decide) dX10_putIn_30 (fun c27 => ?_) (fun c27 => ?_)
      · replace H := H.1 c27
        refine wp_iconst (0 : Int32) (by decide) dX10_putIn_37 ?_
        refine WP.at 38 rfl ?_
        refine wp_goto 58 (by decide) dX10_putIn_38 ?_
        exact WP.pick [2, 3, 4, 5] rfl (t_T_putIn_j58 (0 : Int32) l0 l1 l2 l3 _ _ H)
      · replace H := H.2 c27
        refine wp_iconst (1 : Int32) (by decide) dX10_putIn_33 ?_
        refine WP.at 34 rfl ?_
        refine wp_goto 58 (by decide) dX10_putIn_34 ?_
        exact WP.pick [2, 3, 4, 5] rfl (t_T_putIn_j58 (1 : Int32) l0 l1 l2 l3 _ _ H)
  · replace H := H.2 c4
    refine wp_iload rfl dX10_putIn_13 ?_
    exact wp_iret trivial dX10_putIn_15 H
def p_T_gather_j93 (l0 : xN) (l1 : Int32) (l2 : Int32) (l3 : Int32) (l4 : Int32) (l5 : Int32) (l6 : Int32) (l7 : Int32) (B40 : Int32 → xH → Prop) (h : xH) (Q : Int32 → xH → Prop) : Prop := ((l7 = 0 → (kd l0.1 = (1, 9)) ∧ ∀ h19 : xH, h19 = sI h l0 14 ((hI h l0 14) + (1 : Int32)) → ∀ v21 : Int32, v21 = l6 + (1 : Int32) → B40 v21 h19) ∧ (¬ l7 = 0 → Q l7 h))
set_option maxRecDepth 100000 in
set_option maxHeartbeats 4000000 in
theorem t_T_gather_j93 (l0 : xN) (l1 : Int32) (l2 : Int32) (l3 : Int32) (l4 : Int32) (l5 : Int32) (l6 : Int32) (l7 : Int32) (B40 : Int32 → xH → Prop) (h : xH) (Q : Int32 → xH → Prop) (hB40 : ∀ (x6 : Int32) (h : xH), B40 x6 h → WP M_T_gather 40 [(0, xr l0), (1, xi l1), (2, xi l2), (3, xi l3), (4, xi l4), (5, xi l5), (6, xi x6)] [] h 0 (qi Q)) (H : p_T_gather_j93 l0 l1 l2 l3 l4 l5 l6 l7 B40 h Q) : WP M_T_gather 93 [(0, xr l0), (1, xi l1), (2, xi l2), (3, xi l3), (4, xi l4), (5, xi l5), (6, xi l6), (7, xi l7)] [] h 0 (qi Q) := by
  unfold p_T_gather_j93 at H
  refine wp_iload rfl dX10_gather_93 ?_
  refine WP.at 95 rfl ?_
  refine wp_if_eq 101 (by decide) dX10_gather_95 (fun c17 => ?_) (fun c17 => ?_)
  · replace H := H.1 c17
    refine wp_aload_n 0 rfl rfl dX10_gather_101 ?_
    refine wp_dup rfl dX10_gather_102 ?_
    obtain ⟨q18, H⟩ := H
    refine wp_geti coX10 14 (Nat.le_of_ble_eq_true rfl) fl_X10_330 rfl q18 dX10_gather_103 ?_
    refine wp_iconst (1 : Int32) (by decide) dX10_gather_106 ?_
    refine wp_iadd dX10_gather_107 ?_
    refine wp_puti coX10 14 (Nat.le_of_ble_eq_true rfl) fl_X10_330 rfl rfl ⟨rfl, rfl⟩ q18 dX10_gather_108 ?_
    refine wp_nh (fun h19 e20 => ?_)
    replace H := H h19 e20
    refine wp_iincN (1 : Int32) (by decide) rfl (Nat.le_of_ble_eq_true rfl) dX10_gather_111 (ls' := fun v21 => [(6, xi v21), (0, xr l0), (1, xi l1), (2, xi l2), (3, xi l3), (4, xi l4), (5, xi l5), (7, xi l7)]) (fun _ => rfl) (fun v21 e22 => ?_)
    replace H := H v21 e22
    refine WP.at 114 rfl ?_
    refine WP.at 114 rfl ?_
    refine wp_goto 40 (by decide) dX10_gather_114 ?_
    exact WP.pick [1, 2, 3, 4, 5, 6, 0] rfl (hB40 v21 _ H)
  · replace H := H.2 c17
    refine wp_iload rfl dX10_gather_98 ?_
    exact wp_iret trivial dX10_gather_100 H
def p_T_gather_L40 (l0 : xN) (l1 : Int32) (l2 : Int32) (l3 : Int32) (l4 : Int32) (l5 : Int32) (K40_117 : xH → Prop) (Q : Int32 → xH → Prop) : Nat → Int32 → xH → Prop
  | 0, _, _ => False
  | f + 1, l6, h => ((l5 ≤ l6 → K40_117 h) ∧ (¬ l5 ≤ l6 → (kd l0.1 = (1, 9)) ∧ p_T_refuseSlip l0 l3 (l4 + l6) h (fun (v15 : Int32) (h14 : xH) => ((¬ v15 = 0 → p_T_gather_j93 l0 l1 l2 l3 l4 l5 l6 v15 (p_T_gather_L40 l0 l1 l2 l3 l4 l5 K40_117 Q f) h14 Q) ∧ (v15 = 0 → (kd (hR h14 l0 3).1 = (5, 1)) ∧ (vp_in l3 (hS h14 (hR h14 l0 3) - 1)) ∧ (kd (hR h14 (hR h14 l0 3) l3.toNatClampNeg).1 = (1, 1)) ∧ (kd (hR h14 (hR h14 (hR h14 l0 3) l3.toNatClampNeg) 0).1 = (5, 7)) ∧ (vp_in (l4 + l6) (hS h14 (hR h14 (hR h14 (hR h14 l0 3) l3.toNatClampNeg) 0) - 1)) ∧ (kd (hR h14 (hR h14 (hR h14 (hR h14 l0 3) l3.toNatClampNeg) 0) (l4 + l6).toNatClampNeg).1 = (1, 7)) ∧ p_Sl_brings (hR h14 (hR h14 (hR h14 (hR h14 l0 3) l3.toNatClampNeg) 0) (l4 + l6).toNatClampNeg) h14 (fun (v30 : Int32) (h29 : xH) => p_T_putIn l0 l1 (l2 + l6) v30 h29 (fun (v32 : Int32) (h31 : xH) => p_T_gather_j93 l0 l1 l2 l3 l4 l5 l6 v32 (p_T_gather_L40 l0 l1 l2 l3 l4 l5 K40_117 Q f) h31 Q)))))))
set_option maxRecDepth 100000 in
set_option maxHeartbeats 4000000 in
theorem t_T_gather_L40 (l0 : xN) (l1 : Int32) (l2 : Int32) (l3 : Int32) (l4 : Int32) (l5 : Int32) (K40_117 : xH → Prop) (Q : Int32 → xH → Prop) (hK40_117 : ∀ (h : xH), K40_117 h → WP M_T_gather 117 [(5, xi l5)] [] h 0 (qi Q)) : ∀ (f : Nat) (l6 : Int32) (h : xH), p_T_gather_L40 l0 l1 l2 l3 l4 l5 K40_117 Q f l6 h → WP M_T_gather 40 [(0, xr l0), (1, xi l1), (2, xi l2), (3, xi l3), (4, xi l4), (5, xi l5), (6, xi l6)] [] h 0 (qi Q) := by
  intro f
  induction f with
  | zero => exact fun _ _ H => H.elim
  | succ f hB40 =>
    intro l6 h H
    unfold p_T_gather_L40 at H
    refine wp_iload rfl dX10_gather_40 ?_
    refine wp_iload rfl dX10_gather_42 ?_
    refine WP.at 44 rfl ?_
    refine wp_icmp_ge 117 (by decide) dX10_gather_44 (fun c12 => ?_) (fun c12 => ?_)
    · replace H := H.1 c12
      exact WP.pick [5] rfl (hK40_117 _ H)
    · replace H := H.2 c12
      refine wp_aload_n 0 rfl rfl dX10_gather_47 ?_
      refine wp_iload_n 3 rfl rfl dX10_gather_48 ?_
      refine wp_iload rfl dX10_gather_49 ?_
      refine wp_iload rfl dX10_gather_51 ?_
      refine wp_iadd dX10_gather_53 ?_
      refine WP.at 54 rfl ?_
      obtain ⟨q13, H⟩ := H
      refine wp_cVi (M2 := M_T_refuseSlip) coX10 l0 q13 [xi l3, xi (l4 + l6)] rfl lv_X10_285 mo_T_refuseSlip (Nat.le_of_ble_eq_true rfl) ⟨(Nat.le_of_ble_eq_true rfl), (Nat.le_of_ble_eq_true rfl)⟩ (Nat.le_of_ble_eq_true rfl) (Nat.le_of_ble_eq_true rfl) dX10_gather_54 (t_T_refuseSlip l0 l3 (l4 + l6) _ _ H) (fun v15 h14 H => ?_)
      refine wp_istore (Nat.le_of_ble_eq_true rfl) dX10_gather_57 (ls' := [(7, xi v15), (0, xr l0), (1, xi l1), (2, xi l2), (3, xi l3), (4, xi l4), (5, xi l5), (6, xi l6)]) rfl ?_
      refine WP.at 59 rfl ?_
      refine wp_iload rfl dX10_gather_59 ?_
      refine WP.at 61 rfl ?_
      refine wp_if_ne 93 (by decide) dX10_gather_61 (fun c16 => ?_) (fun c16 => ?_)
      · replace H := H.1 c16
        exact WP.pick [1, 2, 3, 4, 5, 6, 7, 0] rfl (t_T_gather_j93 l0 l1 l2 l3 l4 l5 l6 v15 _ _ _ hB40 H)
      · replace H := H.2 c16
        refine wp_aload_n 0 rfl rfl dX10_gather_64 ?_
        refine wp_iload_n 1 rfl rfl dX10_gather_65 ?_
        refine wp_iload_n 2 rfl rfl dX10_gather_66 ?_
        refine wp_iload rfl dX10_gather_67 ?_
        refine wp_iadd dX10_gather_69 ?_
        refine wp_aload_n 0 rfl rfl dX10_gather_70 ?_
        refine wp_getr coX10 3 (Nat.le_of_ble_eq_true rfl) fl_X10_29 rfl q13 dX10_gather_71 ?_
        refine WP.at 74 rfl ?_
        refine wp_iload_n 3 rfl rfl dX10_gather_74 ?_
        obtain ⟨q23, H⟩ := H
        obtain ⟨q24, H⟩ := H
        refine wp_aaload q23 q24 dX10_gather_75 ?_
        obtain ⟨q25, H⟩ := H
        refine wp_getr coX1 0 (Nat.le_of_ble_eq_true rfl) fl_X10_288 rfl q25 dX10_gather_76 ?_
        refine wp_iload rfl dX10_gather_79 ?_
        refine wp_iload rfl dX10_gather_81 ?_
        refine wp_iadd dX10_gather_83 ?_
        obtain ⟨q26, H⟩ := H
        obtain ⟨q27, H⟩ := H
        refine wp_aaload q26 q27 dX10_gather_84 ?_
        refine WP.at 85 rfl ?_
        obtain ⟨q28, H⟩ := H
        refine wp_cVi (M2 := M_Sl_brings) coX8 (hR h14 (hR h14 (hR h14 (hR h14 l0 3) l3.toNatClampNeg) 0) (l4 + l6).toNatClampNeg) q28 [] rfl lv_X10_333 mo_Sl_brings (Nat.le_of_ble_eq_true rfl) ⟨(Nat.le_of_ble_eq_true rfl), (Nat.le_of_ble_eq_true rfl)⟩ (Nat.le_of_ble_eq_true rfl) (Nat.le_of_ble_eq_true rfl) dX10_gather_85 (t_Sl_brings (hR h14 (hR h14 (hR h14 (hR h14 l0 3) l3.toNatClampNeg) 0) (l4 + l6).toNatClampNeg) _ _ H) (fun v30 h29 H => ?_)
        refine WP.at 88 rfl ?_
        refine WP.at 88 rfl ?_
        refine wp_cVi (M2 := M_T_putIn) coX10 l0 q13 [xi l1, xi (l2 + l6), xi v30] rfl lv_X10_336 mo_T_putIn (Nat.le_of_ble_eq_true rfl) ⟨(Nat.le_of_ble_eq_true rfl), (Nat.le_of_ble_eq_true rfl)⟩ (Nat.le_of_ble_eq_true rfl) (Nat.le_of_ble_eq_true rfl) dX10_gather_88 (t_T_putIn l0 l1 (l2 + l6) v30 _ _ H) (fun v32 h31 H => ?_)
        refine wp_istore (Nat.le_of_ble_eq_true rfl) dX10_gather_91 (ls' := [(7, xi v32), (0, xr l0), (1, xi l1), (2, xi l2), (3, xi l3), (4, xi l4), (5, xi l5), (6, xi l6)]) rfl ?_
        refine WP.at 93 rfl ?_
        exact WP.pick [1, 2, 3, 4, 5, 6, 7, 0] rfl (t_T_gather_j93 l0 l1 l2 l3 l4 l5 l6 v32 _ _ _ hB40 H)
def p_T_gather (l0 : xN) (l1 : Int32) (l2 : Int32) (l3 : Int32) (l4 : Int32) (l5 : Int32) (h : xH) (Q : Int32 → xH → Prop) : Prop := p_T_isSatchel l1 h (fun (v2 : Int32) (h1 : xH) => ((v2 = 0 → Q (-2 : Int32) h1) ∧ (¬ v2 = 0 → p_T_isWindow l3 h1 (fun (v5 : Int32) (h4 : xH) => ((¬ v5 = 0 → ((l5 < 0 → Q (-3 : Int32) h4) ∧ (¬ l5 < 0 → ((l5 ≤ (12 : Int32) → (kd l0.1 = (1, 9)) ∧ ∀ h10 : xH, h10 = sI h4 l0 14 (0 : Int32) → (∃ f34, p_T_gather_L40 l0 l1 l2 l3 l4 l5 (fun (h33 : xH) => Q l5 h33) Q f34 (0 : Int32) h10)) ∧ (¬ l5 ≤ (12 : Int32) → Q (-3 : Int32) h4))))) ∧ (v5 = 0 → Q (-2 : Int32) h4))))))
set_option maxRecDepth 100000 in
set_option maxHeartbeats 4000000 in
theorem t_T_gather (l0 : xN) (l1 : Int32) (l2 : Int32) (l3 : Int32) (l4 : Int32) (l5 : Int32) (h : xH) (Q : Int32 → xH → Prop) (H : p_T_gather l0 l1 l2 l3 l4 l5 h Q) : WP M_T_gather 0 [(0, xr l0), (1, xi l1), (2, xi l2), (3, xi l3), (4, xi l4), (5, xi l5)] [] h 0 (qi Q) := by
  unfold p_T_gather at H
  refine wp_iload_n 1 rfl rfl dX10_gather_0 ?_
  refine WP.at 1 rfl ?_
  refine wp_cSi (M2 := M_T_isSatchel) [xi l1] rfl ls_X10_324 mo_T_isSatchel (Nat.le_of_ble_eq_true rfl) ⟨(Nat.le_of_ble_eq_true rfl), (Nat.le_of_ble_eq_true rfl)⟩ (Nat.le_of_ble_eq_true rfl) (Nat.le_of_ble_eq_true rfl) dX10_gather_1 (t_T_isSatchel l1 _ _ H) (fun v2 h1 H => ?_)
  refine WP.at 4 rfl ?_
  refine wp_if_eq 14 (by decide) dX10_gather_4 (fun c3 => ?_) (fun c3 => ?_)
  · replace H := H.1 c3
    refine wp_bipush (-2 : Int32) (by decide) dX10_gather_14 ?_
    exact wp_iret trivial dX10_gather_16 H
  · replace H := H.2 c3
    refine wp_iload_n 3 rfl rfl dX10_gather_7 ?_
    refine WP.at 8 rfl ?_
    refine wp_cSi (M2 := M_T_isWindow) [xi l3] rfl ls_X10_162 mo_T_isWindow (Nat.le_of_ble_eq_true rfl) ⟨(Nat.le_of_ble_eq_true rfl), (Nat.le_of_ble_eq_true rfl)⟩ (Nat.le_of_ble_eq_true rfl) (Nat.le_of_ble_eq_true rfl) dX10_gather_8 (t_T_isWindow l3 _ _ H) (fun v5 h4 H => ?_)
    refine WP.at 11 rfl ?_
    refine wp_if_ne 17 (by decide) dX10_gather_11 (fun c6 => ?_) (fun c6 => ?_)
    · replace H := H.1 c6
      refine wp_iload rfl dX10_gather_17 ?_
      refine WP.at 19 rfl ?_
      refine wp_if_lt 29 (by decide) dX10_gather_19 (fun c7 => ?_) (fun c7 => ?_)
      · replace H := H.1 c7
        refine wp_bipush (-3 : Int32) (by decide) dX10_gather_29 ?_
        exact wp_iret trivial dX10_gather_31 H
      · replace H := H.2 c7
        refine wp_iload rfl dX10_gather_22 ?_
        refine wp_bipush (12 : Int32) (by decide) dX10_gather_24 ?_
        refine WP.at 26 rfl ?_
        refine wp_icmp_le 32 (by decide) dX10_gather_26 (fun c8 => ?_) (fun c8 => ?_)
        · replace H := H.1 c8
          refine wp_aload_n 0 rfl rfl dX10_gather_32 ?_
          refine wp_iconst (0 : Int32) (by decide) dX10_gather_33 ?_
          obtain ⟨q9, H⟩ := H
          refine wp_puti coX10 14 (Nat.le_of_ble_eq_true rfl) fl_X10_330 rfl rfl ⟨rfl, rfl⟩ q9 dX10_gather_34 ?_
          refine wp_nh (fun h10 e11 => ?_)
          replace H := H h10 e11
          refine wp_iconst (0 : Int32) (by decide) dX10_gather_37 ?_
          refine wp_istore (Nat.le_of_ble_eq_true rfl) dX10_gather_38 (ls' := [(6, xi (0 : Int32)), (0, xr l0), (1, xi l1), (2, xi l2), (3, xi l3), (4, xi l4), (5, xi l5)]) rfl ?_
          refine WP.at 40 rfl ?_
          obtain ⟨f34, H⟩ := H
          refine WP.pick [1, 2, 3, 4, 5, 6, 0] rfl (t_T_gather_L40 l0 l1 l2 l3 l4 l5 _ Q ?_ f34 (0 : Int32) _ H)
          · intro h33 H
            refine wp_iload rfl dX10_gather_117 ?_
            exact wp_iret trivial dX10_gather_119 H
        · replace H := H.2 c8
          refine wp_bipush (-3 : Int32) (by decide) dX10_gather_29 ?_
          exact wp_iret trivial dX10_gather_31 H
    · replace H := H.2 c6
      refine wp_bipush (-2 : Int32) (by decide) dX10_gather_14 ?_
      exact wp_iret trivial dX10_gather_16 H
def p_M_takes (l0 : xN) (l1 : Int32) (l2 : Int32) (h : xH) (Q : Int32 → xH → Prop) : Prop := ((¬ l2 = (-1 : Int32) → (kd l0.1 = (1, 10)) ∧ (kd (hR h l0 24).1 = (2, 0)) ∧ (vp_in l2 (hS h (hR h l0 24) - 1)) ∧ p_M_kindOf (hI h (hR h l0 24) l2.toNatClampNeg) h (fun (v6 : Int32) (h5 : xH) => (kd (hR h5 l0 59).1 = (2, 0)) ∧ (vp_in l1 (hS h5 (hR h5 l0 59) - 1)) ∧ (((hI h5 (hR h5 l0 59) l1.toNatClampNeg) = (0 : Int32) → Q (1 : Int32) h5) ∧ ((hI h5 (hR h5 l0 59) l1.toNatClampNeg) = (1 : Int32) → ((v6 = 0 → Q (1 : Int32) h5) ∧ (¬ v6 = 0 → ((¬ v6 = (1 : Int32) → Q (0 : Int32) h5) ∧ (v6 = (1 : Int32) → Q (1 : Int32) h5))))) ∧ ((hI h5 (hR h5 l0 59) l1.toNatClampNeg) = (2 : Int32) → ((v6 = (2 : Int32) → Q (1 : Int32) h5) ∧ (¬ v6 = (2 : Int32) → ((¬ v6 = (3 : Int32) → Q (0 : Int32) h5) ∧ (v6 = (3 : Int32) → Q (1 : Int32) h5))))) ∧ ((hI h5 (hR h5 l0 59) l1.toNatClampNeg) = (3 : Int32) → ((¬ v6 = (3 : Int32) → Q (0 : Int32) h5) ∧ (v6 = (3 : Int32) → Q (1 : Int32) h5))) ∧ ((hI h5 (hR h5 l0 59) l1.toNatClampNeg) = (4 : Int32) → ((¬ v6 = (4 : Int32) → Q (0 : Int32) h5) ∧ (v6 = (4 : Int32) → Q (1 : Int32) h5))) ∧ ((∀ q ∈ ([(0 : Int32), (1 : Int32), (2 : Int32), (3 : Int32), (4 : Int32)] : List Int32), (hI h5 (hR h5 l0 59) l1.toNatClampNeg) ≠ q) → ((¬ v6 = (1 : Int32) → Q (0 : Int32) h5) ∧ (v6 = (1 : Int32) → Q (1 : Int32) h5)))))) ∧ (l2 = (-1 : Int32) → Q (1 : Int32) h))
set_option maxRecDepth 100000 in
set_option maxHeartbeats 4000000 in
theorem t_M_takes (l0 : xN) (l1 : Int32) (l2 : Int32) (h : xH) (Q : Int32 → xH → Prop) (H : p_M_takes l0 l1 l2 h Q) : WP M_M_takes 0 [(0, xr l0), (1, xi l1), (2, xi l2)] [] h 0 (qi Q) := by
  unfold p_M_takes at H
  refine wp_iload_n 2 rfl rfl dX11_takes_0 ?_
  refine wp_iconst (-1 : Int32) (by decide) dX11_takes_1 ?_
  refine WP.at 2 rfl ?_
  refine wp_icmp_ne 7 (by decide) dX11_takes_2 (fun c1 => ?_) (fun c1 => ?_)
  · replace H := H.1 c1
    refine wp_aload_n 0 rfl rfl dX11_takes_7 ?_
    obtain ⟨q2, H⟩ := H
    refine wp_getr coX11 24 (Nat.le_of_ble_eq_true rfl) fl_X11_68 rfl q2 dX11_takes_8 ?_
    refine wp_iload_n 2 rfl rfl dX11_takes_11 ?_
    obtain ⟨q3, H⟩ := H
    obtain ⟨q4, H⟩ := H
    refine wp_iaload q3 q4 dX11_takes_12 ?_
    refine WP.at 13 rfl ?_
    refine wp_cSi (M2 := M_M_kindOf) [xi (hI h (hR h l0 24) l2.toNatClampNeg)] rfl ls_X11_218 mo_M_kindOf (Nat.le_of_ble_eq_true rfl) ⟨(Nat.le_of_ble_eq_true rfl), (Nat.le_of_ble_eq_true rfl)⟩ (Nat.le_of_ble_eq_true rfl) (Nat.le_of_ble_eq_true rfl) dX11_takes_13 (t_M_kindOf (hI h (hR h l0 24) l2.toNatClampNeg) _ _ H) (fun v6 h5 H => ?_)
    refine wp_istore_n 3 rfl (Nat.le_of_ble_eq_true rfl) dX11_takes_16 (ls' := [(3, xi v6), (0, xr l0), (1, xi l1), (2, xi l2)]) rfl ?_
    refine wp_aload_n 0 rfl rfl dX11_takes_17 ?_
    refine WP.at 18 rfl ?_
    refine wp_getr coX11 59 (Nat.le_of_ble_eq_true rfl) fl_X11_146 rfl q2 dX11_takes_18 ?_
    refine wp_iload_n 1 rfl rfl dX11_takes_21 ?_
    obtain ⟨q7, H⟩ := H
    obtain ⟨q8, H⟩ := H
    refine wp_iaload q7 q8 dX11_takes_22 ?_
    refine WP.at 23 rfl ?_
    refine wp_tsw dX11_takes_23 [((0 : Int32), 56), ((1 : Int32), 58), ((2 : Int32), 73), ((3 : Int32), 89), ((4 : Int32), 100)] 111 (by decide) (by decide +kernel) (by decide +kernel) ?_ ?_
    · refine List.forall_mem_cons.mpr ⟨fun c0 => ?_, List.forall_mem_cons.mpr ⟨fun c0 => ?_, List.forall_mem_cons.mpr ⟨fun c0 => ?_, List.forall_mem_cons.mpr ⟨fun c0 => ?_, List.forall_mem_cons.mpr ⟨fun c0 => ?_, fun _ z => absurd z List.not_mem_nil⟩⟩⟩⟩⟩
      · replace H := H.1 c0
        refine wp_iconst (1 : Int32) (by decide) dX11_takes_56 ?_
        exact wp_iret (Or.inr rfl) dX11_takes_57 H
      · replace H := H.2.1 c0
        refine wp_iload_n 3 rfl rfl dX11_takes_58 ?_
        refine WP.at 59 rfl ?_
        refine wp_if_eq 67 (by decide) dX11_takes_59 (fun c9 => ?_) (fun c9 => ?_)
        · replace H := H.1 c9
          refine wp_iconst (1 : Int32) (by decide) dX11_takes_67 ?_
          refine WP.at 68 rfl ?_
          refine wp_goto 72 (by decide) dX11_takes_68 ?_
          exact wp_iret (Or.inr rfl) dX11_takes_72 H
        · replace H := H.2 c9
          refine wp_iload_n 3 rfl rfl dX11_takes_62 ?_
          refine wp_iconst (1 : Int32) (by decide) dX11_takes_63 ?_
          refine WP.at 64 rfl ?_
          refine wp_icmp_ne 71 (by decide) dX11_takes_64 (fun c10 => ?_) (fun c10 => ?_)
          · replace H := H.1 c10
            refine wp_iconst (0 : Int32) (by decide) dX11_takes_71 ?_
            exact wp_iret (Or.inl rfl) dX11_takes_72 H
          · replace H := H.2 c10
            refine wp_iconst (1 : Int32) (by decide) dX11_takes_67 ?_
            refine WP.at 68 rfl ?_
            refine wp_goto 72 (by decide) dX11_takes_68 ?_
            exact wp_iret (Or.inr rfl) dX11_takes_72 H
      · replace H := H.2.2.1 c0
        refine wp_iload_n 3 rfl rfl dX11_takes_73 ?_
        refine wp_iconst (2 : Int32) (by decide) dX11_takes_74 ?_
        refine WP.at 75 rfl ?_
        refine wp_icmp_eq 83 (by decide) dX11_takes_75 (fun c11 => ?_) (fun c11 => ?_)
        · replace H := H.1 c11
          refine wp_iconst (1 : Int32) (by decide) dX11_takes_83 ?_
          refine WP.at 84 rfl ?_
          refine wp_goto 88 (by decide) dX11_takes_84 ?_
          exact wp_iret (Or.inr rfl) dX11_takes_88 H
        · replace H := H.2 c11
          refine wp_iload_n 3 rfl rfl dX11_takes_78 ?_
          refine wp_iconst (3 : Int32) (by decide) dX11_takes_79 ?_
          refine WP.at 80 rfl ?_
          refine wp_icmp_ne 87 (by decide) dX11_takes_80 (fun c12 => ?_) (fun c12 => ?_)
          · replace H := H.1 c12
            refine wp_iconst (0 : Int32) (by decide) dX11_takes_87 ?_
            exact wp_iret (Or.inl rfl) dX11_takes_88 H
          · replace H := H.2 c12
            refine wp_iconst (1 : Int32) (by decide) dX11_takes_83 ?_
            refine WP.at 84 rfl ?_
            refine wp_goto 88 (by decide) dX11_takes_84 ?_
            exact wp_iret (Or.inr rfl) dX11_takes_88 H
      · replace H := H.2.2.2.1 c0
        refine wp_iload_n 3 rfl rfl dX11_takes_89 ?_
        refine wp_iconst (3 : Int32) (by decide) dX11_takes_90 ?_
        refine WP.at 91 rfl ?_
        refine wp_icmp_ne 98 (by decide) dX11_takes_91 (fun c13 => ?_) (fun c13 => ?_)
        · replace H := H.1 c13
          refine wp_iconst (0 : Int32) (by decide) dX11_takes_98 ?_
          exact wp_iret (Or.inl rfl) dX11_takes_99 H
        · replace H := H.2 c13
          refine wp_iconst (1 : Int32) (by decide) dX11_takes_94 ?_
          refine WP.at 95 rfl ?_
          refine wp_goto 99 (by decide) dX11_takes_95 ?_
          exact wp_iret (Or.inr rfl) dX11_takes_99 H
      · replace H := H.2.2.2.2.1 c0
        refine wp_iload_n 3 rfl rfl dX11_takes_100 ?_
        refine wp_iconst (4 : Int32) (by decide) dX11_takes_101 ?_
        refine WP.at 102 rfl ?_
        refine wp_icmp_ne 109 (by decide) dX11_takes_102 (fun c14 => ?_) (fun c14 => ?_)
        · replace H := H.1 c14
          refine wp_iconst (0 : Int32) (by decide) dX11_takes_109 ?_
          exact wp_iret (Or.inl rfl) dX11_takes_110 H
        · replace H := H.2 c14
          refine wp_iconst (1 : Int32) (by decide) dX11_takes_105 ?_
          refine WP.at 106 rfl ?_
          refine wp_goto 110 (by decide) dX11_takes_106 ?_
          exact wp_iret (Or.inr rfl) dX11_takes_110 H
    · intro c0
      replace H := H.2.2.2.2.2 c0
      refine wp_iload_n 3 rfl rfl dX11_takes_111 ?_
      refine wp_iconst (1 : Int32) (by decide) dX11_takes_112 ?_
      refine WP.at 113 rfl ?_
      refine wp_icmp_ne 120 (by decide) dX11_takes_113 (fun c15 => ?_) (fun c15 => ?_)
      · replace H := H.1 c15
        refine wp_iconst (0 : Int32) (by decide) dX11_takes_120 ?_
        exact wp_iret (Or.inl rfl) dX11_takes_121 H
      · replace H := H.2 c15
        refine wp_iconst (1 : Int32) (by decide) dX11_takes_116 ?_
        refine WP.at 117 rfl ?_
        refine wp_goto 121 (by decide) dX11_takes_117 ?_
        exact wp_iret (Or.inr rfl) dX11_takes_121 H
  · replace H := H.2 c1
    refine wp_iconst (1 : Int32) (by decide) dX11_takes_5 ?_
    exact wp_iret (Or.inr rfl) dX11_takes_6 H
def p_M_gather_j153 (s0 : Int32) (l0 : xN) (l1 : Int32) (l2 : Int32) (l3 : Int32) (l4 : Int32) (l5 : Int32) (l6 : Int32) (l8 : Int32) (B39 : Int32 → xH → Prop) (K39_176 : xH → Prop) (h : xH) (Q : Int32 → xH → Prop) : Prop := (kd l0.1 = (1, 10)) ∧ (kd (hR h l0 53).1 = (2, 0)) ∧ (vp_in l8 (hS h (hR h l0 53) - 1)) ∧ (((1 : Int32) < (hI h (hR h l0 53) l8.toNatClampNeg) → K39_176 h) ∧ (¬ (1 : Int32) < (hI h (hR h l0 53) l8.toNatClampNeg) → p_M_takes l0 l1 s0 h (fun (v38 : Int32) (h37 : xH) => ((¬ v38 = 0 → (kd (hR h37 l0 61).1 = (2, 0)) ∧ (vp_in ((((10 : Int32) * l1) + l2) + l6) (hS h37 (hR h37 l0 61) - 1)) ∧ ∀ h42 : xH, h42 = sI h37 (hR h37 l0 61) ((((10 : Int32) * l1) + l2) + l6).toNatClampNeg s0 → ∀ h44 : xH, h44 = sI h42 l0 62 ((hI h42 l0 62) + (1 : Int32)) → ∀ v46 : Int32, v46 = l6 + (1 : Int32) → B39 v46 h44) ∧ (v38 = 0 → K39_176 h37)))))
set_option maxRecDepth 100000 in
set_option maxHeartbeats 4000000 in
theorem t_M_gather_j153 (s0 : Int32) (l0 : xN) (l1 : Int32) (l2 : Int32) (l3 : Int32) (l4 : Int32) (l5 : Int32) (l6 : Int32) (l8 : Int32) (B39 : Int32 → xH → Prop) (K39_176 : xH → Prop) (h : xH) (Q : Int32 → xH → Prop) (hB39 : ∀ (x6 : Int32) (h : xH), B39 x6 h → WP M_M_gather 39 [(0, xr l0), (1, xi l1), (2, xi l2), (3, xi l3), (4, xi l4), (5, xi l5), (6, xi x6)] [] h 0 (qi Q)) (hK39_176 : ∀ (h : xH), K39_176 h → WP M_M_gather 176 [(0, xr l0)] [] h 0 (qi Q)) (H : p_M_gather_j153 s0 l0 l1 l2 l3 l4 l5 l6 l8 B39 K39_176 h Q) : WP M_M_gather 153 [(0, xr l0), (1, xi l1), (2, xi l2), (3, xi l3), (4, xi l4), (5, xi l5), (6, xi l6), (8, xi l8)] [xi s0] h 0 (qi Q) := by
  unfold p_M_gather_j153 at H
  refine wp_istore (Nat.le_of_ble_eq_true rfl) dX11_gather_153 (ls' := [(9, xi s0), (0, xr l0), (1, xi l1), (2, xi l2), (3, xi l3), (4, xi l4), (5, xi l5), (6, xi l6), (8, xi l8)]) rfl ?_
  refine wp_aload_n 0 rfl rfl dX11_gather_155 ?_
  obtain ⟨q33, H⟩ := H
  refine wp_getr coX11 53 (Nat.le_of_ble_eq_true rfl) fl_X11_128 rfl q33 dX11_gather_156 ?_
  refine wp_iload rfl dX11_gather_159 ?_
  obtain ⟨q34, H⟩ := H
  obtain ⟨q35, H⟩ := H
  refine wp_iaload q34 q35 dX11_gather_161 ?_
  refine wp_iconst (1 : Int32) (by decide) dX11_gather_162 ?_
  refine WP.at 163 rfl ?_
  refine wp_icmp_gt 176 (by decide) dX11_gather_163 (fun c36 => ?_) (fun c36 => ?_)
  · replace H := H.1 c36
    exact WP.pick [1] rfl (hK39_176 _ H)
  · replace H := H.2 c36
    refine wp_aload_n 0 rfl rfl dX11_gather_166 ?_
    refine wp_iload_n 1 rfl rfl dX11_gather_167 ?_
    refine wp_iload rfl dX11_gather_168 ?_
    refine WP.at 170 rfl ?_
    refine wp_cVi (M2 := M_M_takes) coX11 l0 q33 [xi l1, xi s0] rfl lv_X11_353 mo_M_takes (Nat.le_of_ble_eq_true rfl) ⟨(Nat.le_of_ble_eq_true rfl), (Nat.le_of_ble_eq_true rfl)⟩ (Nat.le_of_ble_eq_true rfl) (Nat.le_of_ble_eq_true rfl) dX11_gather_170 (t_M_takes l0 l1 s0 _ _ H) (fun v38 h37 H => ?_)
    refine WP.at 173 rfl ?_
    refine wp_if_ne 182 (by decide) dX11_gather_173 (fun c39 => ?_) (fun c39 => ?_)
    · replace H := H.1 c39
      refine wp_aload_n 0 rfl rfl dX11_gather_182 ?_
      refine wp_getr coX11 61 (Nat.le_of_ble_eq_true rfl) fl_X11_152 rfl q33 dX11_gather_183 ?_
      refine wp_bipush (10 : Int32) (by decide) dX11_gather_186 ?_
      refine wp_iload_n 1 rfl rfl dX11_gather_188 ?_
      refine wp_imul dX11_gather_189 ?_
      refine wp_iload_n 2 rfl rfl dX11_gather_190 ?_
      refine wp_iadd dX11_gather_191 ?_
      refine WP.at 192 rfl ?_
      refine wp_iload rfl dX11_gather_192 ?_
      refine wp_iadd dX11_gather_194 ?_
      refine wp_iload rfl dX11_gather_195 ?_
      obtain ⟨q40, H⟩ := H
      obtain ⟨q41, H⟩ := H
      refine wp_iastore q40 q41 dX11_gather_197 ?_
      refine wp_nh (fun h42 e43 => ?_)
      replace H := H h42 e43
      refine wp_aload_n 0 rfl rfl dX11_gather_198 ?_
      refine wp_dup rfl dX11_gather_199 ?_
      refine wp_geti coX11 62 (Nat.le_of_ble_eq_true rfl) fl_X11_350 rfl q33 dX11_gather_200 ?_
      refine wp_iconst (1 : Int32) (by decide) dX11_gather_203 ?_
      refine WP.at 204 rfl ?_
      refine wp_iadd dX11_gather_204 ?_
      refine wp_puti coX11 62 (Nat.le_of_ble_eq_true rfl) fl_X11_350 rfl rfl ⟨rfl, rfl⟩ q33 dX11_gather_205 ?_
      refine wp_nh (fun h44 e45 => ?_)
      replace H := H h44 e45
      refine wp_iincN (1 : Int32) (by decide) rfl (Nat.le_of_ble_eq_true rfl) dX11_gather_208 (ls' := fun v46 => [(6, xi v46), (9, xi s0), (0, xr l0), (1, xi l1), (2, xi l2), (3, xi l3), (4, xi l4), (5, xi l5), (8, xi l8)]) (fun _ => rfl) (fun v46 e47 => ?_)
      replace H := H v46 e47
      refine WP.at 211 rfl ?_
      refine wp_goto 39 (by decide) dX11_gather_211 ?_
      exact WP.pick [2, 3, 4, 5, 6, 7, 0] rfl (hB39 v46 _ H)
    · replace H := H.2 c39
      exact WP.pick [1] rfl (hK39_176 _ H)
def p_M_gather_j105 (s0 : Int32) (l0 : xN) (l1 : Int32) (l2 : Int32) (l3 : Int32) (l4 : Int32) (l5 : Int32) (l6 : Int32) (B39 : Int32 → xH → Prop) (K39_176 : xH → Prop) (h : xH) (Q : Int32 → xH → Prop) : Prop := ((s0 ≤ 0 → ∀ v27 : Int32, v27 = (((12 : Int32) * l3) + l4) + l6 → (kd l0.1 = (1, 10)) ∧ (kd (hR h l0 53).1 = (2, 0)) ∧ (vp_in v27 (hS h (hR h l0 53) - 1)) ∧ ((¬ (hI h (hR h l0 53) v27.toNatClampNeg) = (1 : Int32) → p_M_gather_j153 (-1 : Int32) l0 l1 l2 l3 l4 l5 l6 v27 B39 K39_176 h Q) ∧ ((hI h (hR h l0 53) v27.toNatClampNeg) = (1 : Int32) → (kd (hR h l0 54).1 = (2, 0)) ∧ (vp_in v27 (hS h (hR h l0 54) - 1)) ∧ p_M_gather_j153 (hI h (hR h l0 54) v27.toNatClampNeg) l0 l1 l2 l3 l4 l5 l6 v27 B39 K39_176 h Q))) ∧ (¬ s0 ≤ 0 → (kd l0.1 = (1, 10)) ∧ p_M_meets l0 s0 h (fun (v52 : Int32) (h51 : xH) => Q v52 h51)))
set_option maxRecDepth 100000 in
set_option maxHeartbeats 4000000 in
theorem t_M_gather_j105 (s0 : Int32) (l0 : xN) (l1 : Int32) (l2 : Int32) (l3 : Int32) (l4 : Int32) (l5 : Int32) (l6 : Int32) (B39 : Int32 → xH → Prop) (K39_176 : xH → Prop) (h : xH) (Q : Int32 → xH → Prop) (hB39 : ∀ (x6 : Int32) (h : xH), B39 x6 h → WP M_M_gather 39 [(0, xr l0), (1, xi l1), (2, xi l2), (3, xi l3), (4, xi l4), (5, xi l5), (6, xi x6)] [] h 0 (qi Q)) (hK39_176 : ∀ (h : xH), K39_176 h → WP M_M_gather 176 [(0, xr l0)] [] h 0 (qi Q)) (H : p_M_gather_j105 s0 l0 l1 l2 l3 l4 l5 l6 B39 K39_176 h Q) : WP M_M_gather 105 [(0, xr l0), (1, xi l1), (2, xi l2), (3, xi l3), (4, xi l4), (5, xi l5), (6, xi l6)] [xi s0] h 0 (qi Q) := by
  unfold p_M_gather_j105 at H
  refine wp_istore (Nat.le_of_ble_eq_true rfl) dX11_gather_105 (ls' := [(7, xi s0), (0, xr l0), (1, xi l1), (2, xi l2), (3, xi l3), (4, xi l4), (5, xi l5), (6, xi l6)]) rfl ?_
  refine wp_iload rfl dX11_gather_107 ?_
  refine WP.at 109 rfl ?_
  refine wp_if_le 119 (by decide) dX11_gather_109 (fun c26 => ?_) (fun c26 => ?_)
  · replace H := H.1 c26
    refine wp_bipush (12 : Int32) (by decide) dX11_gather_119 ?_
    refine wp_iload_n 3 rfl rfl dX11_gather_121 ?_
    refine wp_imul dX11_gather_122 ?_
    refine wp_iload rfl dX11_gather_123 ?_
    refine wp_iadd dX11_gather_125 ?_
    refine wp_iload rfl dX11_gather_126 ?_
    refine wp_iadd dX11_gather_128 ?_
    refine WP.at 129 rfl ?_
    refine wp_nm (fun v27 e28 => ?_)
    replace H := H v27 e28
    refine wp_istore (Nat.le_of_ble_eq_true rfl) dX11_gather_129 (ls' := [(8, xi v27), (7, xi s0), (0, xr l0), (1, xi l1), (2, xi l2), (3, xi l3), (4, xi l4), (5, xi l5), (6, xi l6)]) rfl ?_
    refine wp_aload_n 0 rfl rfl dX11_gather_131 ?_
    obtain ⟨q29, H⟩ := H
    refine wp_getr coX11 53 (Nat.le_of_ble_eq_true rfl) fl_X11_128 rfl q29 dX11_gather_132 ?_
    refine wp_iload rfl dX11_gather_135 ?_
    obtain ⟨q30, H⟩ := H
    obtain ⟨q31, H⟩ := H
    refine wp_iaload q30 q31 dX11_gather_137 ?_
    refine wp_iconst (1 : Int32) (by decide) dX11_gather_138 ?_
    refine WP.at 139 rfl ?_
    refine wp_icmp_ne 152 (by decide) dX11_gather_139 (fun c32 => ?_) (fun c32 => ?_)
    · replace H := H.1 c32
      refine wp_iconst (-1 : Int32) (by decide) dX11_gather_152 ?_
      refine WP.at 153 rfl ?_
      exact WP.pick [2, 3, 4, 5, 6, 7, 8, 0] rfl (t_M_gather_j153 (-1 : Int32) l0 l1 l2 l3 l4 l5 l6 v27 _ _ _ _ hB39 hK39_176 H)
    · replace H := H.2 c32
      refine wp_aload_n 0 rfl rfl dX11_gather_142 ?_
      refine wp_getr coX11 54 (Nat.le_of_ble_eq_true rfl) fl_X11_131 rfl q29 dX11_gather_143 ?_
      refine wp_iload rfl dX11_gather_146 ?_
      obtain ⟨q48, H⟩ := H
      obtain ⟨q49, H⟩ := H
      refine wp_iaload q48 q49 dX11_gather_148 ?_
      refine WP.at 149 rfl ?_
      refine wp_goto 153 (by decide) dX11_gather_149 ?_
      exact WP.pick [2, 3, 4, 5, 6, 7, 8, 0] rfl (t_M_gather_j153 (hI h (hR h l0 54) v27.toNatClampNeg) l0 l1 l2 l3 l4 l5 l6 v27 _ _ _ _ hB39 hK39_176 H)
  · replace H := H.2 c26
    refine wp_aload_n 0 rfl rfl dX11_gather_112 ?_
    refine wp_iload rfl dX11_gather_113 ?_
    refine WP.at 115 rfl ?_
    obtain ⟨q50, H⟩ := H
    refine wp_cVi (M2 := M_M_meets) coX11 l0 q50 [xi s0] rfl lv_X11_316 mo_M_meets (Nat.le_of_ble_eq_true rfl) ⟨(Nat.le_of_ble_eq_true rfl), (Nat.le_of_ble_eq_true rfl)⟩ (Nat.le_of_ble_eq_true rfl) (Nat.le_of_ble_eq_true rfl) dX11_gather_115 (t_M_meets l0 s0 _ _ H) (fun v52 h51 H => ?_)
    exact wp_iret trivial dX11_gather_118 H
def p_M_gather_L39 (l0 : xN) (l1 : Int32) (l2 : Int32) (l3 : Int32) (l4 : Int32) (l5 : Int32) (K39_176 : xH → Prop) (K39_214 : xH → Prop) (Q : Int32 → xH → Prop) : Nat → Int32 → xH → Prop
  | 0, _, _ => False
  | f + 1, l6, h => ((l5 ≤ l6 → K39_214 h) ∧ (¬ l5 ≤ l6 → (kd l0.1 = (1, 10)) ∧ p_M_lacks l0 l3 (l4 + l6) h (fun (v16 : Int32) (h15 : xH) => ((v16 ≤ 0 → (kd (hR h15 l0 58).1 = (3, 0)) ∧ (vp_in l1 (hS h15 (hR h15 l0 58) - 1)) ∧ ((¬ (hI h15 (hR h15 l0 58) l1.toNatClampNeg) = 0 → (kd (hR h15 l0 60).1 = (2, 0)) ∧ (vp_in l1 (hS h15 (hR h15 l0 60) - 1)) ∧ p_M_in (l2 + l6) (0 : Int32) ((hI h15 (hR h15 l0 60) l1.toNatClampNeg) - (1 : Int32)) h15 (fun (v24 : Int32) (h23 : xH) => ((v24 = 0 → p_M_gather_j105 (2 : Int32) l0 l1 l2 l3 l4 l5 l6 (p_M_gather_L39 l0 l1 l2 l3 l4 l5 K39_176 K39_214 Q f) K39_176 h23 Q) ∧ (¬ v24 = 0 → p_M_gather_j105 (0 : Int32) l0 l1 l2 l3 l4 l5 l6 (p_M_gather_L39 l0 l1 l2 l3 l4 l5 K39_176 K39_214 Q f) K39_176 h23 Q)))) ∧ ((hI h15 (hR h15 l0 58) l1.toNatClampNeg) = 0 → p_M_gather_j105 (1 : Int32) l0 l1 l2 l3 l4 l5 l6 (p_M_gather_L39 l0 l1 l2 l3 l4 l5 K39_176 K39_214 Q f) K39_176 h15 Q))) ∧ (¬ v16 ≤ 0 → p_M_gather_j105 v16 l0 l1 l2 l3 l4 l5 l6 (p_M_gather_L39 l0 l1 l2 l3 l4 l5 K39_176 K39_214 Q f) K39_176 h15 Q)))))
set_option maxRecDepth 100000 in
set_option maxHeartbeats 4000000 in
theorem t_M_gather_L39 (l0 : xN) (l1 : Int32) (l2 : Int32) (l3 : Int32) (l4 : Int32) (l5 : Int32) (K39_176 : xH → Prop) (K39_214 : xH → Prop) (Q : Int32 → xH → Prop) (hK39_176 : ∀ (h : xH), K39_176 h → WP M_M_gather 176 [(0, xr l0)] [] h 0 (qi Q)) (hK39_214 : ∀ (h : xH), K39_214 h → WP M_M_gather 214 [(5, xi l5)] [] h 0 (qi Q)) : ∀ (f : Nat) (l6 : Int32) (h : xH), p_M_gather_L39 l0 l1 l2 l3 l4 l5 K39_176 K39_214 Q f l6 h → WP M_M_gather 39 [(0, xr l0), (1, xi l1), (2, xi l2), (3, xi l3), (4, xi l4), (5, xi l5), (6, xi l6)] [] h 0 (qi Q) := by
  intro f
  induction f with
  | zero => exact fun _ _ H => H.elim
  | succ f hB39 =>
    intro l6 h H
    unfold p_M_gather_L39 at H
    refine wp_iload rfl dX11_gather_39 ?_
    refine wp_iload rfl dX11_gather_41 ?_
    refine WP.at 43 rfl ?_
    refine wp_icmp_ge 214 (by decide) dX11_gather_43 (fun c13 => ?_) (fun c13 => ?_)
    · replace H := H.1 c13
      exact WP.pick [5] rfl (hK39_214 _ H)
    · replace H := H.2 c13
      refine wp_aload_n 0 rfl rfl dX11_gather_46 ?_
      refine wp_iload_n 3 rfl rfl dX11_gather_47 ?_
      refine wp_iload rfl dX11_gather_48 ?_
      refine wp_iload rfl dX11_gather_50 ?_
      refine wp_iadd dX11_gather_52 ?_
      refine WP.at 53 rfl ?_
      obtain ⟨q14, H⟩ := H
      refine wp_cVi (M2 := M_M_lacks) coX11 l0 q14 [xi l3, xi (l4 + l6)] rfl lv_X11_329 mo_M_lacks (Nat.le_of_ble_eq_true rfl) ⟨(Nat.le_of_ble_eq_true rfl), (Nat.le_of_ble_eq_true rfl)⟩ (Nat.le_of_ble_eq_true rfl) (Nat.le_of_ble_eq_true rfl) dX11_gather_53 (t_M_lacks l0 l3 (l4 + l6) _ _ H) (fun v16 h15 H => ?_)
      refine wp_istore (Nat.le_of_ble_eq_true rfl) dX11_gather_56 (ls' := [(7, xi v16), (0, xr l0), (1, xi l1), (2, xi l2), (3, xi l3), (4, xi l4), (5, xi l5), (6, xi l6)]) rfl ?_
      refine WP.at 58 rfl ?_
      refine wp_iload rfl dX11_gather_58 ?_
      refine WP.at 60 rfl ?_
      refine wp_if_le 68 (by decide) dX11_gather_60 (fun c17 => ?_) (fun c17 => ?_)
      · replace H := H.1 c17
        refine wp_aload_n 0 rfl rfl dX11_gather_68 ?_
        refine wp_getr coX11 58 (Nat.le_of_ble_eq_true rfl) fl_X11_143 rfl q14 dX11_gather_69 ?_
        refine wp_iload_n 1 rfl rfl dX11_gather_72 ?_
        obtain ⟨q18, H⟩ := H
        obtain ⟨q19, H⟩ := H
        refine wp_baload q18 q19 dX11_gather_73 ?_
        refine WP.at 74 rfl ?_
        refine wp_if_ne 81 (by decide) dX11_gather_74 (fun c20 => ?_) (fun c20 => ?_)
        · replace H := H.1 c20
          refine wp_iload_n 2 rfl rfl dX11_gather_81 ?_
          refine wp_iload rfl dX11_gather_82 ?_
          refine wp_iadd dX11_gather_84 ?_
          refine wp_iconst (0 : Int32) (by decide) dX11_gather_85 ?_
          refine wp_aload_n 0 rfl rfl dX11_gather_86 ?_
          refine wp_getr coX11 60 (Nat.le_of_ble_eq_true rfl) fl_X11_149 rfl q14 dX11_gather_87 ?_
          refine wp_iload_n 1 rfl rfl dX11_gather_90 ?_
          refine WP.at 91 rfl ?_
          obtain ⟨q21, H⟩ := H
          obtain ⟨q22, H⟩ := H
          refine wp_iaload q21 q22 dX11_gather_91 ?_
          refine wp_iconst (1 : Int32) (by decide) dX11_gather_92 ?_
          refine wp_isub dX11_gather_93 ?_
          refine WP.at 94 rfl ?_
          refine wp_cSi (M2 := M_M_in) [xi (l2 + l6), xi (0 : Int32), xi ((hI h15 (hR h15 l0 60) l1.toNatClampNeg) - (1 : Int32))] rfl ls_X11_172 mo_M_in (Nat.le_of_ble_eq_true rfl) ⟨(Nat.le_of_ble_eq_true rfl), (Nat.le_of_ble_eq_true rfl)⟩ (Nat.le_of_ble_eq_true rfl) (Nat.le_of_ble_eq_true rfl) dX11_gather_94 (t_M_in (l2 + l6) (0 : Int32) ((hI h15 (hR h15 l0 60) l1.toNatClampNeg) - (1 : Int32)) _ _ H) (fun v24 h23 H => ?_)
          refine WP.at 97 rfl ?_
          refine wp_if_eq 104 (by decide) dX11_gather_97 (fun c25 => ?_) (fun c25 => ?_)
          · replace H := H.1 c25
            refine wp_iconst (2 : Int32) (by decide) dX11_gather_104 ?_
            refine WP.at 105 rfl ?_
            exact WP.pick [1, 2, 3, 4, 5, 6, 7] rfl (t_M_gather_j105 (2 : Int32) l0 l1 l2 l3 l4 l5 l6 _ _ _ _ hB39 hK39_176 H)
          · replace H := H.2 c25
            refine wp_iconst (0 : Int32) (by decide) dX11_gather_100 ?_
            refine WP.at 101 rfl ?_
            refine wp_goto 105 (by decide) dX11_gather_101 ?_
            exact WP.pick [1, 2, 3, 4, 5, 6, 7] rfl (t_M_gather_j105 (0 : Int32) l0 l1 l2 l3 l4 l5 l6 _ _ _ _ hB39 hK39_176 H)
        · replace H := H.2 c20
          refine wp_iconst (1 : Int32) (by decide) dX11_gather_77 ?_
          refine WP.at 78 rfl ?_
          refine wp_goto 105 (by decide) dX11_gather_78 ?_
          exact WP.pick [1, 2, 3, 4, 5, 6, 7] rfl (t_M_gather_j105 (1 : Int32) l0 l1 l2 l3 l4 l5 l6 _ _ _ _ hB39 hK39_176 H)
      · replace H := H.2 c17
        refine wp_iload rfl dX11_gather_63 ?_
        refine WP.at 65 rfl ?_
        refine wp_goto 105 (by decide) dX11_gather_65 ?_
        exact WP.pick [1, 2, 3, 4, 5, 6, 7] rfl (t_M_gather_j105 v16 l0 l1 l2 l3 l4 l5 l6 _ _ _ _ hB39 hK39_176 H)
def p_M_gather_j176 (l0 : xN) (h : xH) (Q : Int32 → xH → Prop) : Prop := (kd l0.1 = (1, 10)) ∧ p_M_meets l0 (4 : Int32) h (fun (v56 : Int32) (h55 : xH) => Q v56 h55)
set_option maxRecDepth 100000 in
set_option maxHeartbeats 4000000 in
theorem t_M_gather_j176 (l0 : xN) (h : xH) (Q : Int32 → xH → Prop) (H : p_M_gather_j176 l0 h Q) : WP M_M_gather 176 [(0, xr l0)] [] h 0 (qi Q) := by
  unfold p_M_gather_j176 at H
  refine wp_aload_n 0 rfl rfl dX11_gather_176 ?_
  refine wp_iconst (4 : Int32) (by decide) dX11_gather_177 ?_
  refine WP.at 178 rfl ?_
  obtain ⟨q54, H⟩ := H
  refine wp_cVi (M2 := M_M_meets) coX11 l0 q54 [xi (4 : Int32)] rfl lv_X11_316 mo_M_meets (Nat.le_of_ble_eq_true rfl) ⟨(Nat.le_of_ble_eq_true rfl), (Nat.le_of_ble_eq_true rfl)⟩ (Nat.le_of_ble_eq_true rfl) (Nat.le_of_ble_eq_true rfl) dX11_gather_178 (t_M_meets l0 (4 : Int32) _ _ H) (fun v56 h55 H => ?_)
  exact wp_iret trivial dX11_gather_181 H
def p_M_gather (l0 : xN) (l1 : Int32) (l2 : Int32) (l3 : Int32) (l4 : Int32) (l5 : Int32) (h : xH) (Q : Int32 → xH → Prop) : Prop := p_M_isSatchel l1 h (fun (v2 : Int32) (h1 : xH) => ((v2 = 0 → Q (-2 : Int32) h1) ∧ (¬ v2 = 0 → p_M_isWindow l3 h1 (fun (v5 : Int32) (h4 : xH) => ((¬ v5 = 0 → p_M_in l5 (0 : Int32) (12 : Int32) h4 (fun (v8 : Int32) (h7 : xH) => ((¬ v8 = 0 → (kd l0.1 = (1, 10)) ∧ ∀ h11 : xH, h11 = sI h7 l0 62 (0 : Int32) → (∃ f58, p_M_gather_L39 l0 l1 l2 l3 l4 l5 (fun (h53 : xH) => p_M_gather_j176 l0 h53 Q) (fun (h57 : xH) => Q l5 h57) Q f58 (0 : Int32) h11)) ∧ (v8 = 0 → Q (-3 : Int32) h7)))) ∧ (v5 = 0 → Q (-2 : Int32) h4))))))
set_option maxRecDepth 100000 in
set_option maxHeartbeats 4000000 in
theorem t_M_gather (l0 : xN) (l1 : Int32) (l2 : Int32) (l3 : Int32) (l4 : Int32) (l5 : Int32) (h : xH) (Q : Int32 → xH → Prop) (H : p_M_gather l0 l1 l2 l3 l4 l5 h Q) : WP M_M_gather 0 [(0, xr l0), (1, xi l1), (2, xi l2), (3, xi l3), (4, xi l4), (5, xi l5)] [] h 0 (qi Q) := by
  unfold p_M_gather at H
  refine wp_iload_n 1 rfl rfl dX11_gather_0 ?_
  refine WP.at 1 rfl ?_
  refine wp_cSi (M2 := M_M_isSatchel) [xi l1] rfl ls_X11_347 mo_M_isSatchel (Nat.le_of_ble_eq_true rfl) ⟨(Nat.le_of_ble_eq_true rfl), (Nat.le_of_ble_eq_true rfl)⟩ (Nat.le_of_ble_eq_true rfl) (Nat.le_of_ble_eq_true rfl) dX11_gather_1 (t_M_isSatchel l1 _ _ H) (fun v2 h1 H => ?_)
  refine WP.at 4 rfl ?_
  refine wp_if_eq 14 (by decide) dX11_gather_4 (fun c3 => ?_) (fun c3 => ?_)
  · replace H := H.1 c3
    refine wp_bipush (-2 : Int32) (by decide) dX11_gather_14 ?_
    exact wp_iret trivial dX11_gather_16 H
  · replace H := H.2 c3
    refine wp_iload_n 3 rfl rfl dX11_gather_7 ?_
    refine WP.at 8 rfl ?_
    refine wp_cSi (M2 := M_M_isWindow) [xi l3] rfl ls_X11_326 mo_M_isWindow (Nat.le_of_ble_eq_true rfl) ⟨(Nat.le_of_ble_eq_true rfl), (Nat.le_of_ble_eq_true rfl)⟩ (Nat.le_of_ble_eq_true rfl) (Nat.le_of_ble_eq_true rfl) dX11_gather_8 (t_M_isWindow l3 _ _ H) (fun v5 h4 H => ?_)
    refine WP.at 11 rfl ?_
    refine wp_if_ne 17 (by decide) dX11_gather_11 (fun c6 => ?_) (fun c6 => ?_)
    · replace H := H.1 c6
      refine wp_iload rfl dX11_gather_17 ?_
      refine wp_iconst (0 : Int32) (by decide) dX11_gather_19 ?_
      refine wp_bipush (12 : Int32) (by decide) dX11_gather_20 ?_
      refine WP.at 22 rfl ?_
      refine wp_cSi (M2 := M_M_in) [xi l5, xi (0 : Int32), xi (12 : Int32)] rfl ls_X11_172 mo_M_in (Nat.le_of_ble_eq_true rfl) ⟨(Nat.le_of_ble_eq_true rfl), (Nat.le_of_ble_eq_true rfl)⟩ (Nat.le_of_ble_eq_true rfl) (Nat.le_of_ble_eq_true rfl) dX11_gather_22 (t_M_in l5 (0 : Int32) (12 : Int32) _ _ H) (fun v8 h7 H => ?_)
      refine WP.at 25 rfl ?_
      refine wp_if_ne 31 (by decide) dX11_gather_25 (fun c9 => ?_) (fun c9 => ?_)
      · replace H := H.1 c9
        refine wp_aload_n 0 rfl rfl dX11_gather_31 ?_
        refine wp_iconst (0 : Int32) (by decide) dX11_gather_32 ?_
        obtain ⟨q10, H⟩ := H
        refine wp_puti coX11 62 (Nat.le_of_ble_eq_true rfl) fl_X11_350 rfl rfl ⟨rfl, rfl⟩ q10 dX11_gather_33 ?_
        refine wp_nh (fun h11 e12 => ?_)
        replace H := H h11 e12
        refine wp_iconst (0 : Int32) (by decide) dX11_gather_36 ?_
        refine wp_istore (Nat.le_of_ble_eq_true rfl) dX11_gather_37 (ls' := [(6, xi (0 : Int32)), (0, xr l0), (1, xi l1), (2, xi l2), (3, xi l3), (4, xi l4), (5, xi l5)]) rfl ?_
        refine WP.at 39 rfl ?_
        obtain ⟨f58, H⟩ := H
        refine WP.pick [1, 2, 3, 4, 5, 6, 0] rfl (t_M_gather_L39 l0 l1 l2 l3 l4 l5 _ _ Q ?_ ?_ f58 (0 : Int32) _ H)
        · intro h53 H
          exact WP.pick [0] rfl (t_M_gather_j176 l0 _ _ H)
        · intro h57 H
          refine wp_iload rfl dX11_gather_214 ?_
          exact wp_iret trivial dX11_gather_216 H
      · replace H := H.2 c9
        refine wp_bipush (-3 : Int32) (by decide) dX11_gather_28 ?_
        exact wp_iret trivial dX11_gather_30 H
    · replace H := H.2 c6
      refine wp_bipush (-2 : Int32) (by decide) dX11_gather_14 ?_
      exact wp_iret trivial dX11_gather_16 H
def p_T_shift_j63 (l0 : xN) (h : xH) (Q : Int32 → xH → Prop) : Prop := (kd l0.1 = (1, 9)) ∧ p_T_found l0 (1 : Int32) h (fun (v18 : Int32) (h17 : xH) => Q v18 h17)
set_option maxRecDepth 100000 in
set_option maxHeartbeats 4000000 in
theorem t_T_shift_j63 (l0 : xN) (h : xH) (Q : Int32 → xH → Prop) (H : p_T_shift_j63 l0 h Q) : WP M_T_shift 63 [(0, xr l0)] [] h 0 (qi Q) := by
  unfold p_T_shift_j63 at H
  refine wp_aload_n 0 rfl rfl dX10_shift_63 ?_
  refine wp_iconst (1 : Int32) (by decide) dX10_shift_64 ?_
  refine WP.at 65 rfl ?_
  obtain ⟨q16, H⟩ := H
  refine wp_cVi (M2 := M_T_found) coX10 l0 q16 [xi (1 : Int32)] rfl lv_X10_272 mo_T_found (Nat.le_of_ble_eq_true rfl) ⟨(Nat.le_of_ble_eq_true rfl), (Nat.le_of_ble_eq_true rfl)⟩ (Nat.le_of_ble_eq_true rfl) (Nat.le_of_ble_eq_true rfl) dX10_shift_65 (t_T_found l0 (1 : Int32) _ _ H) (fun v18 h17 H => ?_)
  exact wp_iret trivial dX10_shift_68 H
def p_T_shift_j136 (l0 : xN) (l1 : Int32) (l2 : Int32) (l3 : Int32) (l4 : Int32) (l5 : Int32) (l6 : Int32) (l7 : Int32) (B92 : Int32 → xH → Prop) (h : xH) (Q : Int32 → xH → Prop) : Prop := ((l7 = 0 → (kd l0.1 = (1, 9)) ∧ ∀ h36 : xH, h36 = sI h l0 14 ((hI h l0 14) + (1 : Int32)) → ∀ v38 : Int32, v38 = l6 + (1 : Int32) → B92 v38 h36) ∧ (¬ l7 = 0 → Q l7 h))
set_option maxRecDepth 100000 in
set_option maxHeartbeats 4000000 in
theorem t_T_shift_j136 (l0 : xN) (l1 : Int32) (l2 : Int32) (l3 : Int32) (l4 : Int32) (l5 : Int32) (l6 : Int32) (l7 : Int32) (B92 : Int32 → xH → Prop) (h : xH) (Q : Int32 → xH → Prop) (hB92 : ∀ (x6 : Int32) (h : xH), B92 x6 h → WP M_T_shift 92 [(0, xr l0), (1, xi l1), (2, xi l2), (3, xi l3), (4, xi l4), (5, xi l5), (6, xi x6)] [] h 0 (qi Q)) (H : p_T_shift_j136 l0 l1 l2 l3 l4 l5 l6 l7 B92 h Q) : WP M_T_shift 136 [(0, xr l0), (1, xi l1), (2, xi l2), (3, xi l3), (4, xi l4), (5, xi l5), (6, xi l6), (7, xi l7)] [] h 0 (qi Q) := by
  unfold p_T_shift_j136 at H
  refine wp_iload rfl dX10_shift_136 ?_
  refine WP.at 138 rfl ?_
  refine wp_if_eq 144 (by decide) dX10_shift_138 (fun c34 => ?_) (fun c34 => ?_)
  · replace H := H.1 c34
    refine wp_aload_n 0 rfl rfl dX10_shift_144 ?_
    refine wp_dup rfl dX10_shift_145 ?_
    obtain ⟨q35, H⟩ := H
    refine wp_geti coX10 14 (Nat.le_of_ble_eq_true rfl) fl_X10_330 rfl q35 dX10_shift_146 ?_
    refine wp_iconst (1 : Int32) (by decide) dX10_shift_149 ?_
    refine wp_iadd dX10_shift_150 ?_
    refine wp_puti coX10 14 (Nat.le_of_ble_eq_true rfl) fl_X10_330 rfl rfl ⟨rfl, rfl⟩ q35 dX10_shift_151 ?_
    refine wp_nh (fun h36 e37 => ?_)
    replace H := H h36 e37
    refine wp_iincN (1 : Int32) (by decide) rfl (Nat.le_of_ble_eq_true rfl) dX10_shift_154 (ls' := fun v38 => [(6, xi v38), (0, xr l0), (1, xi l1), (2, xi l2), (3, xi l3), (4, xi l4), (5, xi l5), (7, xi l7)]) (fun _ => rfl) (fun v38 e39 => ?_)
    replace H := H v38 e39
    refine WP.at 157 rfl ?_
    refine WP.at 157 rfl ?_
    refine wp_goto 92 (by decide) dX10_shift_157 ?_
    exact WP.pick [1, 2, 3, 4, 5, 6, 0] rfl (hB92 v38 _ H)
  · replace H := H.2 c34
    refine wp_iload rfl dX10_shift_141 ?_
    exact wp_iret trivial dX10_shift_143 H
def p_T_shift_L92 (l0 : xN) (l1 : Int32) (l2 : Int32) (l3 : Int32) (l4 : Int32) (l5 : Int32) (K92_160 : xH → Prop) (Q : Int32 → xH → Prop) : Nat → Int32 → xH → Prop
  | 0, _, _ => False
  | f + 1, l6, h => ((l5 ≤ l6 → K92_160 h) ∧ (¬ l5 ≤ l6 → (kd l0.1 = (1, 9)) ∧ p_T_refusePlace l0 l1 (l2 + l6) h (fun (v32 : Int32) (h31 : xH) => ((¬ v32 = 0 → p_T_shift_j136 l0 l1 l2 l3 l4 l5 l6 v32 (p_T_shift_L92 l0 l1 l2 l3 l4 l5 K92_160 Q f) h31 Q) ∧ (v32 = 0 → (kd (hR h31 l0 8).1 = (2, 0)) ∧ (vp_in (l2 + l6) (hS h31 (hR h31 l0 8) - 1)) ∧ p_T_putIn l0 l3 (l4 + l6) (hI h31 (hR h31 l0 8) (l2 + l6).toNatClampNeg) h31 (fun (v43 : Int32) (h42 : xH) => p_T_shift_j136 l0 l1 l2 l3 l4 l5 l6 v43 (p_T_shift_L92 l0 l1 l2 l3 l4 l5 K92_160 Q f) h42 Q))))))
set_option maxRecDepth 100000 in
set_option maxHeartbeats 4000000 in
theorem t_T_shift_L92 (l0 : xN) (l1 : Int32) (l2 : Int32) (l3 : Int32) (l4 : Int32) (l5 : Int32) (K92_160 : xH → Prop) (Q : Int32 → xH → Prop) (hK92_160 : ∀ (h : xH), K92_160 h → WP M_T_shift 160 [(5, xi l5)] [] h 0 (qi Q)) : ∀ (f : Nat) (l6 : Int32) (h : xH), p_T_shift_L92 l0 l1 l2 l3 l4 l5 K92_160 Q f l6 h → WP M_T_shift 92 [(0, xr l0), (1, xi l1), (2, xi l2), (3, xi l3), (4, xi l4), (5, xi l5), (6, xi l6)] [] h 0 (qi Q) := by
  intro f
  induction f with
  | zero => exact fun _ _ H => H.elim
  | succ f hB92 =>
    intro l6 h H
    unfold p_T_shift_L92 at H
    refine wp_iload rfl dX10_shift_92 ?_
    refine wp_iload rfl dX10_shift_94 ?_
    refine WP.at 96 rfl ?_
    refine wp_icmp_ge 160 (by decide) dX10_shift_96 (fun c29 => ?_) (fun c29 => ?_)
    · replace H := H.1 c29
      exact WP.pick [5] rfl (hK92_160 _ H)
    · replace H := H.2 c29
      refine wp_aload_n 0 rfl rfl dX10_shift_99 ?_
      refine wp_iload_n 1 rfl rfl dX10_shift_100 ?_
      refine wp_iload_n 2 rfl rfl dX10_shift_101 ?_
      refine wp_iload rfl dX10_shift_102 ?_
      refine wp_iadd dX10_shift_104 ?_
      refine WP.at 105 rfl ?_
      obtain ⟨q30, H⟩ := H
      refine wp_cVi (M2 := M_T_refusePlace) coX10 l0 q30 [xi l1, xi (l2 + l6)] rfl lv_X10_349 mo_T_refusePlace (Nat.le_of_ble_eq_true rfl) ⟨(Nat.le_of_ble_eq_true rfl), (Nat.le_of_ble_eq_true rfl)⟩ (Nat.le_of_ble_eq_true rfl) (Nat.le_of_ble_eq_true rfl) dX10_shift_105 (t_T_refusePlace l0 l1 (l2 + l6) _ _ H) (fun v32 h31 H => ?_)
      refine wp_istore (Nat.le_of_ble_eq_true rfl) dX10_shift_108 (ls' := [(7, xi v32), (0, xr l0), (1, xi l1), (2, xi l2), (3, xi l3), (4, xi l4), (5, xi l5), (6, xi l6)]) rfl ?_
      refine WP.at 110 rfl ?_
      refine wp_iload rfl dX10_shift_110 ?_
      refine WP.at 112 rfl ?_
      refine wp_if_ne 136 (by decide) dX10_shift_112 (fun c33 => ?_) (fun c33 => ?_)
      · replace H := H.1 c33
        exact WP.pick [1, 2, 3, 4, 5, 6, 7, 0] rfl (t_T_shift_j136 l0 l1 l2 l3 l4 l5 l6 v32 _ _ _ hB92 H)
      · replace H := H.2 c33
        refine wp_aload_n 0 rfl rfl dX10_shift_115 ?_
        refine wp_iload_n 3 rfl rfl dX10_shift_116 ?_
        refine wp_iload rfl dX10_shift_117 ?_
        refine wp_iload rfl dX10_shift_119 ?_
        refine wp_iadd dX10_shift_121 ?_
        refine wp_aload_n 0 rfl rfl dX10_shift_122 ?_
        refine wp_getr coX10 8 (Nat.le_of_ble_eq_true rfl) fl_X10_60 rfl q30 dX10_shift_123 ?_
        refine WP.at 126 rfl ?_
        refine wp_iload_n 2 rfl rfl dX10_shift_126 ?_
        refine wp_iload rfl dX10_shift_127 ?_
        refine wp_iadd dX10_shift_129 ?_
        obtain ⟨q40, H⟩ := H
        obtain ⟨q41, H⟩ := H
        refine wp_iaload q40 q41 dX10_shift_130 ?_
        refine WP.at 131 rfl ?_
        refine wp_cVi (M2 := M_T_putIn) coX10 l0 q30 [xi l3, xi (l4 + l6), xi (hI h31 (hR h31 l0 8) (l2 + l6).toNatClampNeg)] rfl lv_X10_336 mo_T_putIn (Nat.le_of_ble_eq_true rfl) ⟨(Nat.le_of_ble_eq_true rfl), (Nat.le_of_ble_eq_true rfl)⟩ (Nat.le_of_ble_eq_true rfl) (Nat.le_of_ble_eq_true rfl) dX10_shift_131 (t_T_putIn l0 l3 (l4 + l6) (hI h31 (hR h31 l0 8) (l2 + l6).toNatClampNeg) _ _ H) (fun v43 h42 H => ?_)
        refine wp_istore (Nat.le_of_ble_eq_true rfl) dX10_shift_134 (ls' := [(7, xi v43), (0, xr l0), (1, xi l1), (2, xi l2), (3, xi l3), (4, xi l4), (5, xi l5), (6, xi l6)]) rfl ?_
        refine WP.at 136 rfl ?_
        exact WP.pick [1, 2, 3, 4, 5, 6, 7, 0] rfl (t_T_shift_j136 l0 l1 l2 l3 l4 l5 l6 v43 _ _ _ hB92 H)
def p_T_shift (l0 : xN) (l1 : Int32) (l2 : Int32) (l3 : Int32) (l4 : Int32) (l5 : Int32) (h : xH) (Q : Int32 → xH → Prop) : Prop := p_T_isSatchel l1 h (fun (v2 : Int32) (h1 : xH) => ((v2 = 0 → Q (-2 : Int32) h1) ∧ (¬ v2 = 0 → p_T_isSatchel l3 h1 (fun (v5 : Int32) (h4 : xH) => ((¬ v5 = 0 → ((l5 < 0 → Q (-3 : Int32) h4) ∧ (¬ l5 < 0 → ((l5 ≤ (10 : Int32) → (kd l0.1 = (1, 9)) ∧ ∀ h10 : xH, h10 = sI h4 l0 14 (0 : Int32) → (kd (hR h10 l0 4).1 = (5, 5)) ∧ (vp_in l1 (hS h10 (hR h10 l0 4) - 1)) ∧ (kd (hR h10 (hR h10 l0 4) l1.toNatClampNeg).1 = (1, 5)) ∧ (((hI h10 (hR h10 (hR h10 l0 4) l1.toNatClampNeg) 2) = (-1 : Int32) → p_T_shift_j63 l0 h10 Q) ∧ (¬ (hI h10 (hR h10 (hR h10 l0 4) l1.toNatClampNeg) 2) = (-1 : Int32) → (vp_in l3 (hS h10 (hR h10 l0 4) - 1)) ∧ (kd (hR h10 (hR h10 l0 4) l3.toNatClampNeg).1 = (1, 5)) ∧ ((¬ (hI h10 (hR h10 (hR h10 l0 4) l3.toNatClampNeg) 2) = (-1 : Int32) → (vp_in l1 (hS h10 (hR h10 l0 4) - 1)) ∧ (kd (hR h10 (hR h10 (hR h10 l0 4) l1.toNatClampNeg) 0).1 = (2, 0)) ∧ (kd (hR h10 l0 8).1 = (2, 0)) ∧ ((0 : Int32).toNatClampNeg + (10 : Int32).toNatClampNeg ≤ hS h10 (hR h10 (hR h10 (hR h10 l0 4) l1.toNatClampNeg) 0) - 1) ∧ ((0 : Int32).toNatClampNeg + (10 : Int32).toNatClampNeg ≤ hS h10 (hR h10 l0 8) - 1) ∧ ∀ h27 : xH, h27 = sA h10 (hR h10 l0 8) (va_cpy (hI h10 (hR h10 (hR h10 (hR h10 l0 4) l1.toNatClampNeg) 0)) (hI h10 (hR h10 l0 8)) (0 : Int32).toNatClampNeg (0 : Int32).toNatClampNeg (10 : Int32).toNatClampNeg) → (∃ f45, p_T_shift_L92 l0 l1 l2 l3 l4 l5 (fun (h44 : xH) => Q l5 h44) Q f45 (0 : Int32) h27)) ∧ ((hI h10 (hR h10 (hR h10 l0 4) l3.toNatClampNeg) 2) = (-1 : Int32) → p_T_shift_j63 l0 h10 Q))))) ∧ (¬ l5 ≤ (10 : Int32) → Q (-3 : Int32) h4))))) ∧ (v5 = 0 → Q (-2 : Int32) h4))))))
set_option maxRecDepth 100000 in
set_option maxHeartbeats 4000000 in
theorem t_T_shift (l0 : xN) (l1 : Int32) (l2 : Int32) (l3 : Int32) (l4 : Int32) (l5 : Int32) (h : xH) (Q : Int32 → xH → Prop) (H : p_T_shift l0 l1 l2 l3 l4 l5 h Q) : WP M_T_shift 0 [(0, xr l0), (1, xi l1), (2, xi l2), (3, xi l3), (4, xi l4), (5, xi l5)] [] h 0 (qi Q) := by
  unfold p_T_shift at H
  refine wp_iload_n 1 rfl rfl dX10_shift_0 ?_
  refine WP.at 1 rfl ?_
  refine wp_cSi (M2 := M_T_isSatchel) [xi l1] rfl ls_X10_324 mo_T_isSatchel (Nat.le_of_ble_eq_true rfl) ⟨(Nat.le_of_ble_eq_true rfl), (Nat.le_of_ble_eq_true rfl)⟩ (Nat.le_of_ble_eq_true rfl) (Nat.le_of_ble_eq_true rfl) dX10_shift_1 (t_T_isSatchel l1 _ _ H) (fun v2 h1 H => ?_)
  refine WP.at 4 rfl ?_
  refine wp_if_eq 14 (by decide) dX10_shift_4 (fun c3 => ?_) (fun c3 => ?_)
  · replace H := H.1 c3
    refine wp_bipush (-2 : Int32) (by decide) dX10_shift_14 ?_
    exact wp_iret trivial dX10_shift_16 H
  · replace H := H.2 c3
    refine wp_iload_n 3 rfl rfl dX10_shift_7 ?_
    refine WP.at 8 rfl ?_
    refine wp_cSi (M2 := M_T_isSatchel) [xi l3] rfl ls_X10_324 mo_T_isSatchel (Nat.le_of_ble_eq_true rfl) ⟨(Nat.le_of_ble_eq_true rfl), (Nat.le_of_ble_eq_true rfl)⟩ (Nat.le_of_ble_eq_true rfl) (Nat.le_of_ble_eq_true rfl) dX10_shift_8 (t_T_isSatchel l3 _ _ H) (fun v5 h4 H => ?_)
    refine WP.at 11 rfl ?_
    refine wp_if_ne 17 (by decide) dX10_shift_11 (fun c6 => ?_) (fun c6 => ?_)
    · replace H := H.1 c6
      refine wp_iload rfl dX10_shift_17 ?_
      refine WP.at 19 rfl ?_
      refine wp_if_lt 29 (by decide) dX10_shift_19 (fun c7 => ?_) (fun c7 => ?_)
      · replace H := H.1 c7
        refine wp_bipush (-3 : Int32) (by decide) dX10_shift_29 ?_
        exact wp_iret trivial dX10_shift_31 H
      · replace H := H.2 c7
        refine wp_iload rfl dX10_shift_22 ?_
        refine wp_bipush (10 : Int32) (by decide) dX10_shift_24 ?_
        refine WP.at 26 rfl ?_
        refine wp_icmp_le 32 (by decide) dX10_shift_26 (fun c8 => ?_) (fun c8 => ?_)
        · replace H := H.1 c8
          refine wp_aload_n 0 rfl rfl dX10_shift_32 ?_
          refine wp_iconst (0 : Int32) (by decide) dX10_shift_33 ?_
          obtain ⟨q9, H⟩ := H
          refine wp_puti coX10 14 (Nat.le_of_ble_eq_true rfl) fl_X10_330 rfl rfl ⟨rfl, rfl⟩ q9 dX10_shift_34 ?_
          refine wp_nh (fun h10 e11 => ?_)
          replace H := H h10 e11
          refine wp_aload_n 0 rfl rfl dX10_shift_37 ?_
          refine wp_getr coX10 4 (Nat.le_of_ble_eq_true rfl) fl_X10_35 rfl q9 dX10_shift_38 ?_
          refine wp_iload_n 1 rfl rfl dX10_shift_41 ?_
          obtain ⟨q12, H⟩ := H
          obtain ⟨q13, H⟩ := H
          refine wp_aaload q12 q13 dX10_shift_42 ?_
          refine WP.at 43 rfl ?_
          obtain ⟨q14, H⟩ := H
          refine wp_geti coX6 2 (Nat.le_of_ble_eq_true rfl) fl_X10_339 rfl q14 dX10_shift_43 ?_
          refine wp_iconst (-1 : Int32) (by decide) dX10_shift_46 ?_
          refine WP.at 47 rfl ?_
          refine wp_icmp_eq 63 (by decide) dX10_shift_47 (fun c15 => ?_) (fun c15 => ?_)
          · replace H := H.1 c15
            exact WP.pick [0] rfl (t_T_shift_j63 l0 _ _ H)
          · replace H := H.2 c15
            refine wp_aload_n 0 rfl rfl dX10_shift_50 ?_
            refine wp_getr coX10 4 (Nat.le_of_ble_eq_true rfl) fl_X10_35 rfl q9 dX10_shift_51 ?_
            refine wp_iload_n 3 rfl rfl dX10_shift_54 ?_
            obtain ⟨q19, H⟩ := H
            refine wp_aaload q12 q19 dX10_shift_55 ?_
            obtain ⟨q20, H⟩ := H
            refine wp_geti coX6 2 (Nat.le_of_ble_eq_true rfl) fl_X10_339 rfl q20 dX10_shift_56 ?_
            refine wp_iconst (-1 : Int32) (by decide) dX10_shift_59 ?_
            refine WP.at 60 rfl ?_
            refine wp_icmp_ne 69 (by decide) dX10_shift_60 (fun c21 => ?_) (fun c21 => ?_)
            · replace H := H.1 c21
              refine wp_aload_n 0 rfl rfl dX10_shift_69 ?_
              refine wp_getr coX10 4 (Nat.le_of_ble_eq_true rfl) fl_X10_35 rfl q9 dX10_shift_70 ?_
              refine wp_iload_n 1 rfl rfl dX10_shift_73 ?_
              obtain ⟨q22, H⟩ := H
              refine wp_aaload q12 q22 dX10_shift_74 ?_
              refine wp_getr coX6 0 (Nat.le_of_ble_eq_true rfl) fl_X10_340 rfl q14 dX10_shift_75 ?_
              refine wp_iconst (0 : Int32) (by decide) dX10_shift_78 ?_
              refine wp_aload_n 0 rfl rfl dX10_shift_79 ?_
              refine WP.at 80 rfl ?_
              refine wp_getr coX10 8 (Nat.le_of_ble_eq_true rfl) fl_X10_60 rfl q9 dX10_shift_80 ?_
              refine wp_iconst (0 : Int32) (by decide) dX10_shift_83 ?_
              refine wp_bipush (10 : Int32) (by decide) dX10_shift_84 ?_
              obtain ⟨q23, H⟩ := H
              obtain ⟨q24, H⟩ := H
              obtain ⟨q25, H⟩ := H
              obtain ⟨q26, H⟩ := H
              refine wp_acopy q23 q24 (by decide) (by decide) (by decide) q25 q26 ln_X10_343 nt_acopy (Nat.le_of_ble_eq_true rfl) (Nat.le_of_ble_eq_true rfl) (by decide) dX10_shift_86 ?_
              refine wp_nh (fun h27 e28 => ?_)
              replace H := H h27 e28
              refine wp_iconst (0 : Int32) (by decide) dX10_shift_89 ?_
              refine wp_istore (Nat.le_of_ble_eq_true rfl) dX10_shift_90 (ls' := [(6, xi (0 : Int32)), (0, xr l0), (1, xi l1), (2, xi l2), (3, xi l3), (4, xi l4), (5, xi l5)]) rfl ?_
              refine WP.at 92 rfl ?_
              obtain ⟨f45, H⟩ := H
              refine WP.pick [1, 2, 3, 4, 5, 6, 0] rfl (t_T_shift_L92 l0 l1 l2 l3 l4 l5 _ Q ?_ f45 (0 : Int32) _ H)
              · intro h44 H
                refine wp_iload rfl dX10_shift_160 ?_
                exact wp_iret trivial dX10_shift_162 H
            · replace H := H.2 c21
              exact WP.pick [0] rfl (t_T_shift_j63 l0 _ _ H)
        · replace H := H.2 c8
          refine wp_bipush (-3 : Int32) (by decide) dX10_shift_29 ?_
          exact wp_iret trivial dX10_shift_31 H
    · replace H := H.2 c6
      refine wp_bipush (-2 : Int32) (by decide) dX10_shift_14 ?_
      exact wp_iret trivial dX10_shift_16 H
def p_M_shift_j54 (l0 : xN) (h : xH) (Q : Int32 → xH → Prop) : Prop := (kd l0.1 = (1, 10)) ∧ p_M_meets l0 (1 : Int32) h (fun (v18 : Int32) (h17 : xH) => Q v18 h17)
set_option maxRecDepth 100000 in
set_option maxHeartbeats 4000000 in
theorem t_M_shift_j54 (l0 : xN) (h : xH) (Q : Int32 → xH → Prop) (H : p_M_shift_j54 l0 h Q) : WP M_M_shift 54 [(0, xr l0)] [] h 0 (qi Q) := by
  unfold p_M_shift_j54 at H
  refine wp_aload_n 0 rfl rfl dX11_shift_54 ?_
  refine wp_iconst (1 : Int32) (by decide) dX11_shift_55 ?_
  refine WP.at 56 rfl ?_
  obtain ⟨q16, H⟩ := H
  refine wp_cVi (M2 := M_M_meets) coX11 l0 q16 [xi (1 : Int32)] rfl lv_X11_316 mo_M_meets (Nat.le_of_ble_eq_true rfl) ⟨(Nat.le_of_ble_eq_true rfl), (Nat.le_of_ble_eq_true rfl)⟩ (Nat.le_of_ble_eq_true rfl) (Nat.le_of_ble_eq_true rfl) dX11_shift_56 (t_M_meets l0 (1 : Int32) _ _ H) (fun v18 h17 H => ?_)
  exact wp_iret trivial dX11_shift_59 H
def p_M_shift_L63 (l0 : xN) (l1 : Int32) (l2 : Int32) (l3 : Int32) (l4 : Int32) (l5 : Int32) (K63_95 : xH → Prop) (Q : Int32 → xH → Prop) : Nat → Int32 → xH → Prop
  | 0, _, _ => False
  | f + 1, l6, h => (((10 : Int32) ≤ l6 → K63_95 h) ∧ (¬ (10 : Int32) ≤ l6 → (kd l0.1 = (1, 10)) ∧ (kd (hR h l0 61).1 = (2, 0)) ∧ (vp_in (((10 : Int32) * l1) + l6) (hS h (hR h l0 61) - 1)) ∧ (kd (hR h l0 63).1 = (2, 0)) ∧ (vp_in l6 (hS h (hR h l0 63) - 1)) ∧ ∀ h27 : xH, h27 = sI h (hR h l0 63) l6.toNatClampNeg (hI h (hR h l0 61) (((10 : Int32) * l1) + l6).toNatClampNeg) → ∀ v29 : Int32, v29 = l6 + (1 : Int32) → (p_M_shift_L63 l0 l1 l2 l3 l4 l5 K63_95 Q f) v29 h27))
set_option maxRecDepth 100000 in
set_option maxHeartbeats 4000000 in
theorem t_M_shift_L63 (l0 : xN) (l1 : Int32) (l2 : Int32) (l3 : Int32) (l4 : Int32) (l5 : Int32) (K63_95 : xH → Prop) (Q : Int32 → xH → Prop) (hK63_95 : ∀ (h : xH), K63_95 h → WP M_M_shift 95 [(0, xr l0), (1, xi l1), (2, xi l2), (3, xi l3), (4, xi l4), (5, xi l5)] [] h 0 (qi Q)) : ∀ (f : Nat) (l6 : Int32) (h : xH), p_M_shift_L63 l0 l1 l2 l3 l4 l5 K63_95 Q f l6 h → WP M_M_shift 63 [(0, xr l0), (1, xi l1), (2, xi l2), (3, xi l3), (4, xi l4), (5, xi l5), (6, xi l6)] [] h 0 (qi Q) := by
  intro f
  induction f with
  | zero => exact fun _ _ H => H.elim
  | succ f hB63 =>
    intro l6 h H
    unfold p_M_shift_L63 at H
    refine wp_iload rfl dX11_shift_63 ?_
    refine wp_bipush (10 : Int32) (by decide) dX11_shift_65 ?_
    refine WP.at 67 rfl ?_
    refine wp_icmp_ge 95 (by decide) dX11_shift_67 (fun c21 => ?_) (fun c21 => ?_)
    · replace H := H.1 c21
      exact WP.pick [0, 1, 2, 3, 4, 5] rfl (hK63_95 _ H)
    · replace H := H.2 c21
      refine wp_aload_n 0 rfl rfl dX11_shift_70 ?_
      obtain ⟨q22, H⟩ := H
      refine wp_getr coX11 63 (Nat.le_of_ble_eq_true rfl) fl_X11_155 rfl q22 dX11_shift_71 ?_
      refine wp_iload rfl dX11_shift_74 ?_
      refine wp_aload_n 0 rfl rfl dX11_shift_76 ?_
      refine wp_getr coX11 61 (Nat.le_of_ble_eq_true rfl) fl_X11_152 rfl q22 dX11_shift_77 ?_
      refine wp_bipush (10 : Int32) (by decide) dX11_shift_80 ?_
      refine wp_iload_n 1 rfl rfl dX11_shift_82 ?_
      refine WP.at 83 rfl ?_
      refine wp_imul dX11_shift_83 ?_
      refine wp_iload rfl dX11_shift_84 ?_
      refine wp_iadd dX11_shift_86 ?_
      obtain ⟨q23, H⟩ := H
      obtain ⟨q24, H⟩ := H
      refine wp_iaload q23 q24 dX11_shift_87 ?_
      obtain ⟨q25, H⟩ := H
      obtain ⟨q26, H⟩ := H
      refine wp_iastore q25 q26 dX11_shift_88 ?_
      refine wp_nh (fun h27 e28 => ?_)
      replace H := H h27 e28
      refine wp_iincN (1 : Int32) (by decide) rfl (Nat.le_of_ble_eq_true rfl) dX11_shift_89 (ls' := fun v29 => [(6, xi v29), (0, xr l0), (1, xi l1), (2, xi l2), (3, xi l3), (4, xi l4), (5, xi l5)]) (fun _ => rfl) (fun v29 e30 => ?_)
      replace H := H v29 e30
      refine WP.at 92 rfl ?_
      refine wp_goto 63 (by decide) dX11_shift_92 ?_
      exact WP.pick [1, 2, 3, 4, 5, 6, 0] rfl (hB63 v29 _ H)
def p_M_shift_L98 (l0 : xN) (l1 : Int32) (l2 : Int32) (l3 : Int32) (l4 : Int32) (l5 : Int32) (K98_144 : xH → Prop) (K98_213 : xH → Prop) (Q : Int32 → xH → Prop) : Nat → Int32 → xH → Prop
  | 0, _, _ => False
  | f + 1, l6, h => ((l5 ≤ l6 → K98_213 h) ∧ (¬ l5 ≤ l6 → (kd l0.1 = (1, 10)) ∧ (kd (hR h l0 60).1 = (2, 0)) ∧ (vp_in l1 (hS h (hR h l0 60) - 1)) ∧ p_M_in (l2 + l6) (0 : Int32) ((hI h (hR h l0 60) l1.toNatClampNeg) - (1 : Int32)) h (fun (v37 : Int32) (h36 : xH) => ((v37 = 0 → K98_144 h36) ∧ (¬ v37 = 0 → (kd (hR h36 l0 60).1 = (2, 0)) ∧ (vp_in l3 (hS h36 (hR h36 l0 60) - 1)) ∧ p_M_in (l4 + l6) (0 : Int32) ((hI h36 (hR h36 l0 60) l3.toNatClampNeg) - (1 : Int32)) h36 (fun (v42 : Int32) (h41 : xH) => ((¬ v42 = 0 → (kd (hR h41 l0 63).1 = (2, 0)) ∧ (vp_in (l2 + l6) (hS h41 (hR h41 l0 63) - 1)) ∧ p_M_takes l0 l3 (hI h41 (hR h41 l0 63) (l2 + l6).toNatClampNeg) h41 (fun (v47 : Int32) (h46 : xH) => ((¬ v47 = 0 → (kd (hR h46 l0 63).1 = (2, 0)) ∧ (vp_in (l2 + l6) (hS h46 (hR h46 l0 63) - 1)) ∧ (kd (hR h46 l0 61).1 = (2, 0)) ∧ (vp_in ((((10 : Int32) * l3) + l4) + l6) (hS h46 (hR h46 l0 61) - 1)) ∧ ∀ h53 : xH, h53 = sI h46 (hR h46 l0 61) ((((10 : Int32) * l3) + l4) + l6).toNatClampNeg (hI h46 (hR h46 l0 63) (l2 + l6).toNatClampNeg) → ∀ h55 : xH, h55 = sI h53 l0 62 ((hI h53 l0 62) + (1 : Int32)) → ∀ v57 : Int32, v57 = l6 + (1 : Int32) → (p_M_shift_L98 l0 l1 l2 l3 l4 l5 K98_144 K98_213 Q f) v57 h55) ∧ (v47 = 0 → p_M_meets l0 (4 : Int32) h46 (fun (v60 : Int32) (h59 : xH) => Q v60 h59))))) ∧ (v42 = 0 → K98_144 h41))))))))
set_option maxRecDepth 100000 in
set_option maxHeartbeats 4000000 in
theorem t_M_shift_L98 (l0 : xN) (l1 : Int32) (l2 : Int32) (l3 : Int32) (l4 : Int32) (l5 : Int32) (K98_144 : xH → Prop) (K98_213 : xH → Prop) (Q : Int32 → xH → Prop) (hK98_144 : ∀ (h : xH), K98_144 h → WP M_M_shift 144 [(0, xr l0)] [] h 0 (qi Q)) (hK98_213 : ∀ (h : xH), K98_213 h → WP M_M_shift 213 [(5, xi l5)] [] h 0 (qi Q)) : ∀ (f : Nat) (l6 : Int32) (h : xH), p_M_shift_L98 l0 l1 l2 l3 l4 l5 K98_144 K98_213 Q f l6 h → WP M_M_shift 98 [(0, xr l0), (1, xi l1), (2, xi l2), (3, xi l3), (4, xi l4), (5, xi l5), (6, xi l6)] [] h 0 (qi Q) := by
  intro f
  induction f with
  | zero => exact fun _ _ H => H.elim
  | succ f hB98 =>
    intro l6 h H
    unfold p_M_shift_L98 at H
    refine wp_iload rfl dX11_shift_98 ?_
    refine wp_iload rfl dX11_shift_100 ?_
    refine WP.at 102 rfl ?_
    refine wp_icmp_ge 213 (by decide) dX11_shift_102 (fun c32 => ?_) (fun c32 => ?_)
    · replace H := H.1 c32
      exact WP.pick [5] rfl (hK98_213 _ H)
    · replace H := H.2 c32
      refine wp_iload_n 2 rfl rfl dX11_shift_105 ?_
      refine wp_iload rfl dX11_shift_106 ?_
      refine wp_iadd dX11_shift_108 ?_
      refine wp_iconst (0 : Int32) (by decide) dX11_shift_109 ?_
      refine wp_aload_n 0 rfl rfl dX11_shift_110 ?_
      obtain ⟨q33, H⟩ := H
      refine wp_getr coX11 60 (Nat.le_of_ble_eq_true rfl) fl_X11_149 rfl q33 dX11_shift_111 ?_
      refine wp_iload_n 1 rfl rfl dX11_shift_114 ?_
      refine WP.at 115 rfl ?_
      obtain ⟨q34, H⟩ := H
      obtain ⟨q35, H⟩ := H
      refine wp_iaload q34 q35 dX11_shift_115 ?_
      refine wp_iconst (1 : Int32) (by decide) dX11_shift_116 ?_
      refine wp_isub dX11_shift_117 ?_
      refine WP.at 118 rfl ?_
      refine wp_cSi (M2 := M_M_in) [xi (l2 + l6), xi (0 : Int32), xi ((hI h (hR h l0 60) l1.toNatClampNeg) - (1 : Int32))] rfl ls_X11_172 mo_M_in (Nat.le_of_ble_eq_true rfl) ⟨(Nat.le_of_ble_eq_true rfl), (Nat.le_of_ble_eq_true rfl)⟩ (Nat.le_of_ble_eq_true rfl) (Nat.le_of_ble_eq_true rfl) dX11_shift_118 (t_M_in (l2 + l6) (0 : Int32) ((hI h (hR h l0 60) l1.toNatClampNeg) - (1 : Int32)) _ _ H) (fun v37 h36 H => ?_)
      refine WP.at 121 rfl ?_
      refine wp_if_eq 144 (by decide) dX11_shift_121 (fun c38 => ?_) (fun c38 => ?_)
      · replace H := H.1 c38
        exact WP.pick [0] rfl (hK98_144 _ H)
      · replace H := H.2 c38
        refine wp_iload rfl dX11_shift_124 ?_
        refine wp_iload rfl dX11_shift_126 ?_
        refine wp_iadd dX11_shift_128 ?_
        refine wp_iconst (0 : Int32) (by decide) dX11_shift_129 ?_
        refine wp_aload_n 0 rfl rfl dX11_shift_130 ?_
        refine wp_getr coX11 60 (Nat.le_of_ble_eq_true rfl) fl_X11_149 rfl q33 dX11_shift_131 ?_
        refine wp_iload_n 3 rfl rfl dX11_shift_134 ?_
        refine WP.at 135 rfl ?_
        obtain ⟨q39, H⟩ := H
        obtain ⟨q40, H⟩ := H
        refine wp_iaload q39 q40 dX11_shift_135 ?_
        refine wp_iconst (1 : Int32) (by decide) dX11_shift_136 ?_
        refine wp_isub dX11_shift_137 ?_
        refine WP.at 138 rfl ?_
        refine wp_cSi (M2 := M_M_in) [xi (l4 + l6), xi (0 : Int32), xi ((hI h36 (hR h36 l0 60) l3.toNatClampNeg) - (1 : Int32))] rfl ls_X11_172 mo_M_in (Nat.le_of_ble_eq_true rfl) ⟨(Nat.le_of_ble_eq_true rfl), (Nat.le_of_ble_eq_true rfl)⟩ (Nat.le_of_ble_eq_true rfl) (Nat.le_of_ble_eq_true rfl) dX11_shift_138 (t_M_in (l4 + l6) (0 : Int32) ((hI h36 (hR h36 l0 60) l3.toNatClampNeg) - (1 : Int32)) _ _ H) (fun v42 h41 H => ?_)
        refine WP.at 141 rfl ?_
        refine wp_if_ne 150 (by decide) dX11_shift_141 (fun c43 => ?_) (fun c43 => ?_)
        · replace H := H.1 c43
          refine wp_aload_n 0 rfl rfl dX11_shift_150 ?_
          refine wp_iload_n 3 rfl rfl dX11_shift_151 ?_
          refine wp_aload_n 0 rfl rfl dX11_shift_152 ?_
          refine wp_getr coX11 63 (Nat.le_of_ble_eq_true rfl) fl_X11_155 rfl q33 dX11_shift_153 ?_
          refine wp_iload_n 2 rfl rfl dX11_shift_156 ?_
          refine wp_iload rfl dX11_shift_157 ?_
          refine wp_iadd dX11_shift_159 ?_
          refine WP.at 160 rfl ?_
          obtain ⟨q44, H⟩ := H
          obtain ⟨q45, H⟩ := H
          refine wp_iaload q44 q45 dX11_shift_160 ?_
          refine WP.at 161 rfl ?_
          refine wp_cVi (M2 := M_M_takes) coX11 l0 q33 [xi l3, xi (hI h41 (hR h41 l0 63) (l2 + l6).toNatClampNeg)] rfl lv_X11_353 mo_M_takes (Nat.le_of_ble_eq_true rfl) ⟨(Nat.le_of_ble_eq_true rfl), (Nat.le_of_ble_eq_true rfl)⟩ (Nat.le_of_ble_eq_true rfl) (Nat.le_of_ble_eq_true rfl) dX11_shift_161 (t_M_takes l0 l3 (hI h41 (hR h41 l0 63) (l2 + l6).toNatClampNeg) _ _ H) (fun v47 h46 H => ?_)
          refine WP.at 164 rfl ?_
          refine wp_if_ne 173 (by decide) dX11_shift_164 (fun c48 => ?_) (fun c48 => ?_)
          · replace H := H.1 c48
            refine wp_aload_n 0 rfl rfl dX11_shift_173 ?_
            refine wp_getr coX11 61 (Nat.le_of_ble_eq_true rfl) fl_X11_152 rfl q33 dX11_shift_174 ?_
            refine wp_bipush (10 : Int32) (by decide) dX11_shift_177 ?_
            refine wp_iload_n 3 rfl rfl dX11_shift_179 ?_
            refine wp_imul dX11_shift_180 ?_
            refine wp_iload rfl dX11_shift_181 ?_
            refine wp_iadd dX11_shift_183 ?_
            refine WP.at 184 rfl ?_
            refine wp_iload rfl dX11_shift_184 ?_
            refine wp_iadd dX11_shift_186 ?_
            refine wp_aload_n 0 rfl rfl dX11_shift_187 ?_
            refine wp_getr coX11 63 (Nat.le_of_ble_eq_true rfl) fl_X11_155 rfl q33 dX11_shift_188 ?_
            refine wp_iload_n 2 rfl rfl dX11_shift_191 ?_
            refine wp_iload rfl dX11_shift_192 ?_
            refine wp_iadd dX11_shift_194 ?_
            obtain ⟨q49, H⟩ := H
            obtain ⟨q50, H⟩ := H
            refine wp_iaload q49 q50 dX11_shift_195 ?_
            refine WP.at 196 rfl ?_
            obtain ⟨q51, H⟩ := H
            obtain ⟨q52, H⟩ := H
            refine wp_iastore q51 q52 dX11_shift_196 ?_
            refine wp_nh (fun h53 e54 => ?_)
            replace H := H h53 e54
            refine wp_aload_n 0 rfl rfl dX11_shift_197 ?_
            refine wp_dup rfl dX11_shift_198 ?_
            refine wp_geti coX11 62 (Nat.le_of_ble_eq_true rfl) fl_X11_350 rfl q33 dX11_shift_199 ?_
            refine wp_iconst (1 : Int32) (by decide) dX11_shift_202 ?_
            refine wp_iadd dX11_shift_203 ?_
            refine wp_puti coX11 62 (Nat.le_of_ble_eq_true rfl) fl_X11_350 rfl rfl ⟨rfl, rfl⟩ q33 dX11_shift_204 ?_
            refine wp_nh (fun h55 e56 => ?_)
            replace H := H h55 e56
            refine wp_iincN (1 : Int32) (by decide) rfl (Nat.le_of_ble_eq_true rfl) dX11_shift_207 (ls' := fun v57 => [(6, xi v57), (0, xr l0), (1, xi l1), (2, xi l2), (3, xi l3), (4, xi l4), (5, xi l5)]) (fun _ => rfl) (fun v57 e58 => ?_)
            replace H := H v57 e58
            refine WP.at 210 rfl ?_
            refine WP.at 210 rfl ?_
            refine wp_goto 98 (by decide) dX11_shift_210 ?_
            exact WP.pick [1, 2, 3, 4, 5, 6, 0] rfl (hB98 v57 _ H)
          · replace H := H.2 c48
            refine wp_aload_n 0 rfl rfl dX11_shift_167 ?_
            refine wp_iconst (4 : Int32) (by decide) dX11_shift_168 ?_
            refine WP.at 169 rfl ?_
            refine wp_cVi (M2 := M_M_meets) coX11 l0 q33 [xi (4 : Int32)] rfl lv_X11_316 mo_M_meets (Nat.le_of_ble_eq_true rfl) ⟨(Nat.le_of_ble_eq_true rfl), (Nat.le_of_ble_eq_true rfl)⟩ (Nat.le_of_ble_eq_true rfl) (Nat.le_of_ble_eq_true rfl) dX11_shift_169 (t_M_meets l0 (4 : Int32) _ _ H) (fun v60 h59 H => ?_)
            exact wp_iret trivial dX11_shift_172 H
        · replace H := H.2 c43
          exact WP.pick [0] rfl (hK98_144 _ H)
def p_M_shift_j144 (l0 : xN) (h : xH) (Q : Int32 → xH → Prop) : Prop := (kd l0.1 = (1, 10)) ∧ p_M_meets l0 (2 : Int32) h (fun (v64 : Int32) (h63 : xH) => Q v64 h63)
set_option maxRecDepth 100000 in
set_option maxHeartbeats 4000000 in
theorem t_M_shift_j144 (l0 : xN) (h : xH) (Q : Int32 → xH → Prop) (H : p_M_shift_j144 l0 h Q) : WP M_M_shift 144 [(0, xr l0)] [] h 0 (qi Q) := by
  unfold p_M_shift_j144 at H
  refine wp_aload_n 0 rfl rfl dX11_shift_144 ?_
  refine wp_iconst (2 : Int32) (by decide) dX11_shift_145 ?_
  refine WP.at 146 rfl ?_
  obtain ⟨q62, H⟩ := H
  refine wp_cVi (M2 := M_M_meets) coX11 l0 q62 [xi (2 : Int32)] rfl lv_X11_316 mo_M_meets (Nat.le_of_ble_eq_true rfl) ⟨(Nat.le_of_ble_eq_true rfl), (Nat.le_of_ble_eq_true rfl)⟩ (Nat.le_of_ble_eq_true rfl) (Nat.le_of_ble_eq_true rfl) dX11_shift_146 (t_M_meets l0 (2 : Int32) _ _ H) (fun v64 h63 H => ?_)
  exact wp_iret trivial dX11_shift_149 H
def p_M_shift (l0 : xN) (l1 : Int32) (l2 : Int32) (l3 : Int32) (l4 : Int32) (l5 : Int32) (h : xH) (Q : Int32 → xH → Prop) : Prop := p_M_isSatchel l1 h (fun (v2 : Int32) (h1 : xH) => ((v2 = 0 → Q (-2 : Int32) h1) ∧ (¬ v2 = 0 → p_M_isSatchel l3 h1 (fun (v5 : Int32) (h4 : xH) => ((¬ v5 = 0 → p_M_in l5 (0 : Int32) (10 : Int32) h4 (fun (v8 : Int32) (h7 : xH) => ((¬ v8 = 0 → (kd l0.1 = (1, 10)) ∧ ∀ h11 : xH, h11 = sI h7 l0 62 (0 : Int32) → (kd (hR h11 l0 58).1 = (3, 0)) ∧ (vp_in l1 (hS h11 (hR h11 l0 58) - 1)) ∧ (((hI h11 (hR h11 l0 58) l1.toNatClampNeg) = 0 → p_M_shift_j54 l0 h11 Q) ∧ (¬ (hI h11 (hR h11 l0 58) l1.toNatClampNeg) = 0 → (vp_in l3 (hS h11 (hR h11 l0 58) - 1)) ∧ ((¬ (hI h11 (hR h11 l0 58) l3.toNatClampNeg) = 0 → (∃ f67, p_M_shift_L63 l0 l1 l2 l3 l4 l5 (fun (h31 : xH) => (∃ f66, p_M_shift_L98 l0 l1 l2 l3 l4 l5 (fun (h61 : xH) => p_M_shift_j144 l0 h61 Q) (fun (h65 : xH) => Q l5 h65) Q f66 (0 : Int32) h31)) Q f67 (0 : Int32) h11)) ∧ ((hI h11 (hR h11 l0 58) l3.toNatClampNeg) = 0 → p_M_shift_j54 l0 h11 Q))))) ∧ (v8 = 0 → Q (-3 : Int32) h7)))) ∧ (v5 = 0 → Q (-2 : Int32) h4))))))
set_option maxRecDepth 100000 in
set_option maxHeartbeats 4000000 in
theorem t_M_shift (l0 : xN) (l1 : Int32) (l2 : Int32) (l3 : Int32) (l4 : Int32) (l5 : Int32) (h : xH) (Q : Int32 → xH → Prop) (H : p_M_shift l0 l1 l2 l3 l4 l5 h Q) : WP M_M_shift 0 [(0, xr l0), (1, xi l1), (2, xi l2), (3, xi l3), (4, xi l4), (5, xi l5)] [] h 0 (qi Q) := by
  unfold p_M_shift at H
  refine wp_iload_n 1 rfl rfl dX11_shift_0 ?_
  refine WP.at 1 rfl ?_
  refine wp_cSi (M2 := M_M_isSatchel) [xi l1] rfl ls_X11_347 mo_M_isSatchel (Nat.le_of_ble_eq_true rfl) ⟨(Nat.le_of_ble_eq_true rfl), (Nat.le_of_ble_eq_true rfl)⟩ (Nat.le_of_ble_eq_true rfl) (Nat.le_of_ble_eq_true rfl) dX11_shift_1 (t_M_isSatchel l1 _ _ H) (fun v2 h1 H => ?_)
  refine WP.at 4 rfl ?_
  refine wp_if_eq 14 (by decide) dX11_shift_4 (fun c3 => ?_) (fun c3 => ?_)
  · replace H := H.1 c3
    refine wp_bipush (-2 : Int32) (by decide) dX11_shift_14 ?_
    exact wp_iret trivial dX11_shift_16 H
  · replace H := H.2 c3
    refine wp_iload_n 3 rfl rfl dX11_shift_7 ?_
    refine WP.at 8 rfl ?_
    refine wp_cSi (M2 := M_M_isSatchel) [xi l3] rfl ls_X11_347 mo_M_isSatchel (Nat.le_of_ble_eq_true rfl) ⟨(Nat.le_of_ble_eq_true rfl), (Nat.le_of_ble_eq_true rfl)⟩ (Nat.le_of_ble_eq_true rfl) (Nat.le_of_ble_eq_true rfl) dX11_shift_8 (t_M_isSatchel l3 _ _ H) (fun v5 h4 H => ?_)
    refine WP.at 11 rfl ?_
    refine wp_if_ne 17 (by decide) dX11_shift_11 (fun c6 => ?_) (fun c6 => ?_)
    · replace H := H.1 c6
      refine wp_iload rfl dX11_shift_17 ?_
      refine wp_iconst (0 : Int32) (by decide) dX11_shift_19 ?_
      refine wp_bipush (10 : Int32) (by decide) dX11_shift_20 ?_
      refine WP.at 22 rfl ?_
      refine wp_cSi (M2 := M_M_in) [xi l5, xi (0 : Int32), xi (10 : Int32)] rfl ls_X11_172 mo_M_in (Nat.le_of_ble_eq_true rfl) ⟨(Nat.le_of_ble_eq_true rfl), (Nat.le_of_ble_eq_true rfl)⟩ (Nat.le_of_ble_eq_true rfl) (Nat.le_of_ble_eq_true rfl) dX11_shift_22 (t_M_in l5 (0 : Int32) (10 : Int32) _ _ H) (fun v8 h7 H => ?_)
      refine WP.at 25 rfl ?_
      refine wp_if_ne 31 (by decide) dX11_shift_25 (fun c9 => ?_) (fun c9 => ?_)
      · replace H := H.1 c9
        refine wp_aload_n 0 rfl rfl dX11_shift_31 ?_
        refine wp_iconst (0 : Int32) (by decide) dX11_shift_32 ?_
        obtain ⟨q10, H⟩ := H
        refine wp_puti coX11 62 (Nat.le_of_ble_eq_true rfl) fl_X11_350 rfl rfl ⟨rfl, rfl⟩ q10 dX11_shift_33 ?_
        refine wp_nh (fun h11 e12 => ?_)
        replace H := H h11 e12
        refine wp_aload_n 0 rfl rfl dX11_shift_36 ?_
        refine wp_getr coX11 58 (Nat.le_of_ble_eq_true rfl) fl_X11_143 rfl q10 dX11_shift_37 ?_
        refine wp_iload_n 1 rfl rfl dX11_shift_40 ?_
        obtain ⟨q13, H⟩ := H
        obtain ⟨q14, H⟩ := H
        refine wp_baload q13 q14 dX11_shift_41 ?_
        refine WP.at 42 rfl ?_
        refine WP.at 42 rfl ?_
        refine wp_if_eq 54 (by decide) dX11_shift_42 (fun c15 => ?_) (fun c15 => ?_)
        · replace H := H.1 c15
          exact WP.pick [0] rfl (t_M_shift_j54 l0 _ _ H)
        · replace H := H.2 c15
          refine wp_aload_n 0 rfl rfl dX11_shift_45 ?_
          refine wp_getr coX11 58 (Nat.le_of_ble_eq_true rfl) fl_X11_143 rfl q10 dX11_shift_46 ?_
          refine wp_iload_n 3 rfl rfl dX11_shift_49 ?_
          obtain ⟨q19, H⟩ := H
          refine wp_baload q13 q19 dX11_shift_50 ?_
          refine WP.at 51 rfl ?_
          refine wp_if_ne 60 (by decide) dX11_shift_51 (fun c20 => ?_) (fun c20 => ?_)
          · replace H := H.1 c20
            refine wp_iconst (0 : Int32) (by decide) dX11_shift_60 ?_
            refine wp_istore (Nat.le_of_ble_eq_true rfl) dX11_shift_61 (ls' := [(6, xi (0 : Int32)), (0, xr l0), (1, xi l1), (2, xi l2), (3, xi l3), (4, xi l4), (5, xi l5)]) rfl ?_
            refine WP.at 63 rfl ?_
            obtain ⟨f67, H⟩ := H
            refine WP.pick [1, 2, 3, 4, 5, 6, 0] rfl (t_M_shift_L63 l0 l1 l2 l3 l4 l5 _ Q ?_ f67 (0 : Int32) _ H)
            · intro h31 H
              refine wp_iconst (0 : Int32) (by decide) dX11_shift_95 ?_
              refine wp_istore (Nat.le_of_ble_eq_true rfl) dX11_shift_96 (ls' := [(6, xi (0 : Int32)), (0, xr l0), (1, xi l1), (2, xi l2), (3, xi l3), (4, xi l4), (5, xi l5)]) rfl ?_
              refine WP.at 98 rfl ?_
              obtain ⟨f66, H⟩ := H
              refine WP.pick [1, 2, 3, 4, 5, 6, 0] rfl (t_M_shift_L98 l0 l1 l2 l3 l4 l5 _ _ Q ?_ ?_ f66 (0 : Int32) _ H)
              · intro h61 H
                exact WP.pick [0] rfl (t_M_shift_j144 l0 _ _ H)
              · intro h65 H
                refine wp_iload rfl dX11_shift_213 ?_
                exact wp_iret trivial dX11_shift_215 H
          · replace H := H.2 c20
            exact WP.pick [0] rfl (t_M_shift_j54 l0 _ _ H)
      · replace H := H.2 c9
        refine wp_bipush (-3 : Int32) (by decide) dX11_shift_28 ?_
        exact wp_iret trivial dX11_shift_30 H
    · replace H := H.2 c6
      refine wp_bipush (-2 : Int32) (by decide) dX11_shift_14 ?_
      exact wp_iret trivial dX11_shift_16 H
