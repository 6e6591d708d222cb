def p_T_twin (l0 : xN) (l1 : Int32) (l2 : Int32) (l3 : Int32) (l4 : Int32) (h : xH) (Q : Int32 → xH → Prop) : Prop := (kd l0.1 = (1, 9)) ∧ p_T_findRace l0 l1 h (fun (v3 : xN) (h2 : xH) => p_T_findRace l0 l2 h2 (fun (v5 : xN) (h4 : xH) => ((v3.1 = 0 → Q (-2 : Int32) h4) ∧ (¬ v3.1 = 0 → ((¬ v5.1 = 0 → ((l2 ≤ l1 → Q (-3 : Int32) h4) ∧ (¬ l2 ≤ l1 → p_T_areTerms l3 l4 h4 (fun (v10 : Int32) (h9 : xH) => ((¬ v10 = 0 → (kd (hR h9 l0 1).1 = (5, 3)) ∧ (vp_in (48 : Int32) (hS h9 (hR h9 l0 1) - 1)) ∧ (((hR h9 (hR h9 l0 1) (48 : Int32).toNatClampNeg).1 = 0 → (kd v3.1 = (1, 4)) ∧ ((¬ (hI h9 v3 7) = 0 → Q (-6 : Int32) h9) ∧ ((hI h9 v3 7) = 0 → (kd v5.1 = (1, 4)) ∧ (((hI h9 v5 7) = 0 → (hS h9 ((5, (48 : Int32).toNatClampNeg) : xN) = 0) ∧ ∀ h20 : xH, h20 = nW h9 ((5, (48 : Int32).toNatClampNeg) : xN) 0 → p_Po_init ((5, (48 : Int32).toNatClampNeg) : xN) (48 : Int32) (4 : Int32) v3 v5 l3 l4 h20 (fun h22 : xH => (vp_in (48 : Int32) (hS h22 (hR h9 l0 1) - 1)) ∧ ∀ h24 : xH, h24 = sR h22 (hR h9 l0 1) (48 : Int32).toNatClampNeg ((5, (48 : Int32).toNatClampNeg) : xN) → Q (48 : Int32) h24)) ∧ (¬ (hI h9 v5 7) = 0 → Q (-6 : Int32) h9))))) ∧ (¬ (hR h9 (hR h9 l0 1) (48 : Int32).toNatClampNeg).1 = 0 → Q (-4 : Int32) h9))) ∧ (v10 = 0 → Q (-3 : Int32) h9)))))) ∧ (v5.1 = 0 → Q (-2 : Int32) h4))))))
set_option maxRecDepth 100000 in
set_option maxHeartbeats 4000000 in
theorem t_T_twin (l0 : xN) (l1 : Int32) (l2 : Int32) (l3 : Int32) (l4 : Int32) (h : xH) (Q : Int32 → xH → Prop) (H : p_T_twin l0 l1 l2 l3 l4 h Q) : WP M_T_twin 0 [(0, xr l0), (1, xi l1), (2, xi l2), (3, xi l3), (4, xi l4)] [] h 0 (qi Q) := by
  unfold p_T_twin at H
  refine wp_aload_n 0 rfl rfl dX10_twin_0 ?_
  refine wp_iload_n 1 rfl rfl dX10_twin_1 ?_
  refine WP.at 2 rfl ?_
  obtain ⟨q1, H⟩ := H
  refine wp_cVr (M2 := M_T_findRace) coX10 l0 q1 [xi l1] rfl lv_X10_76 mo_T_findRace (Nat.le_of_ble_eq_true rfl) ⟨(Nat.le_of_ble_eq_true rfl), (Nat.le_of_ble_eq_true rfl)⟩ (Nat.le_of_ble_eq_true rfl) (Nat.le_of_ble_eq_true rfl) dX10_twin_2 (t_T_findRace l0 l1 _ _ H) (fun v3 h2 H => ?_)
  refine wp_astore (Nat.le_of_ble_eq_true rfl) dX10_twin_5 (ls' := [(5, xr v3), (0, xr l0), (1, xi l1), (2, xi l2), (3, xi l3), (4, xi l4)]) rfl ?_
  refine wp_aload_n 0 rfl rfl dX10_twin_7 ?_
  refine wp_iload_n 2 rfl rfl dX10_twin_8 ?_
  refine WP.at 9 rfl ?_
  refine wp_cVr (M2 := M_T_findRace) coX10 l0 q1 [xi l2] rfl lv_X10_76 mo_T_findRace (Nat.le_of_ble_eq_true rfl) ⟨(Nat.le_of_ble_eq_true rfl), (Nat.le_of_ble_eq_true rfl)⟩ (Nat.le_of_ble_eq_true rfl) (Nat.le_of_ble_eq_true rfl) dX10_twin_9 (t_T_findRace l0 l2 _ _ H) (fun v5 h4 H => ?_)
  refine WP.at 12 rfl ?_
  refine wp_astore (Nat.le_of_ble_eq_true rfl) dX10_twin_12 (ls' := [(6, xr v5), (5, xr v3), (0, xr l0), (1, xi l1), (2, xi l2), (3, xi l3), (4, xi l4)]) rfl ?_
  refine wp_aload rfl dX10_twin_14 ?_
  refine WP.at 16 rfl ?_
  refine wp_ifnull 24 (by decide) dX10_twin_16 (fun c6 => ?_) (fun c6 => ?_)
  · replace H := H.1 c6
    refine wp_bipush (-2 : Int32) (by decide) dX10_twin_24 ?_
    exact wp_iret trivial dX10_twin_26 H
  · replace H := H.2 c6
    refine wp_aload rfl dX10_twin_19 ?_
    refine WP.at 21 rfl ?_
    refine wp_ifnonnull 27 (by decide) dX10_twin_21 (fun c7 => ?_) (fun c7 => ?_)
    · replace H := H.1 c7
      refine wp_iload_n 1 rfl rfl dX10_twin_27 ?_
      refine wp_iload_n 2 rfl rfl dX10_twin_28 ?_
      refine WP.at 29 rfl ?_
      refine wp_icmp_ge 41 (by decide) dX10_twin_29 (fun c8 => ?_) (fun c8 => ?_)
      · replace H := H.1 c8
        refine wp_bipush (-3 : Int32) (by decide) dX10_twin_41 ?_
        exact wp_iret trivial dX10_twin_43 H
      · replace H := H.2 c8
        refine wp_iload_n 3 rfl rfl dX10_twin_32 ?_
        refine wp_iload rfl dX10_twin_33 ?_
        refine WP.at 35 rfl ?_
        refine wp_cSi (M2 := M_T_areTerms) [xi l3, xi l4] rfl ls_X10_80 mo_T_areTerms (Nat.le_of_ble_eq_true rfl) ⟨(Nat.le_of_ble_eq_true rfl), (Nat.le_of_ble_eq_true rfl)⟩ (Nat.le_of_ble_eq_true rfl) (Nat.le_of_ble_eq_true rfl) dX10_twin_35 (t_T_areTerms l3 l4 _ _ H) (fun v10 h9 H => ?_)
        refine WP.at 38 rfl ?_
        refine wp_if_ne 44 (by decide) dX10_twin_38 (fun c11 => ?_) (fun c11 => ?_)
        · replace H := H.1 c11
          refine wp_aload_n 0 rfl rfl dX10_twin_44 ?_
          refine wp_getr coX10 1 (Nat.le_of_ble_eq_true rfl) fl_X10_17 rfl q1 dX10_twin_45 ?_
          refine wp_bipush (48 : Int32) (by decide) dX10_twin_48 ?_
          obtain ⟨q12, H⟩ := H
          obtain ⟨q13, H⟩ := H
          refine wp_aaload q12 q13 dX10_twin_50 ?_
          refine WP.at 51 rfl ?_
          refine wp_ifnull 57 (by decide) dX10_twin_51 (fun c14 => ?_) (fun c14 => ?_)
          · replace H := H.1 c14
            refine wp_aload rfl dX10_twin_57 ?_
            obtain ⟨q15, H⟩ := H
            refine wp_geti coX5 7 (Nat.le_of_ble_eq_true rfl) fl_X10_88 rfl q15 dX10_twin_59 ?_
            refine WP.at 62 rfl ?_
            refine wp_if_ne 73 (by decide) dX10_twin_62 (fun c16 => ?_) (fun c16 => ?_)
            · replace H := H.1 c16
              refine wp_bipush (-6 : Int32) (by decide) dX10_twin_73 ?_
              exact wp_iret trivial dX10_twin_75 H
            · replace H := H.2 c16
              refine wp_aload rfl dX10_twin_65 ?_
              obtain ⟨q17, H⟩ := H
              refine wp_geti coX5 7 (Nat.le_of_ble_eq_true rfl) fl_X10_88 rfl q17 dX10_twin_67 ?_
              refine WP.at 70 rfl ?_
              refine wp_if_eq 76 (by decide) dX10_twin_70 (fun c18 => ?_) (fun c18 => ?_)
              · replace H := H.1 c18
                refine wp_aload_n 0 rfl rfl dX10_twin_76 ?_
                refine wp_getr coX10 1 (Nat.le_of_ble_eq_true rfl) fl_X10_17 rfl q1 dX10_twin_77 ?_
                refine wp_bipush (48 : Int32) (by decide) dX10_twin_80 ?_
                obtain ⟨q19, H⟩ := H
                refine wp_new coX4 ((5, (48 : Int32).toNatClampNeg) : xN) rfl q19 dfX4 (Nat.le_of_ble_eq_true rfl) (Nat.le_of_ble_eq_true rfl) cl_X10_15.1 cl_X10_15.2.1 cl_X10_15.2.2 dX10_twin_82 ?_
                refine wp_nh (fun h20 e21 => ?_)
                replace H := H h20 e21
                refine wp_dup rfl dX10_twin_85 ?_
                refine wp_bipush (48 : Int32) (by decide) dX10_twin_86 ?_
                refine wp_iconst (4 : Int32) (by decide) dX10_twin_88 ?_
                refine WP.at 89 rfl ?_
                refine wp_aload rfl dX10_twin_89 ?_
                refine wp_aload rfl dX10_twin_91 ?_
                refine wp_iload_n 3 rfl rfl dX10_twin_93 ?_
                refine wp_iload rfl dX10_twin_94 ?_
                refine WP.at 96 rfl ?_
                refine wp_cI (M2 := M_Po_init) ((5, (48 : Int32).toNatClampNeg) : xN) (Nat.le_of_ble_eq_true rfl) [xi (48 : Int32), xi (4 : Int32), xr v3, xr v5, xi l3, xi l4] rfl lI_X10_91 ⟨rfl, rfl⟩ mo_Po_init (Nat.le_of_ble_eq_true rfl) ⟨(Nat.le_of_ble_eq_true rfl), (Nat.le_of_ble_eq_true rfl)⟩ (Nat.le_of_ble_eq_true rfl) (Nat.le_of_ble_eq_true rfl) dX10_twin_96 (t_Po_init ((5, (48 : Int32).toNatClampNeg) : xN) (48 : Int32) (4 : Int32) v3 v5 l3 l4 _ _ H) (fun h22 H => ?_)
                obtain ⟨q23, H⟩ := H
                refine wp_aastore coX4 q12 (rfl : kd (((5, (48 : Int32).toNatClampNeg) : xN)).1 = (1, 3)) q23 dX10_twin_99 ?_
                refine wp_nh (fun h24 e25 => ?_)
                replace H := H h24 e25
                refine wp_bipush (48 : Int32) (by decide) dX10_twin_100 ?_
                exact wp_iret trivial dX10_twin_102 H
              · replace H := H.2 c18
                refine wp_bipush (-6 : Int32) (by decide) dX10_twin_73 ?_
                exact wp_iret trivial dX10_twin_75 H
          · replace H := H.2 c14
            refine wp_bipush (-4 : Int32) (by decide) dX10_twin_54 ?_
            exact wp_iret trivial dX10_twin_56 H
        · replace H := H.2 c11
          refine wp_bipush (-3 : Int32) (by decide) dX10_twin_41 ?_
          exact wp_iret trivial dX10_twin_43 H
    · replace H := H.2 c7
      refine wp_bipush (-2 : Int32) (by decide) dX10_twin_24 ?_
      exact wp_iret trivial dX10_twin_26 H
def p_M_twin (l0 : xN) (l1 : Int32) (l2 : Int32) (l3 : Int32) (l4 : Int32) (h : xH) (Q : Int32 → xH → Prop) : Prop := (kd l0.1 = (1, 10)) ∧ p_M_isRace l0 l1 h (fun (v3 : Int32) (h2 : xH) => ((v3 = 0 → Q (-2 : Int32) h2) ∧ (¬ v3 = 0 → p_M_isRace l0 l2 h2 (fun (v6 : Int32) (h5 : xH) => ((¬ v6 = 0 → ((l2 ≤ l1 → Q (-3 : Int32) h5) ∧ (¬ l2 ≤ l1 → p_M_areTerms l3 l4 h5 (fun (v10 : Int32) (h9 : xH) => ((¬ v10 = 0 → (kd (hR h9 l0 6).1 = (3, 0)) ∧ (vp_in (48 : Int32) (hS h9 (hR h9 l0 6) - 1)) ∧ (((hI h9 (hR h9 l0 6) (48 : Int32).toNatClampNeg) = 0 → (kd (hR h9 l0 1).1 = (2, 0)) ∧ (vp_in l1 (hS h9 (hR h9 l0 1) - 1)) ∧ ((¬ (hI h9 (hR h9 l0 1) l1.toNatClampNeg) = 0 → Q (-6 : Int32) h9) ∧ ((hI h9 (hR h9 l0 1) l1.toNatClampNeg) = 0 → (vp_in l2 (hS h9 (hR h9 l0 1) - 1)) ∧ (((hI h9 (hR h9 l0 1) l2.toNatClampNeg) = 0 → ∀ h20 : xH, h20 = sI h9 l0 10 l1 → ∀ h22 : xH, h22 = sI h20 l0 11 l2 → p_M_tellPool l0 (48 : Int32) l3 l4 h22 (fun h24 : xH => Q (48 : Int32) h24)) ∧ (¬ (hI h9 (hR h9 l0 1) l2.toNatClampNeg) = 0 → Q (-6 : Int32) h9))))) ∧ (¬ (hI h9 (hR h9 l0 6) (48 : Int32).toNatClampNeg) = 0 → Q (-4 : Int32) h9))) ∧ (v10 = 0 → Q (-3 : Int32) h9)))))) ∧ (v6 = 0 → Q (-2 : Int32) h5))))))
set_option maxRecDepth 100000 in
set_option maxHeartbeats 4000000 in
theorem t_M_twin (l0 : xN) (l1 : Int32) (l2 : Int32) (l3 : Int32) (l4 : Int32) (h : xH) (Q : Int32 → xH → Prop) (H : p_M_twin l0 l1 l2 l3 l4 h Q) : WP M_M_twin 0 [(0, xr l0), (1, xi l1), (2, xi l2), (3, xi l3), (4, xi l4)] [] h 0 (qi Q) := by
  unfold p_M_twin at H
  refine wp_aload_n 0 rfl rfl dX11_twin_0 ?_
  refine wp_iload_n 1 rfl rfl dX11_twin_1 ?_
  refine WP.at 2 rfl ?_
  obtain ⟨q1, H⟩ := H
  refine wp_cVi (M2 := M_M_isRace) coX11 l0 q1 [xi l1] rfl lv_X11_179 mo_M_isRace (Nat.le_of_ble_eq_true rfl) ⟨(Nat.le_of_ble_eq_true rfl), (Nat.le_of_ble_eq_true rfl)⟩ (Nat.le_of_ble_eq_true rfl) (Nat.le_of_ble_eq_true rfl) dX11_twin_2 (t_M_isRace l0 l1 _ _ H) (fun v3 h2 H => ?_)
  refine WP.at 5 rfl ?_
  refine wp_if_eq 16 (by decide) dX11_twin_5 (fun c4 => ?_) (fun c4 => ?_)
  · replace H := H.1 c4
    refine wp_bipush (-2 : Int32) (by decide) dX11_twin_16 ?_
    exact wp_iret trivial dX11_twin_18 H
  · replace H := H.2 c4
    refine wp_aload_n 0 rfl rfl dX11_twin_8 ?_
    refine wp_iload_n 2 rfl rfl dX11_twin_9 ?_
    refine WP.at 10 rfl ?_
    refine wp_cVi (M2 := M_M_isRace) coX11 l0 q1 [xi l2] rfl lv_X11_179 mo_M_isRace (Nat.le_of_ble_eq_true rfl) ⟨(Nat.le_of_ble_eq_true rfl), (Nat.le_of_ble_eq_true rfl)⟩ (Nat.le_of_ble_eq_true rfl) (Nat.le_of_ble_eq_true rfl) dX11_twin_10 (t_M_isRace l0 l2 _ _ H) (fun v6 h5 H => ?_)
    refine WP.at 13 rfl ?_
    refine wp_if_ne 19 (by decide) dX11_twin_13 (fun c7 => ?_) (fun c7 => ?_)
    · replace H := H.1 c7
      refine wp_iload_n 1 rfl rfl dX11_twin_19 ?_
      refine wp_iload_n 2 rfl rfl dX11_twin_20 ?_
      refine WP.at 21 rfl ?_
      refine wp_icmp_ge 33 (by decide) dX11_twin_21 (fun c8 => ?_) (fun c8 => ?_)
      · replace H := H.1 c8
        refine wp_bipush (-3 : Int32) (by decide) dX11_twin_33 ?_
        exact wp_iret trivial dX11_twin_35 H
      · replace H := H.2 c8
        refine wp_iload_n 3 rfl rfl dX11_twin_24 ?_
        refine wp_iload rfl dX11_twin_25 ?_
        refine WP.at 27 rfl ?_
        refine wp_cSi (M2 := M_M_areTerms) [xi l3, xi l4] rfl ls_X11_183 mo_M_areTerms (Nat.le_of_ble_eq_true rfl) ⟨(Nat.le_of_ble_eq_true rfl), (Nat.le_of_ble_eq_true rfl)⟩ (Nat.le_of_ble_eq_true rfl) (Nat.le_of_ble_eq_true rfl) dX11_twin_27 (t_M_areTerms l3 l4 _ _ H) (fun v10 h9 H => ?_)
        refine WP.at 30 rfl ?_
        refine wp_if_ne 36 (by decide) dX11_twin_30 (fun c11 => ?_) (fun c11 => ?_)
        · replace H := H.1 c11
          refine wp_aload_n 0 rfl rfl dX11_twin_36 ?_
          refine wp_getr coX11 6 (Nat.le_of_ble_eq_true rfl) fl_X11_26 rfl q1 dX11_twin_37 ?_
          refine wp_bipush (48 : Int32) (by decide) dX11_twin_40 ?_
          obtain ⟨q12, H⟩ := H
          obtain ⟨q13, H⟩ := H
          refine wp_baload q12 q13 dX11_twin_42 ?_
          refine WP.at 43 rfl ?_
          refine wp_if_eq 49 (by decide) dX11_twin_43 (fun c14 => ?_) (fun c14 => ?_)
          · replace H := H.1 c14
            refine wp_aload_n 0 rfl rfl dX11_twin_49 ?_
            refine wp_getr coX11 1 (Nat.le_of_ble_eq_true rfl) fl_X11_7 rfl q1 dX11_twin_50 ?_
            refine wp_iload_n 1 rfl rfl dX11_twin_53 ?_
            obtain ⟨q15, H⟩ := H
            obtain ⟨q16, H⟩ := H
            refine wp_iaload q15 q16 dX11_twin_54 ?_
            refine WP.at 55 rfl ?_
            refine wp_if_ne 67 (by decide) dX11_twin_55 (fun c17 => ?_) (fun c17 => ?_)
            · replace H := H.1 c17
              refine wp_bipush (-6 : Int32) (by decide) dX11_twin_67 ?_
              exact wp_iret trivial dX11_twin_69 H
            · replace H := H.2 c17
              refine wp_aload_n 0 rfl rfl dX11_twin_58 ?_
              refine wp_getr coX11 1 (Nat.le_of_ble_eq_true rfl) fl_X11_7 rfl q1 dX11_twin_59 ?_
              refine wp_iload_n 2 rfl rfl dX11_twin_62 ?_
              obtain ⟨q18, H⟩ := H
              refine wp_iaload q15 q18 dX11_twin_63 ?_
              refine WP.at 64 rfl ?_
              refine wp_if_eq 70 (by decide) dX11_twin_64 (fun c19 => ?_) (fun c19 => ?_)
              · replace H := H.1 c19
                refine wp_aload_n 0 rfl rfl dX11_twin_70 ?_
                refine wp_iload_n 1 rfl rfl dX11_twin_71 ?_
                refine wp_puti coX11 10 (Nat.le_of_ble_eq_true rfl) fl_X11_176 rfl rfl ⟨rfl, rfl⟩ q1 dX11_twin_72 ?_
                refine wp_nh (fun h20 e21 => ?_)
                replace H := H h20 e21
                refine wp_aload_n 0 rfl rfl dX11_twin_75 ?_
                refine wp_iload_n 2 rfl rfl dX11_twin_76 ?_
                refine wp_puti coX11 11 (Nat.le_of_ble_eq_true rfl) fl_X11_191 rfl rfl ⟨rfl, rfl⟩ q1 dX11_twin_77 ?_
                refine wp_nh (fun h22 e23 => ?_)
                replace H := H h22 e23
                refine wp_aload_n 0 rfl rfl dX11_twin_80 ?_
                refine WP.at 81 rfl ?_
                refine wp_bipush (48 : Int32) (by decide) dX11_twin_81 ?_
                refine wp_iload_n 3 rfl rfl dX11_twin_83 ?_
                refine wp_iload rfl dX11_twin_84 ?_
                refine WP.at 86 rfl ?_
                refine wp_cVv (M2 := M_M_tellPool) coX11 l0 q1 [xi (48 : Int32), xi l3, xi l4] rfl lv_X11_187 mo_M_tellPool (Nat.le_of_ble_eq_true rfl) ⟨(Nat.le_of_ble_eq_true rfl), (Nat.le_of_ble_eq_true rfl)⟩ (Nat.le_of_ble_eq_true rfl) (Nat.le_of_ble_eq_true rfl) dX11_twin_86 (t_M_tellPool l0 (48 : Int32) l3 l4 _ _ H) (fun h24 H => ?_)
                refine wp_bipush (48 : Int32) (by decide) dX11_twin_89 ?_
                exact wp_iret trivial dX11_twin_91 H
              · replace H := H.2 c19
                refine wp_bipush (-6 : Int32) (by decide) dX11_twin_67 ?_
                exact wp_iret trivial dX11_twin_69 H
          · replace H := H.2 c14
            refine wp_bipush (-4 : Int32) (by decide) dX11_twin_46 ?_
            exact wp_iret trivial dX11_twin_48 H
        · replace H := H.2 c11
          refine wp_bipush (-3 : Int32) (by decide) dX11_twin_33 ?_
          exact wp_iret trivial dX11_twin_35 H
    · replace H := H.2 c7
      refine wp_bipush (-2 : Int32) (by decide) dX11_twin_16 ?_
      exact wp_iret trivial dX11_twin_18 H
def p_R_hasRunner (l0 : xN) (l1 : Int32) (h : xH) (Q : Int32 → xH → Prop) : Prop := ((l1 < (1 : Int32) → Q (0 : Int32) h) ∧ (¬ l1 < (1 : Int32) → (kd l0.1 = (1, 4)) ∧ (((hI h l0 0) < l1 → Q (0 : Int32) h) ∧ (¬ (hI h l0 0) < l1 → Q (1 : Int32) h))))
set_option maxRecDepth 100000 in
set_option maxHeartbeats 4000000 in
theorem t_R_hasRunner (l0 : xN) (l1 : Int32) (h : xH) (Q : Int32 → xH → Prop) (H : p_R_hasRunner l0 l1 h Q) : WP M_R_hasRunner 0 [(0, xr l0), (1, xi l1)] [] h 0 (qi Q) := by
  unfold p_R_hasRunner at H
  refine wp_iload_n 1 rfl rfl dX5_hasRunner_0 ?_
  refine wp_iconst (1 : Int32) (by decide) dX5_hasRunner_1 ?_
  refine WP.at 2 rfl ?_
  refine wp_icmp_lt 17 (by decide) dX5_hasRunner_2 (fun c1 => ?_) (fun c1 => ?_)
  · replace H := H.1 c1
    refine wp_iconst (0 : Int32) (by decide) dX5_hasRunner_17 ?_
    exact wp_iret (Or.inl rfl) dX5_hasRunner_18 H
  · replace H := H.2 c1
    refine wp_iload_n 1 rfl rfl dX5_hasRunner_5 ?_
    refine wp_aload_n 0 rfl rfl dX5_hasRunner_6 ?_
    obtain ⟨q2, H⟩ := H
    refine wp_geti coX5 0 (Nat.le_of_ble_eq_true rfl) fl_X5_33 rfl q2 dX5_hasRunner_7 ?_
    refine WP.at 10 rfl ?_
    refine wp_icmp_gt 17 (by decide) dX5_hasRunner_10 (fun c3 => ?_) (fun c3 => ?_)
    · replace H := H.1 c3
      refine wp_iconst (0 : Int32) (by decide) dX5_hasRunner_17 ?_
      exact wp_iret (Or.inl rfl) dX5_hasRunner_18 H
    · replace H := H.2 c3
      refine wp_iconst (1 : Int32) (by decide) dX5_hasRunner_13 ?_
      refine WP.at 14 rfl ?_
      refine wp_goto 18 (by decide) dX5_hasRunner_14 ?_
      exact wp_iret (Or.inr rfl) dX5_hasRunner_18 H
def p_R_isOut (l0 : xN) (l1 : Int32) (h : xH) (Q : Int32 → xH → Prop) : Prop := (kd l0.1 = (1, 4)) ∧ p_R_hasRunner l0 l1 h (fun (v3 : Int32) (h2 : xH) => ((v3 = 0 → Q (0 : Int32) h2) ∧ (¬ v3 = 0 → (kd (hR h2 l0 1).1 = (3, 0)) ∧ (vp_in l1 (hS h2 (hR h2 l0 1) - 1)) ∧ (((hI h2 (hR h2 l0 1) l1.toNatClampNeg) = 0 → Q (0 : Int32) h2) ∧ (¬ (hI h2 (hR h2 l0 1) l1.toNatClampNeg) = 0 → Q (1 : Int32) h2)))))
set_option maxRecDepth 100000 in
set_option maxHeartbeats 4000000 in
theorem t_R_isOut (l0 : xN) (l1 : Int32) (h : xH) (Q : Int32 → xH → Prop) (H : p_R_isOut l0 l1 h Q) : WP M_R_isOut 0 [(0, xr l0), (1, xi l1)] [] h 0 (qi Q) := by
  unfold p_R_isOut at H
  refine wp_aload_n 0 rfl rfl dX5_isOut_0 ?_
  refine wp_iload_n 1 rfl rfl dX5_isOut_1 ?_
  refine WP.at 2 rfl ?_
  obtain ⟨q1, H⟩ := H
  refine wp_cVi (M2 := M_R_hasRunner) coX5 l0 q1 [xi l1] rfl lv_X5_39 mo_R_hasRunner (Nat.le_of_ble_eq_true rfl) ⟨(Nat.le_of_ble_eq_true rfl), (Nat.le_of_ble_eq_true rfl)⟩ (Nat.le_of_ble_eq_true rfl) (Nat.le_of_ble_eq_true rfl) dX5_isOut_2 (t_R_hasRunner l0 l1 _ _ H) (fun v3 h2 H => ?_)
  refine WP.at 5 rfl ?_
  refine wp_if_eq 21 (by decide) dX5_isOut_5 (fun c4 => ?_) (fun c4 => ?_)
  · replace H := H.1 c4
    refine wp_iconst (0 : Int32) (by decide) dX5_isOut_21 ?_
    exact wp_iret (Or.inl rfl) dX5_isOut_22 H
  · replace H := H.2 c4
    refine wp_aload_n 0 rfl rfl dX5_isOut_8 ?_
    refine wp_getr coX5 1 (Nat.le_of_ble_eq_true rfl) fl_X5_9 rfl q1 dX5_isOut_9 ?_
    refine wp_iload_n 1 rfl rfl dX5_isOut_12 ?_
    obtain ⟨q5, H⟩ := H
    obtain ⟨q6, H⟩ := H
    refine wp_baload q5 q6 dX5_isOut_13 ?_
    refine WP.at 14 rfl ?_
    refine wp_if_eq 21 (by decide) dX5_isOut_14 (fun c7 => ?_) (fun c7 => ?_)
    · replace H := H.1 c7
      refine wp_iconst (0 : Int32) (by decide) dX5_isOut_21 ?_
      exact wp_iret (Or.inl rfl) dX5_isOut_22 H
    · replace H := H.2 c7
      refine wp_iconst (1 : Int32) (by decide) dX5_isOut_17 ?_
      refine WP.at 18 rfl ?_
      refine wp_goto 22 (by decide) dX5_isOut_18 ?_
      exact wp_iret (Or.inr rfl) dX5_isOut_22 H
def p_T_refuseRunner (l0 : xN) (l1 : Int32) (l2 : Int32) (h : xH) (Q : Int32 → xH → Prop) : Prop := ((¬ l0.1 = 0 → (kd l0.1 = (1, 4)) ∧ p_R_hasRunner l0 l1 h (fun (v4 : Int32) (h3 : xH) => ((¬ v4 = 0 → p_R_isOut l0 l1 h3 (fun (v7 : Int32) (h6 : xH) => ((v7 = 0 → ((¬ (hI h6 l0 7) = l2 → Q (-6 : Int32) h6) ∧ ((hI h6 l0 7) = l2 → Q (0 : Int32) h6))) ∧ (¬ v7 = 0 → Q (-5 : Int32) h6)))) ∧ (v4 = 0 → Q (-3 : Int32) h3)))) ∧ (l0.1 = 0 → Q (-2 : Int32) h))
set_option maxRecDepth 100000 in
set_option maxHeartbeats 4000000 in
theorem t_T_refuseRunner (l0 : xN) (l1 : Int32) (l2 : Int32) (h : xH) (Q : Int32 → xH → Prop) (H : p_T_refuseRunner l0 l1 l2 h Q) : WP M_T_refuseRunner 0 [(0, xr l0), (1, xi l1), (2, xi l2)] [] h 0 (qi Q) := by
  unfold p_T_refuseRunner at H
  refine wp_aload_n 0 rfl rfl dX10_refuseRunner_0 ?_
  refine WP.at 1 rfl ?_
  refine wp_ifnonnull 7 (by decide) dX10_refuseRunner_1 (fun c1 => ?_) (fun c1 => ?_)
  · replace H := H.1 c1
    refine wp_aload_n 0 rfl rfl dX10_refuseRunner_7 ?_
    refine wp_iload_n 1 rfl rfl dX10_refuseRunner_8 ?_
    refine WP.at 9 rfl ?_
    obtain ⟨q2, H⟩ := H
    refine wp_cVi (M2 := M_R_hasRunner) coX5 l0 q2 [xi l1] rfl lv_X10_151 mo_R_hasRunner (Nat.le_of_ble_eq_true rfl) ⟨(Nat.le_of_ble_eq_true rfl), (Nat.le_of_ble_eq_true rfl)⟩ (Nat.le_of_ble_eq_true rfl) (Nat.le_of_ble_eq_true rfl) dX10_refuseRunner_9 (t_R_hasRunner l0 l1 _ _ H) (fun v4 h3 H => ?_)
    refine WP.at 12 rfl ?_
    refine wp_if_ne 18 (by decide) dX10_refuseRunner_12 (fun c5 => ?_) (fun c5 => ?_)
    · replace H := H.1 c5
      refine wp_aload_n 0 rfl rfl dX10_refuseRunner_18 ?_
      refine wp_iload_n 1 rfl rfl dX10_refuseRunner_19 ?_
      refine WP.at 20 rfl ?_
      refine wp_cVi (M2 := M_R_isOut) coX5 l0 q2 [xi l1] rfl lv_X10_414 mo_R_isOut (Nat.le_of_ble_eq_true rfl) ⟨(Nat.le_of_ble_eq_true rfl), (Nat.le_of_ble_eq_true rfl)⟩ (Nat.le_of_ble_eq_true rfl) (Nat.le_of_ble_eq_true rfl) dX10_refuseRunner_20 (t_R_isOut l0 l1 _ _ H) (fun v7 h6 H => ?_)
      refine WP.at 23 rfl ?_
      refine wp_if_eq 29 (by decide) dX10_refuseRunner_23 (fun c8 => ?_) (fun c8 => ?_)
      · replace H := H.1 c8
        refine wp_aload_n 0 rfl rfl dX10_refuseRunner_29 ?_
        refine wp_geti coX5 7 (Nat.le_of_ble_eq_true rfl) fl_X10_88 rfl q2 dX10_refuseRunner_30 ?_
        refine wp_iload_n 2 rfl rfl dX10_refuseRunner_33 ?_
        refine WP.at 34 rfl ?_
        refine wp_icmp_ne 41 (by decide) dX10_refuseRunner_34 (fun c9 => ?_) (fun c9 => ?_)
        · replace H := H.1 c9
          refine wp_bipush (-6 : Int32) (by decide) dX10_refuseRunner_41 ?_
          exact wp_iret trivial dX10_refuseRunner_43 H
        · replace H := H.2 c9
          refine wp_iconst (0 : Int32) (by decide) dX10_refuseRunner_37 ?_
          refine WP.at 38 rfl ?_
          refine wp_goto 43 (by decide) dX10_refuseRunner_38 ?_
          exact wp_iret trivial dX10_refuseRunner_43 H
      · replace H := H.2 c8
        refine wp_bipush (-5 : Int32) (by decide) dX10_refuseRunner_26 ?_
        exact wp_iret trivial dX10_refuseRunner_28 H
    · replace H := H.2 c5
      refine wp_bipush (-3 : Int32) (by decide) dX10_refuseRunner_15 ?_
      exact wp_iret trivial dX10_refuseRunner_17 H
  · replace H := H.2 c1
    refine wp_bipush (-2 : Int32) (by decide) dX10_refuseRunner_4 ?_
    exact wp_iret trivial dX10_refuseRunner_6 H
def p_T_substitute (l0 : xN) (l1 : Int32) (l2 : Int32) (h : xH) (Q : Int32 → xH → Prop) : Prop := (kd l0.1 = (1, 9)) ∧ p_T_findRace l0 l1 h (fun (v3 : xN) (h2 : xH) => p_T_refuseRunner v3 l2 (0 : Int32) h2 (fun (v5 : Int32) (h4 : xH) => ((v3.1 = 0 → Q v5 h4) ∧ (¬ v3.1 = 0 → ((v5 = 0 → (kd v3.1 = (1, 4)) ∧ ∀ v9 : Int32, v9 = hI h4 v3 8 → ∀ h11 : xH, h11 = sI h4 v3 8 l2 → Q v9 h11) ∧ (¬ v5 = 0 → Q v5 h4))))))
set_option maxRecDepth 100000 in
set_option maxHeartbeats 4000000 in
theorem t_T_substitute (l0 : xN) (l1 : Int32) (l2 : Int32) (h : xH) (Q : Int32 → xH → Prop) (H : p_T_substitute l0 l1 l2 h Q) : WP M_T_substitute 0 [(0, xr l0), (1, xi l1), (2, xi l2)] [] h 0 (qi Q) := by
  unfold p_T_substitute at H
  refine wp_aload_n 0 rfl rfl dX10_substitute_0 ?_
  refine wp_iload_n 1 rfl rfl dX10_substitute_1 ?_
  refine WP.at 2 rfl ?_
  obtain ⟨q1, H⟩ := H
  refine wp_cVr (M2 := M_T_findRace) coX10 l0 q1 [xi l1] rfl lv_X10_76 mo_T_findRace (Nat.le_of_ble_eq_true rfl) ⟨(Nat.le_of_ble_eq_true rfl), (Nat.le_of_ble_eq_true rfl)⟩ (Nat.le_of_ble_eq_true rfl) (Nat.le_of_ble_eq_true rfl) dX10_substitute_2 (t_T_findRace l0 l1 _ _ H) (fun v3 h2 H => ?_)
  refine wp_astore_n 3 rfl (Nat.le_of_ble_eq_true rfl) dX10_substitute_5 (ls' := [(3, xr v3), (0, xr l0), (1, xi l1), (2, xi l2)]) rfl ?_
  refine wp_aload_n 3 rfl rfl dX10_substitute_6 ?_
  refine wp_iload_n 2 rfl rfl dX10_substitute_7 ?_
  refine wp_iconst (0 : Int32) (by decide) dX10_substitute_8 ?_
  refine WP.at 9 rfl ?_
  refine WP.at 9 rfl ?_
  refine wp_cSi (M2 := M_T_refuseRunner) [xr v3, xi l2, xi (0 : Int32)] rfl ls_X10_94 mo_T_refuseRunner (Nat.le_of_ble_eq_true rfl) ⟨(Nat.le_of_ble_eq_true rfl), (Nat.le_of_ble_eq_true rfl)⟩ (Nat.le_of_ble_eq_true rfl) (Nat.le_of_ble_eq_true rfl) dX10_substitute_9 (t_T_refuseRunner v3 l2 (0 : Int32) _ _ H) (fun v5 h4 H => ?_)
  refine wp_istore (Nat.le_of_ble_eq_true rfl) dX10_substitute_12 (ls' := [(4, xi v5), (3, xr v3), (0, xr l0), (1, xi l1), (2, xi l2)]) rfl ?_
  refine wp_aload_n 3 rfl rfl dX10_substitute_14 ?_
  refine WP.at 15 rfl ?_
  refine wp_ifnull 23 (by decide) dX10_substitute_15 (fun c6 => ?_) (fun c6 => ?_)
  · replace H := H.1 c6
    refine wp_iload rfl dX10_substitute_23 ?_
    exact wp_iret trivial dX10_substitute_25 H
  · replace H := H.2 c6
    refine wp_iload rfl dX10_substitute_18 ?_
    refine WP.at 20 rfl ?_
    refine wp_if_eq 26 (by decide) dX10_substitute_20 (fun c7 => ?_) (fun c7 => ?_)
    · replace H := H.1 c7
      refine wp_aload_n 3 rfl rfl dX10_substitute_26 ?_
      obtain ⟨q8, H⟩ := H
      refine wp_geti coX5 8 (Nat.le_of_ble_eq_true rfl) fl_X10_98 rfl q8 dX10_substitute_27 ?_
      refine wp_nm (fun v9 e10 => ?_)
      replace H := H v9 e10
      refine wp_istore (Nat.le_of_ble_eq_true rfl) dX10_substitute_30 (ls' := [(5, xi v9), (4, xi v5), (3, xr v3), (0, xr l0), (1, xi l1), (2, xi l2)]) rfl ?_
      refine wp_aload_n 3 rfl rfl dX10_substitute_32 ?_
      refine wp_iload_n 2 rfl rfl dX10_substitute_33 ?_
      refine wp_puti coX5 8 (Nat.le_of_ble_eq_true rfl) fl_X10_98 rfl rfl ⟨rfl, rfl⟩ q8 dX10_substitute_34 ?_
      refine wp_nh (fun h11 e12 => ?_)
      replace H := H h11 e12
      refine wp_iload rfl dX10_substitute_37 ?_
      refine WP.at 39 rfl ?_
      exact wp_iret trivial dX10_substitute_39 H
    · replace H := H.2 c7
      refine wp_iload rfl dX10_substitute_23 ?_
      exact wp_iret trivial dX10_substitute_25 H
def p_M_isRunner (l0 : xN) (l1 : Int32) (l2 : Int32) (h : xH) (Q : Int32 → xH → Prop) : Prop := (kd l0.1 = (1, 10)) ∧ (kd (hR h l0 2).1 = (2, 0)) ∧ (vp_in l1 (hS h (hR h l0 2) - 1)) ∧ p_M_in l2 (1 : Int32) (hI h (hR h l0 2) l1.toNatClampNeg) h (fun (v5 : Int32) (h4 : xH) => (v5 = 0 ∨ v5 = 1) ∧ Q v5 h4)
set_option maxRecDepth 100000 in
set_option maxHeartbeats 4000000 in
theorem t_M_isRunner (l0 : xN) (l1 : Int32) (l2 : Int32) (h : xH) (Q : Int32 → xH → Prop) (H : p_M_isRunner l0 l1 l2 h Q) : WP M_M_isRunner 0 [(0, xr l0), (1, xi l1), (2, xi l2)] [] h 0 (qi Q) := by
  unfold p_M_isRunner at H
  refine wp_iload_n 2 rfl rfl dX11_isRunner_0 ?_
  refine wp_iconst (1 : Int32) (by decide) dX11_isRunner_1 ?_
  refine wp_aload_n 0 rfl rfl dX11_isRunner_2 ?_
  obtain ⟨q1, H⟩ := H
  refine wp_getr coX11 2 (Nat.le_of_ble_eq_true rfl) fl_X11_13 rfl q1 dX11_isRunner_3 ?_
  refine wp_iload_n 1 rfl rfl dX11_isRunner_6 ?_
  obtain ⟨q2, H⟩ := H
  obtain ⟨q3, H⟩ := H
  refine wp_iaload q2 q3 dX11_isRunner_7 ?_
  refine WP.at 8 rfl ?_
  refine wp_cSi (M2 := M_M_in) [xi l2, xi (1 : Int32), xi (hI h (hR h l0 2) l1.toNatClampNeg)] rfl ls_X11_172 mo_M_in (Nat.le_of_ble_eq_true rfl) ⟨(Nat.le_of_ble_eq_true rfl), (Nat.le_of_ble_eq_true rfl)⟩ (Nat.le_of_ble_eq_true rfl) (Nat.le_of_ble_eq_true rfl) dX11_isRunner_8 (t_M_in l2 (1 : Int32) (hI h (hR h l0 2) l1.toNatClampNeg) _ _ H) (fun v5 h4 H => ?_)
  refine WP.at 11 rfl ?_
  obtain ⟨q6, H⟩ := H
  exact wp_iret q6 dX11_isRunner_11 H
def p_M_bars (l0 : xN) (l1 : Int32) (l2 : Int32) (h : xH) (Q : Int32 → xH → Prop) : Prop := (kd l0.1 = (1, 10)) ∧ p_M_isRace l0 l1 h (fun (v3 : Int32) (h2 : xH) => ((¬ v3 = 0 → p_M_isRunner l0 l1 l2 h2 (fun (v6 : Int32) (h5 : xH) => ((¬ v6 = 0 → (kd (hR h5 l0 4).1 = (3, 0)) ∧ (vp_in (((13 : Int32) * l1) + l2) (hS h5 (hR h5 l0 4) - 1)) ∧ (((hI h5 (hR h5 l0 4) (((13 : Int32) * l1) + l2).toNatClampNeg) = 0 → Q (0 : Int32) h5) ∧ (¬ (hI h5 (hR h5 l0 4) (((13 : Int32) * l1) + l2).toNatClampNeg) = 0 → Q (-5 : Int32) h5))) ∧ (v6 = 0 → Q (-3 : Int32) h5)))) ∧ (v3 = 0 → Q (-2 : Int32) h2)))
set_option maxRecDepth 100000 in
set_option maxHeartbeats 4000000 in
theorem t_M_bars (l0 : xN) (l1 : Int32) (l2 : Int32) (h : xH) (Q : Int32 → xH → Prop) (H : p_M_bars l0 l1 l2 h Q) : WP M_M_bars 0 [(0, xr l0), (1, xi l1), (2, xi l2)] [] h 0 (qi Q) := by
  unfold p_M_bars at H
  refine wp_aload_n 0 rfl rfl dX11_bars_0 ?_
  refine wp_iload_n 1 rfl rfl dX11_bars_1 ?_
  refine WP.at 2 rfl ?_
  obtain ⟨q1, H⟩ := H
  refine wp_cVi (M2 := M_M_isRace) coX11 l0 q1 [xi l1] rfl lv_X11_179 mo_M_isRace (Nat.le_of_ble_eq_true rfl) ⟨(Nat.le_of_ble_eq_true rfl), (Nat.le_of_ble_eq_true rfl)⟩ (Nat.le_of_ble_eq_true rfl) (Nat.le_of_ble_eq_true rfl) dX11_bars_2 (t_M_isRace l0 l1 _ _ H) (fun v3 h2 H => ?_)
  refine WP.at 5 rfl ?_
  refine wp_if_ne 13 (by decide) dX11_bars_5 (fun c4 => ?_) (fun c4 => ?_)
  · replace H := H.1 c4
    refine wp_aload_n 0 rfl rfl dX11_bars_13 ?_
    refine wp_iload_n 1 rfl rfl dX11_bars_14 ?_
    refine wp_iload_n 2 rfl rfl dX11_bars_15 ?_
    refine WP.at 16 rfl ?_
    refine wp_cVi (M2 := M_M_isRunner) coX11 l0 q1 [xi l1, xi l2] rfl lv_X11_194 mo_M_isRunner (Nat.le_of_ble_eq_true rfl) ⟨(Nat.le_of_ble_eq_true rfl), (Nat.le_of_ble_eq_true rfl)⟩ (Nat.le_of_ble_eq_true rfl) (Nat.le_of_ble_eq_true rfl) dX11_bars_16 (t_M_isRunner l0 l1 l2 _ _ H) (fun v6 h5 H => ?_)
    refine WP.at 19 rfl ?_
    refine wp_if_ne 27 (by decide) dX11_bars_19 (fun c7 => ?_) (fun c7 => ?_)
    · replace H := H.1 c7
      refine wp_aload_n 0 rfl rfl dX11_bars_27 ?_
      refine wp_getr coX11 4 (Nat.le_of_ble_eq_true rfl) fl_X11_19 rfl q1 dX11_bars_28 ?_
      refine wp_bipush (13 : Int32) (by decide) dX11_bars_31 ?_
      refine wp_iload_n 1 rfl rfl dX11_bars_33 ?_
      refine wp_imul dX11_bars_34 ?_
      refine wp_iload_n 2 rfl rfl dX11_bars_35 ?_
      refine wp_iadd dX11_bars_36 ?_
      refine WP.at 37 rfl ?_
      obtain ⟨q8, H⟩ := H
      obtain ⟨q9, H⟩ := H
      refine wp_baload q8 q9 dX11_bars_37 ?_
      refine WP.at 38 rfl ?_
      refine wp_if_eq 46 (by decide) dX11_bars_38 (fun c10 => ?_) (fun c10 => ?_)
      · replace H := H.1 c10
        refine wp_iconst (0 : Int32) (by decide) dX11_bars_46 ?_
        exact wp_iret trivial dX11_bars_47 H
      · replace H := H.2 c10
        refine wp_bipush (-5 : Int32) (by decide) dX11_bars_41 ?_
        refine WP.at 43 rfl ?_
        refine wp_goto 47 (by decide) dX11_bars_43 ?_
        exact wp_iret trivial dX11_bars_47 H
    · replace H := H.2 c7
      refine wp_bipush (-3 : Int32) (by decide) dX11_bars_22 ?_
      refine WP.at 24 rfl ?_
      refine wp_goto 47 (by decide) dX11_bars_24 ?_
      exact wp_iret trivial dX11_bars_47 H
  · replace H := H.2 c4
    refine wp_bipush (-2 : Int32) (by decide) dX11_bars_8 ?_
    refine WP.at 10 rfl ?_
    refine wp_goto 47 (by decide) dX11_bars_10 ?_
    exact wp_iret trivial dX11_bars_47 H
def p_M_substitute (l0 : xN) (l1 : Int32) (l2 : Int32) (h : xH) (Q : Int32 → xH → Prop) : Prop := (kd l0.1 = (1, 10)) ∧ p_M_bars l0 l1 l2 h (fun (v3 : Int32) (h2 : xH) => ((0 ≤ v3 → (kd (hR h2 l0 1).1 = (2, 0)) ∧ (vp_in l1 (hS h2 (hR h2 l0 1) - 1)) ∧ (((hI h2 (hR h2 l0 1) l1.toNatClampNeg) = 0 → (kd (hR h2 l0 3).1 = (2, 0)) ∧ (vp_in l1 (hS h2 (hR h2 l0 3) - 1)) ∧ ∀ v10 : Int32, v10 = hI h2 (hR h2 l0 3) l1.toNatClampNeg → (vp_in l1 (hS h2 (hR h2 l0 3) - 1)) ∧ ∀ h13 : xH, h13 = sI h2 (hR h2 l0 3) l1.toNatClampNeg l2 → Q v10 h13) ∧ (¬ (hI h2 (hR h2 l0 1) l1.toNatClampNeg) = 0 → Q (-6 : Int32) h2))) ∧ (¬ 0 ≤ v3 → Q v3 h2)))
set_option maxRecDepth 100000 in
set_option maxHeartbeats 4000000 in
theorem t_M_substitute (l0 : xN) (l1 : Int32) (l2 : Int32) (h : xH) (Q : Int32 → xH → Prop) (H : p_M_substitute l0 l1 l2 h Q) : WP M_M_substitute 0 [(0, xr l0), (1, xi l1), (2, xi l2)] [] h 0 (qi Q) := by
  unfold p_M_substitute at H
  refine wp_aload_n 0 rfl rfl dX11_substitute_0 ?_
  refine wp_iload_n 1 rfl rfl dX11_substitute_1 ?_
  refine wp_iload_n 2 rfl rfl dX11_substitute_2 ?_
  refine WP.at 3 rfl ?_
  obtain ⟨q1, H⟩ := H
  refine wp_cVi (M2 := M_M_bars) coX11 l0 q1 [xi l1, xi l2] rfl lv_X11_197 mo_M_bars (Nat.le_of_ble_eq_true rfl) ⟨(Nat.le_of_ble_eq_true rfl), (Nat.le_of_ble_eq_true rfl)⟩ (Nat.le_of_ble_eq_true rfl) (Nat.le_of_ble_eq_true rfl) dX11_substitute_3 (t_M_bars l0 l1 l2 _ _ H) (fun v3 h2 H => ?_)
  refine wp_istore_n 3 rfl (Nat.le_of_ble_eq_true rfl) dX11_substitute_6 (ls' := [(3, xi v3), (0, xr l0), (1, xi l1), (2, xi l2)]) rfl ?_
  refine wp_iload_n 3 rfl rfl dX11_substitute_7 ?_
  refine WP.at 8 rfl ?_
  refine wp_if_ge 13 (by decide) dX11_substitute_8 (fun c4 => ?_) (fun c4 => ?_)
  · replace H := H.1 c4
    refine wp_aload_n 0 rfl rfl dX11_substitute_13 ?_
    refine wp_getr coX11 1 (Nat.le_of_ble_eq_true rfl) fl_X11_7 rfl q1 dX11_substitute_14 ?_
    refine wp_iload_n 1 rfl rfl dX11_substitute_17 ?_
    obtain ⟨q5, H⟩ := H
    obtain ⟨q6, H⟩ := H
    refine wp_iaload q5 q6 dX11_substitute_18 ?_
    refine WP.at 19 rfl ?_
    refine wp_if_eq 25 (by decide) dX11_substitute_19 (fun c7 => ?_) (fun c7 => ?_)
    · replace H := H.1 c7
      refine wp_aload_n 0 rfl rfl dX11_substitute_25 ?_
      refine wp_getr coX11 3 (Nat.le_of_ble_eq_true rfl) fl_X11_16 rfl q1 dX11_substitute_26 ?_
      refine wp_iload_n 1 rfl rfl dX11_substitute_29 ?_
      obtain ⟨q8, H⟩ := H
      obtain ⟨q9, H⟩ := H
      refine wp_iaload q8 q9 dX11_substitute_30 ?_
      refine wp_nm (fun v10 e11 => ?_)
      replace H := H v10 e11
      refine wp_istore (Nat.le_of_ble_eq_true rfl) dX11_substitute_31 (ls' := [(4, xi v10), (3, xi v3), (0, xr l0), (1, xi l1), (2, xi l2)]) rfl ?_
      refine wp_aload_n 0 rfl rfl dX11_substitute_33 ?_
      refine wp_getr coX11 3 (Nat.le_of_ble_eq_true rfl) fl_X11_16 rfl q1 dX11_substitute_34 ?_
      refine WP.at 37 rfl ?_
      refine wp_iload_n 1 rfl rfl dX11_substitute_37 ?_
      refine wp_iload_n 2 rfl rfl dX11_substitute_38 ?_
      obtain ⟨q12, H⟩ := H
      refine wp_iastore q8 q12 dX11_substitute_39 ?_
      refine wp_nh (fun h13 e14 => ?_)
      replace H := H h13 e14
      refine wp_iload rfl dX11_substitute_40 ?_
      exact wp_iret trivial dX11_substitute_42 H
    · replace H := H.2 c7
      refine wp_bipush (-6 : Int32) (by decide) dX11_substitute_22 ?_
      exact wp_iret trivial dX11_substitute_24 H
  · replace H := H.2 c4
    refine wp_iload_n 3 rfl rfl dX11_substitute_11 ?_
    exact wp_iret trivial dX11_substitute_12 H
def p_R_takeOut (l0 : xN) (l1 : Int32) (h : xH) (Q : xH → Prop) : Prop := (kd l0.1 = (1, 4)) ∧ (kd (hR h l0 1).1 = (3, 0)) ∧ (vp_in l1 (hS h (hR h l0 1) - 1)) ∧ ∀ h4 : xH, h4 = sI h (hR h l0 1) l1.toNatClampNeg (1 : Int32) → ∀ h6 : xH, h6 = sI h4 l0 6 ((hI h4 l0 6) - (1 : Int32)) → Q h6
set_option maxRecDepth 100000 in
set_option maxHeartbeats 4000000 in
theorem t_R_takeOut (l0 : xN) (l1 : Int32) (h : xH) (Q : xH → Prop) (H : p_R_takeOut l0 l1 h Q) : WP M_R_takeOut 0 [(0, xr l0), (1, xi l1)] [] h 0 (qv Q) := by
  unfold p_R_takeOut at H
  refine wp_aload_n 0 rfl rfl dX5_takeOut_0 ?_
  obtain ⟨q1, H⟩ := H
  refine wp_getr coX5 1 (Nat.le_of_ble_eq_true rfl) fl_X5_9 rfl q1 dX5_takeOut_1 ?_
  refine wp_iload_n 1 rfl rfl dX5_takeOut_4 ?_
  refine wp_iconst (1 : Int32) (by decide) dX5_takeOut_5 ?_
  obtain ⟨q2, H⟩ := H
  obtain ⟨q3, H⟩ := H
  refine wp_bastore (Or.inr rfl) q2 q3 dX5_takeOut_6 ?_
  refine wp_nh (fun h4 e5 => ?_)
  replace H := H h4 e5
  refine wp_aload_n 0 rfl rfl dX5_takeOut_7 ?_
  refine wp_dup rfl dX5_takeOut_8 ?_
  refine WP.at 9 rfl ?_
  refine wp_geti coX5 6 (Nat.le_of_ble_eq_true rfl) fl_X5_36 rfl q1 dX5_takeOut_9 ?_
  refine wp_iconst (1 : Int32) (by decide) dX5_takeOut_12 ?_
  refine wp_isub dX5_takeOut_13 ?_
  refine wp_puti coX5 6 (Nat.le_of_ble_eq_true rfl) fl_X5_36 rfl rfl ⟨rfl, rfl⟩ q1 dX5_takeOut_14 ?_
  refine wp_nh (fun h6 e7 => ?_)
  replace H := H h6 e7
  exact wp_vret trivial dX5_takeOut_17 H
def p_Ti_isFor_j30 (l0 : xN) (l1 : xN) (l2 : Int32) (h : xH) (Q : Int32 → xH → Prop) : Prop := (kd l0.1 = (1, 8)) ∧ (kd (hR h l0 0).1 = (1, 3)) ∧ (2 ≤ (hR h (hR h l0 0) 3).1) ∧ (2 ≤ l1.1) ∧ ((¬ (hR h (hR h l0 0) 3) = l1 → Q (0 : Int32) h) ∧ ((hR h (hR h l0 0) 3) = l1 → ((¬ (hI h l0 4) = l2 → Q (0 : Int32) h) ∧ ((hI h l0 4) = l2 → Q (1 : Int32) h))))
set_option maxRecDepth 100000 in
set_option maxHeartbeats 4000000 in
theorem t_Ti_isFor_j30 (l0 : xN) (l1 : xN) (l2 : Int32) (h : xH) (Q : Int32 → xH → Prop) (H : p_Ti_isFor_j30 l0 l1 l2 h Q) : WP M_Ti_isFor 30 [(0, xr l0), (1, xr l1), (2, xi l2)] [] h 0 (qi Q) := by
  unfold p_Ti_isFor_j30 at H
  refine wp_aload_n 0 rfl rfl dX9_isFor_30 ?_
  obtain ⟨q13, H⟩ := H
  refine wp_getr coX9 0 (Nat.le_of_ble_eq_true rfl) fl_X9_15 rfl q13 dX9_isFor_31 ?_
  obtain ⟨q14, H⟩ := H
  refine wp_getr coX4 3 (Nat.le_of_ble_eq_true rfl) fl_X9_76 rfl q14 dX9_isFor_34 ?_
  refine wp_aload_n 1 rfl rfl dX9_isFor_37 ?_
  refine WP.at 38 rfl ?_
  obtain ⟨q15, H⟩ := H
  obtain ⟨q16, H⟩ := H
  refine wp_acmp_ne q15 q16 53 (by decide) dX9_isFor_38 (fun c17 => ?_) (fun c17 => ?_)
  · replace H := H.1 c17
    refine wp_iconst (0 : Int32) (by decide) dX9_isFor_53 ?_
    exact wp_iret (Or.inl rfl) dX9_isFor_54 H
  · replace H := H.2 c17
    refine wp_aload_n 0 rfl rfl dX9_isFor_41 ?_
    refine wp_geti coX9 4 (Nat.le_of_ble_eq_true rfl) fl_X9_33 rfl q13 dX9_isFor_42 ?_
    refine wp_iload_n 2 rfl rfl dX9_isFor_45 ?_
    refine WP.at 46 rfl ?_
    refine wp_icmp_ne 53 (by decide) dX9_isFor_46 (fun c18 => ?_) (fun c18 => ?_)
    · replace H := H.1 c18
      refine wp_iconst (0 : Int32) (by decide) dX9_isFor_53 ?_
      exact wp_iret (Or.inl rfl) dX9_isFor_54 H
    · replace H := H.2 c18
      refine wp_iconst (1 : Int32) (by decide) dX9_isFor_49 ?_
      refine WP.at 50 rfl ?_
      refine wp_goto 54 (by decide) dX9_isFor_50 ?_
      exact wp_iret (Or.inr rfl) dX9_isFor_54 H
def p_Ti_isFor (l0 : xN) (l1 : xN) (l2 : Int32) (h : xH) (Q : Int32 → xH → Prop) : Prop := (kd l0.1 = (1, 8)) ∧ (kd (hR h l0 0).1 = (1, 3)) ∧ ((¬ (hI h (hR h l0 0) 1) = (4 : Int32) → (2 ≤ (hR h (hR h l0 0) 2).1) ∧ (2 ≤ l1.1) ∧ ((¬ (hR h (hR h l0 0) 2) = l1 → Q (0 : Int32) h) ∧ ((hR h (hR h l0 0) 2) = l1 → (((hI h l0 3) = l2 → Q (1 : Int32) h) ∧ (¬ (hI h l0 3) = l2 → (((hI h l0 4) = l2 → Q (1 : Int32) h) ∧ (¬ (hI h l0 4) = l2 → ((¬ (hI h l0 5) = l2 → Q (0 : Int32) h) ∧ ((hI h l0 5) = l2 → Q (1 : Int32) h))))))))) ∧ ((hI h (hR h l0 0) 1) = (4 : Int32) → (2 ≤ (hR h (hR h l0 0) 2).1) ∧ (2 ≤ l1.1) ∧ ((¬ (hR h (hR h l0 0) 2) = l1 → p_Ti_isFor_j30 l0 l1 l2 h Q) ∧ ((hR h (hR h l0 0) 2) = l1 → (((hI h l0 3) = l2 → Q (1 : Int32) h) ∧ (¬ (hI h l0 3) = l2 → p_Ti_isFor_j30 l0 l1 l2 h Q))))))
set_option maxRecDepth 100000 in
set_option maxHeartbeats 4000000 in
theorem t_Ti_isFor (l0 : xN) (l1 : xN) (l2 : Int32) (h : xH) (Q : Int32 → xH → Prop) (H : p_Ti_isFor l0 l1 l2 h Q) : WP M_Ti_isFor 0 [(0, xr l0), (1, xr l1), (2, xi l2)] [] h 0 (qi Q) := by
  unfold p_Ti_isFor at H
  refine wp_aload_n 0 rfl rfl dX9_isFor_0 ?_
  obtain ⟨q1, H⟩ := H
  refine wp_getr coX9 0 (Nat.le_of_ble_eq_true rfl) fl_X9_15 rfl q1 dX9_isFor_1 ?_
  obtain ⟨q2, H⟩ := H
  refine wp_geti coX4 1 (Nat.le_of_ble_eq_true rfl) fl_X9_25 rfl q2 dX9_isFor_4 ?_
  refine wp_iconst (4 : Int32) (by decide) dX9_isFor_7 ?_
  refine WP.at 8 rfl ?_
  refine wp_icmp_ne 55 (by decide) dX9_isFor_8 (fun c3 => ?_) (fun c3 => ?_)
  · replace H := H.1 c3
    refine wp_aload_n 0 rfl rfl dX9_isFor_55 ?_
    refine wp_getr coX9 0 (Nat.le_of_ble_eq_true rfl) fl_X9_15 rfl q1 dX9_isFor_56 ?_
    refine wp_getr coX4 2 (Nat.le_of_ble_eq_true rfl) fl_X9_72 rfl q2 dX9_isFor_59 ?_
    refine wp_aload_n 1 rfl rfl dX9_isFor_62 ?_
    refine WP.at 63 rfl ?_
    obtain ⟨q4, H⟩ := H
    obtain ⟨q5, H⟩ := H
    refine wp_acmp_ne q4 q5 94 (by decide) dX9_isFor_63 (fun c6 => ?_) (fun c6 => ?_)
    · replace H := H.1 c6
      refine wp_iconst (0 : Int32) (by decide) dX9_isFor_94 ?_
      exact wp_iret (Or.inl rfl) dX9_isFor_95 H
    · replace H := H.2 c6
      refine wp_aload_n 0 rfl rfl dX9_isFor_66 ?_
      refine wp_geti coX9 3 (Nat.le_of_ble_eq_true rfl) fl_X9_30 rfl q1 dX9_isFor_67 ?_
      refine wp_iload_n 2 rfl rfl dX9_isFor_70 ?_
      refine WP.at 71 rfl ?_
      refine wp_icmp_eq 90 (by decide) dX9_isFor_71 (fun c7 => ?_) (fun c7 => ?_)
      · replace H := H.1 c7
        refine wp_iconst (1 : Int32) (by decide) dX9_isFor_90 ?_
        refine WP.at 91 rfl ?_
        refine wp_goto 95 (by decide) dX9_isFor_91 ?_
        exact wp_iret (Or.inr rfl) dX9_isFor_95 H
      · replace H := H.2 c7
        refine wp_aload_n 0 rfl rfl dX9_isFor_74 ?_
        refine wp_geti coX9 4 (Nat.le_of_ble_eq_true rfl) fl_X9_33 rfl q1 dX9_isFor_75 ?_
        refine wp_iload_n 2 rfl rfl dX9_isFor_78 ?_
        refine WP.at 79 rfl ?_
        refine wp_icmp_eq 90 (by decide) dX9_isFor_79 (fun c8 => ?_) (fun c8 => ?_)
        · replace H := H.1 c8
          refine wp_iconst (1 : Int32) (by decide) dX9_isFor_90 ?_
          refine WP.at 91 rfl ?_
          refine wp_goto 95 (by decide) dX9_isFor_91 ?_
          exact wp_iret (Or.inr rfl) dX9_isFor_95 H
        · replace H := H.2 c8
          refine wp_aload_n 0 rfl rfl dX9_isFor_82 ?_
          refine wp_geti coX9 5 (Nat.le_of_ble_eq_true rfl) fl_X9_36 rfl q1 dX9_isFor_83 ?_
          refine wp_iload_n 2 rfl rfl dX9_isFor_86 ?_
          refine WP.at 87 rfl ?_
          refine wp_icmp_ne 94 (by decide) dX9_isFor_87 (fun c9 => ?_) (fun c9 => ?_)
          · replace H := H.1 c9
            refine wp_iconst (0 : Int32) (by decide) dX9_isFor_94 ?_
            exact wp_iret (Or.inl rfl) dX9_isFor_95 H
          · replace H := H.2 c9
            refine wp_iconst (1 : Int32) (by decide) dX9_isFor_90 ?_
            refine WP.at 91 rfl ?_
            refine wp_goto 95 (by decide) dX9_isFor_91 ?_
            exact wp_iret (Or.inr rfl) dX9_isFor_95 H
  · replace H := H.2 c3
    refine wp_aload_n 0 rfl rfl dX9_isFor_11 ?_
    refine wp_getr coX9 0 (Nat.le_of_ble_eq_true rfl) fl_X9_15 rfl q1 dX9_isFor_12 ?_
    refine wp_getr coX4 2 (Nat.le_of_ble_eq_true rfl) fl_X9_72 rfl q2 dX9_isFor_15 ?_
    refine wp_aload_n 1 rfl rfl dX9_isFor_18 ?_
    refine WP.at 19 rfl ?_
    obtain ⟨q10, H⟩ := H
    obtain ⟨q11, H⟩ := H
    refine wp_acmp_ne q10 q11 30 (by decide) dX9_isFor_19 (fun c12 => ?_) (fun c12 => ?_)
    · replace H := H.1 c12
      exact WP.pick [0, 1, 2] rfl (t_Ti_isFor_j30 l0 l1 l2 _ _ H)
    · replace H := H.2 c12
      refine wp_aload_n 0 rfl rfl dX9_isFor_22 ?_
      refine wp_geti coX9 3 (Nat.le_of_ble_eq_true rfl) fl_X9_30 rfl q1 dX9_isFor_23 ?_
      refine wp_iload_n 2 rfl rfl dX9_isFor_26 ?_
      refine WP.at 27 rfl ?_
      refine wp_icmp_eq 49 (by decide) dX9_isFor_27 (fun c19 => ?_) (fun c19 => ?_)
      · replace H := H.1 c19
        refine wp_iconst (1 : Int32) (by decide) dX9_isFor_49 ?_
        refine WP.at 50 rfl ?_
        refine wp_goto 54 (by decide) dX9_isFor_50 ?_
        exact wp_iret (Or.inr rfl) dX9_isFor_54 H
      · replace H := H.2 c19
        exact WP.pick [0, 1, 2] rfl (t_Ti_isFor_j30 l0 l1 l2 _ _ H)
def p_Ti_stake (l0 : xN) (h : xH) (Q : Int32 → xH → Prop) : Prop := (kd l0.1 = (1, 8)) ∧ (kd (hR h l0 0).1 = (1, 3)) ∧ Q ((hI h l0 2) * (hI h (hR h l0 0) 5)) h
set_option maxRecDepth 100000 in
set_option maxHeartbeats 4000000 in
theorem t_Ti_stake (l0 : xN) (h : xH) (Q : Int32 → xH → Prop) (H : p_Ti_stake l0 h Q) : WP M_Ti_stake 0 [(0, xr l0)] [] h 0 (qi Q) := by
  unfold p_Ti_stake at H
  refine wp_aload_n 0 rfl rfl dX9_stake_0 ?_
  obtain ⟨q1, H⟩ := H
  refine wp_geti coX9 2 (Nat.le_of_ble_eq_true rfl) fl_X9_22 rfl q1 dX9_stake_1 ?_
  refine wp_aload_n 0 rfl rfl dX9_stake_4 ?_
  refine wp_getr coX9 0 (Nat.le_of_ble_eq_true rfl) fl_X9_15 rfl q1 dX9_stake_5 ?_
  obtain ⟨q2, H⟩ := H
  refine wp_geti coX4 5 (Nat.le_of_ble_eq_true rfl) fl_X9_58 rfl q2 dX9_stake_8 ?_
  refine wp_imul dX9_stake_11 ?_
  exact wp_iret trivial dX9_stake_12 H
def p_Po_lineOf (l0 : xN) (l1 : Int32) (l2 : Int32) (l3 : Int32) (h : xH) (Q : Int32 → xH → Prop) : Prop := (kd l0.1 = (1, 3)) ∧ (((hI h l0 1) = (2 : Int32) → ((l2 ≤ l1 → Q ((l2 * (13 : Int32)) + l1) h) ∧ (¬ l2 ≤ l1 → Q ((l1 * (13 : Int32)) + l2) h))) ∧ ((hI h l0 1) = (3 : Int32) → Q ((((l1 * (13 : Int32)) + l2) * (13 : Int32)) + l3) h) ∧ ((hI h l0 1) = (4 : Int32) → Q ((l1 * (13 : Int32)) + l2) h) ∧ ((∀ q ∈ ([(2 : Int32), (3 : Int32), (4 : Int32)] : List Int32), (hI h l0 1) ≠ q) → Q l1 h))
set_option maxRecDepth 100000 in
set_option maxHeartbeats 4000000 in
theorem t_Po_lineOf (l0 : xN) (l1 : Int32) (l2 : Int32) (l3 : Int32) (h : xH) (Q : Int32 → xH → Prop) (H : p_Po_lineOf l0 l1 l2 l3 h Q) : WP M_Po_lineOf 0 [(0, xr l0), (1, xi l1), (2, xi l2), (3, xi l3)] [] h 0 (qi Q) := by
  unfold p_Po_lineOf at H
  refine wp_bipush (13 : Int32) (by decide) dX4_lineOf_0 ?_
  refine wp_istore (Nat.le_of_ble_eq_true rfl) dX4_lineOf_2 (ls' := [(4, xi (13 : Int32)), (0, xr l0), (1, xi l1), (2, xi l2), (3, xi l3)]) rfl ?_
  refine wp_aload_n 0 rfl rfl dX4_lineOf_4 ?_
  obtain ⟨q1, H⟩ := H
  refine wp_geti coX4 1 (Nat.le_of_ble_eq_true rfl) fl_X4_19 rfl q1 dX4_lineOf_5 ?_
  refine WP.at 8 rfl ?_
  refine wp_tsw dX4_lineOf_8 [((2 : Int32), 36), ((3 : Int32), 57), ((4 : Int32), 69)] 76 (by decide) (by decide +kernel) (by decide +kernel) ?_ ?_
  · refine List.forall_mem_cons.mpr ⟨fun c0 => ?_, List.forall_mem_cons.mpr ⟨fun c0 => ?_, List.forall_mem_cons.mpr ⟨fun c0 => ?_, fun _ z => absurd z List.not_mem_nil⟩⟩⟩
    · replace H := H.1 c0
      refine wp_iload_n 1 rfl rfl dX4_lineOf_36 ?_
      refine wp_iload_n 2 rfl rfl dX4_lineOf_37 ?_
      refine WP.at 38 rfl ?_
      refine wp_icmp_ge 50 (by decide) dX4_lineOf_38 (fun c2 => ?_) (fun c2 => ?_)
      · replace H := H.1 c2
        refine wp_iload_n 2 rfl rfl dX4_lineOf_50 ?_
        refine wp_iload rfl dX4_lineOf_51 ?_
        refine wp_imul dX4_lineOf_53 ?_
        refine wp_iload_n 1 rfl rfl dX4_lineOf_54 ?_
        refine wp_iadd dX4_lineOf_55 ?_
        exact wp_iret trivial dX4_lineOf_56 H
      · replace H := H.2 c2
        refine wp_iload_n 1 rfl rfl dX4_lineOf_41 ?_
        refine wp_iload rfl dX4_lineOf_42 ?_
        refine wp_imul dX4_lineOf_44 ?_
        refine wp_iload_n 2 rfl rfl dX4_lineOf_45 ?_
        refine wp_iadd dX4_lineOf_46 ?_
        refine WP.at 47 rfl ?_
        refine wp_goto 56 (by decide) dX4_lineOf_47 ?_
        exact wp_iret trivial dX4_lineOf_56 H
    · replace H := H.2.1 c0
      refine wp_iload_n 1 rfl rfl dX4_lineOf_57 ?_
      refine wp_iload rfl dX4_lineOf_58 ?_
      refine wp_imul dX4_lineOf_60 ?_
      refine wp_iload_n 2 rfl rfl dX4_lineOf_61 ?_
      refine wp_iadd dX4_lineOf_62 ?_
      refine wp_iload rfl dX4_lineOf_63 ?_
      refine wp_imul dX4_lineOf_65 ?_
      refine WP.at 66 rfl ?_
      refine wp_iload_n 3 rfl rfl dX4_lineOf_66 ?_
      refine wp_iadd dX4_lineOf_67 ?_
      exact wp_iret trivial dX4_lineOf_68 H
    · replace H := H.2.2.1 c0
      refine wp_iload_n 1 rfl rfl dX4_lineOf_69 ?_
      refine wp_iload rfl dX4_lineOf_70 ?_
      refine wp_imul dX4_lineOf_72 ?_
      refine wp_iload_n 2 rfl rfl dX4_lineOf_73 ?_
      refine wp_iadd dX4_lineOf_74 ?_
      exact wp_iret trivial dX4_lineOf_75 H
  · intro c0
    replace H := H.2.2.2 c0
    refine wp_iload_n 1 rfl rfl dX4_lineOf_76 ?_
    exact wp_iret trivial dX4_lineOf_77 H
def p_Ti_line (l0 : xN) (h : xH) (Q : Int32 → xH → Prop) : Prop := (kd l0.1 = (1, 8)) ∧ (kd (hR h l0 0).1 = (1, 3)) ∧ p_Po_lineOf (hR h l0 0) (hI h l0 3) (hI h l0 4) (hI h l0 5) h (fun (v4 : Int32) (h3 : xH) => Q v4 h3)
set_option maxRecDepth 100000 in
set_option maxHeartbeats 4000000 in
theorem t_Ti_line (l0 : xN) (h : xH) (Q : Int32 → xH → Prop) (H : p_Ti_line l0 h Q) : WP M_Ti_line 0 [(0, xr l0)] [] h 0 (qi Q) := by
  unfold p_Ti_line at H
  refine wp_aload_n 0 rfl rfl dX9_line_0 ?_
  obtain ⟨q1, H⟩ := H
  refine wp_getr coX9 0 (Nat.le_of_ble_eq_true rfl) fl_X9_15 rfl q1 dX9_line_1 ?_
  refine wp_aload_n 0 rfl rfl dX9_line_4 ?_
  refine wp_geti coX9 3 (Nat.le_of_ble_eq_true rfl) fl_X9_30 rfl q1 dX9_line_5 ?_
  refine wp_aload_n 0 rfl rfl dX9_line_8 ?_
  refine wp_geti coX9 4 (Nat.le_of_ble_eq_true rfl) fl_X9_33 rfl q1 dX9_line_9 ?_
  refine wp_aload_n 0 rfl rfl dX9_line_12 ?_
  refine WP.at 13 rfl ?_
  refine wp_geti coX9 5 (Nat.le_of_ble_eq_true rfl) fl_X9_36 rfl q1 dX9_line_13 ?_
  refine WP.at 16 rfl ?_
  obtain ⟨q2, H⟩ := H
  refine wp_cVi (M2 := M_Po_lineOf) coX4 (hR h l0 0) q2 [xi (hI h l0 3), xi (hI h l0 4), xi (hI h l0 5)] rfl lv_X9_54 mo_Po_lineOf (Nat.le_of_ble_eq_true rfl) ⟨(Nat.le_of_ble_eq_true rfl), (Nat.le_of_ble_eq_true rfl)⟩ (Nat.le_of_ble_eq_true rfl) (Nat.le_of_ble_eq_true rfl) dX9_line_16 (t_Po_lineOf (hR h l0 0) (hI h l0 3) (hI h l0 4) (hI h l0 5) _ _ H) (fun v4 h3 H => ?_)
  exact wp_iret trivial dX9_line_19 H
def p_Po_addLive (l0 : xN) (l1 : Int32) (l2 : Int32) (h : xH) (Q : xH → Prop) : Prop := (kd l0.1 = (1, 3)) ∧ (kd (hR h l0 6).1 = (2, 0)) ∧ (vp_in l1 (hS h (hR h l0 6) - 1)) ∧ (vp_in l1 (hS h (hR h l0 6) - 1)) ∧ ∀ h5 : xH, h5 = sI h (hR h l0 6) l1.toNatClampNeg ((hI h (hR h l0 6) l1.toNatClampNeg) + l2) → ∀ h7 : xH, h7 = sI h5 l0 9 ((hI h5 l0 9) + l2) → Q h7
set_option maxRecDepth 100000 in
set_option maxHeartbeats 4000000 in
theorem t_Po_addLive (l0 : xN) (l1 : Int32) (l2 : Int32) (h : xH) (Q : xH → Prop) (H : p_Po_addLive l0 l1 l2 h Q) : WP M_Po_addLive 0 [(0, xr l0), (1, xi l1), (2, xi l2)] [] h 0 (qv Q) := by
  unfold p_Po_addLive at H
  refine wp_aload_n 0 rfl rfl dX4_addLive_0 ?_
  obtain ⟨q1, H⟩ := H
  refine wp_getr coX4 6 (Nat.le_of_ble_eq_true rfl) fl_X4_35 rfl q1 dX4_addLive_1 ?_
  refine wp_iload_n 1 rfl rfl dX4_addLive_4 ?_
  refine wp_dup2 rfl rfl dX4_addLive_5 ?_
  obtain ⟨q2, H⟩ := H
  obtain ⟨q3, H⟩ := H
  refine wp_iaload q2 q3 dX4_addLive_6 ?_
  refine wp_iload_n 2 rfl rfl dX4_addLive_7 ?_
  refine wp_iadd dX4_addLive_8 ?_
  refine WP.at 9 rfl ?_
  obtain ⟨q4, H⟩ := H
  refine wp_iastore q2 q4 dX4_addLive_9 ?_
  refine wp_nh (fun h5 e6 => ?_)
  replace H := H h5 e6
  refine wp_aload_n 0 rfl rfl dX4_addLive_10 ?_
  refine wp_dup rfl dX4_addLive_11 ?_
  refine wp_geti coX4 9 (Nat.le_of_ble_eq_true rfl) fl_X4_50 rfl q1 dX4_addLive_12 ?_
  refine wp_iload_n 2 rfl rfl dX4_addLive_15 ?_
  refine wp_iadd dX4_addLive_16 ?_
  refine wp_puti coX4 9 (Nat.le_of_ble_eq_true rfl) fl_X4_50 rfl rfl ⟨rfl, rfl⟩ q1 dX4_addLive_17 ?_
  refine wp_nh (fun h7 e8 => ?_)
  replace H := H h7 e8
  exact wp_vret trivial dX4_addLive_20 H
def p_Ti_end (l0 : xN) (l1 : Int32) (l2 : Int32) (l3 : Int32) (h : xH) (Q : xH → Prop) : Prop := (kd l0.1 = (1, 8)) ∧ p_Ti_line l0 h (fun (v3 : Int32) (h2 : xH) => (kd (hR h l0 0).1 = (1, 3)) ∧ p_Po_addLive (hR h l0 0) v3 (-(hI h2 l0 2)) h2 (fun h5 : xH => (kd (hR h5 l0 0).1 = (1, 3)) ∧ (kd (hR h5 (hR h5 l0 0) 8).1 = (2, 0)) ∧ (vp_in l2 (hS h5 (hR h5 (hR h5 l0 0) 8) - 1)) ∧ (vp_in l2 (hS h5 (hR h5 (hR h5 l0 0) 8) - 1)) ∧ ∀ h10 : xH, h10 = sI h5 (hR h5 (hR h5 l0 0) 8) l2.toNatClampNeg ((hI h5 (hR h5 (hR h5 l0 0) 8) l2.toNatClampNeg) + l3) → ∀ h12 : xH, h12 = sI h10 l0 6 l1 → Q h12))
set_option maxRecDepth 100000 in
set_option maxHeartbeats 4000000 in
theorem t_Ti_end (l0 : xN) (l1 : Int32) (l2 : Int32) (l3 : Int32) (h : xH) (Q : xH → Prop) (H : p_Ti_end l0 l1 l2 l3 h Q) : WP M_Ti_end 0 [(0, xr l0), (1, xi l1), (2, xi l2), (3, xi l3)] [] h 0 (qv Q) := by
  unfold p_Ti_end at H
  refine wp_aload_n 0 rfl rfl dX9_end_0 ?_
  obtain ⟨q1, H⟩ := H
  refine wp_getr coX9 0 (Nat.le_of_ble_eq_true rfl) fl_X9_15 rfl q1 dX9_end_1 ?_
  refine wp_aload_n 0 rfl rfl dX9_end_4 ?_
  refine WP.at 5 rfl ?_
  refine wp_cVi (M2 := M_Ti_line) coX9 l0 q1 [] rfl lv_X9_39 mo_Ti_line (Nat.le_of_ble_eq_true rfl) ⟨(Nat.le_of_ble_eq_true rfl), (Nat.le_of_ble_eq_true rfl)⟩ (Nat.le_of_ble_eq_true rfl) (Nat.le_of_ble_eq_true rfl) dX9_end_5 (t_Ti_line l0 _ _ H) (fun v3 h2 H => ?_)
  refine wp_aload_n 0 rfl rfl dX9_end_8 ?_
  refine wp_geti coX9 2 (Nat.le_of_ble_eq_true rfl) fl_X9_22 rfl q1 dX9_end_9 ?_
  refine wp_ineg dX9_end_12 ?_
  refine WP.at 13 rfl ?_
  refine WP.at 13 rfl ?_
  obtain ⟨q4, H⟩ := H
  refine wp_cVv (M2 := M_Po_addLive) coX4 (hR h l0 0) q4 [xi v3, xi (-(hI h2 l0 2))] rfl lv_X9_43 mo_Po_addLive (Nat.le_of_ble_eq_true rfl) ⟨(Nat.le_of_ble_eq_true rfl), (Nat.le_of_ble_eq_true rfl)⟩ (Nat.le_of_ble_eq_true rfl) (Nat.le_of_ble_eq_true rfl) dX9_end_13 (t_Po_addLive (hR h l0 0) v3 (-(hI h2 l0 2)) _ _ H) (fun h5 H => ?_)
  refine wp_aload_n 0 rfl rfl dX9_end_16 ?_
  refine wp_getr coX9 0 (Nat.le_of_ble_eq_true rfl) fl_X9_15 rfl q1 dX9_end_17 ?_
  obtain ⟨q6, H⟩ := H
  refine wp_getr coX4 8 (Nat.le_of_ble_eq_true rfl) fl_X9_47 rfl q6 dX9_end_20 ?_
  refine wp_iload_n 2 rfl rfl dX9_end_23 ?_
  refine wp_dup2 rfl rfl dX9_end_24 ?_
  obtain ⟨q7, H⟩ := H
  obtain ⟨q8, H⟩ := H
  refine wp_iaload q7 q8 dX9_end_25 ?_
  refine wp_iload_n 3 rfl rfl dX9_end_26 ?_
  refine WP.at 27 rfl ?_
  refine wp_iadd dX9_end_27 ?_
  obtain ⟨q9, H⟩ := H
  refine wp_iastore q7 q9 dX9_end_28 ?_
  refine wp_nh (fun h10 e11 => ?_)
  replace H := H h10 e11
  refine wp_aload_n 0 rfl rfl dX9_end_29 ?_
  refine wp_iload_n 1 rfl rfl dX9_end_30 ?_
  refine wp_puti coX9 6 (Nat.le_of_ble_eq_true rfl) fl_X9_9 rfl rfl ⟨rfl, rfl⟩ q1 dX9_end_31 ?_
  refine wp_nh (fun h12 e13 => ?_)
  replace H := H h12 e13
  exact wp_vret trivial dX9_end_34 H
def p_Ti_refund (l0 : xN) (h : xH) (Q : xH → Prop) : Prop := (kd l0.1 = (1, 8)) ∧ p_Ti_stake l0 h (fun (v3 : Int32) (h2 : xH) => p_Ti_end l0 (2 : Int32) (2 : Int32) v3 h2 (fun h4 : xH => Q h4))
set_option maxRecDepth 100000 in
set_option maxHeartbeats 4000000 in
theorem t_Ti_refund (l0 : xN) (h : xH) (Q : xH → Prop) (H : p_Ti_refund l0 h Q) : WP M_Ti_refund 0 [(0, xr l0)] [] h 0 (qv Q) := by
  unfold p_Ti_refund at H
  refine wp_aload_n 0 rfl rfl dX9_refund_0 ?_
  refine wp_iconst (2 : Int32) (by decide) dX9_refund_1 ?_
  refine wp_iconst (2 : Int32) (by decide) dX9_refund_2 ?_
  refine wp_aload_n 0 rfl rfl dX9_refund_3 ?_
  refine WP.at 4 rfl ?_
  obtain ⟨q1, H⟩ := H
  refine wp_cVi (M2 := M_Ti_stake) coX9 l0 q1 [] rfl lv_X9_51 mo_Ti_stake (Nat.le_of_ble_eq_true rfl) ⟨(Nat.le_of_ble_eq_true rfl), (Nat.le_of_ble_eq_true rfl)⟩ (Nat.le_of_ble_eq_true rfl) (Nat.le_of_ble_eq_true rfl) dX9_refund_4 (t_Ti_stake l0 _ _ H) (fun v3 h2 H => ?_)
  refine WP.at 7 rfl ?_
  refine wp_cVv (M2 := M_Ti_end) coX9 l0 q1 [xi (2 : Int32), xi (2 : Int32), xi v3] rfl lv_X9_68 mo_Ti_end (Nat.le_of_ble_eq_true rfl) ⟨(Nat.le_of_ble_eq_true rfl), (Nat.le_of_ble_eq_true rfl)⟩ (Nat.le_of_ble_eq_true rfl) (Nat.le_of_ble_eq_true rfl) dX9_refund_7 (t_Ti_end l0 (2 : Int32) (2 : Int32) v3 _ _ H) (fun h4 H => ?_)
  exact wp_vret trivial dX9_refund_10 H
def p_Ti_loseRunner_j29 (l0 : xN) (h : xH) (Q : xH → Prop) : Prop := (kd l0.1 = (1, 8)) ∧ p_Ti_refund l0 h (fun h5 : xH => Q h5)
set_option maxRecDepth 100000 in
set_option maxHeartbeats 4000000 in
theorem t_Ti_loseRunner_j29 (l0 : xN) (h : xH) (Q : xH → Prop) (H : p_Ti_loseRunner_j29 l0 h Q) : WP M_Ti_loseRunner 29 [(0, xr l0)] [] h 0 (qv Q) := by
  unfold p_Ti_loseRunner_j29 at H
  refine wp_aload_n 0 rfl rfl dX9_loseRunner_29 ?_
  refine WP.at 30 rfl ?_
  obtain ⟨q4, H⟩ := H
  refine wp_cVv (M2 := M_Ti_refund) coX9 l0 q4 [] rfl lv_X9_88 mo_Ti_refund (Nat.le_of_ble_eq_true rfl) ⟨(Nat.le_of_ble_eq_true rfl), (Nat.le_of_ble_eq_true rfl)⟩ (Nat.le_of_ble_eq_true rfl) (Nat.le_of_ble_eq_true rfl) dX9_loseRunner_30 (t_Ti_refund l0 _ _ H) (fun h5 H => ?_)
  exact wp_vret trivial dX9_loseRunner_33 H
def p_Ti_loseRunner_j80 (l0 : xN) (h : xH) (Q : xH → Prop) : Prop := (kd l0.1 = (1, 8)) ∧ p_Ti_line l0 h (fun (v22 : Int32) (h21 : xH) => (kd (hR h l0 0).1 = (1, 3)) ∧ p_Po_addLive (hR h l0 0) v22 (hI h21 l0 2) h21 (fun h24 : xH => Q h24))
set_option maxRecDepth 100000 in
set_option maxHeartbeats 4000000 in
theorem t_Ti_loseRunner_j80 (l0 : xN) (h : xH) (Q : xH → Prop) (H : p_Ti_loseRunner_j80 l0 h Q) : WP M_Ti_loseRunner 80 [(0, xr l0)] [] h 0 (qv Q) := by
  unfold p_Ti_loseRunner_j80 at H
  refine wp_aload_n 0 rfl rfl dX9_loseRunner_80 ?_
  obtain ⟨q20, H⟩ := H
  refine wp_getr coX9 0 (Nat.le_of_ble_eq_true rfl) fl_X9_15 rfl q20 dX9_loseRunner_81 ?_
  refine wp_aload_n 0 rfl rfl dX9_loseRunner_84 ?_
  refine WP.at 85 rfl ?_
  refine wp_cVi (M2 := M_Ti_line) coX9 l0 q20 [] rfl lv_X9_39 mo_Ti_line (Nat.le_of_ble_eq_true rfl) ⟨(Nat.le_of_ble_eq_true rfl), (Nat.le_of_ble_eq_true rfl)⟩ (Nat.le_of_ble_eq_true rfl) (Nat.le_of_ble_eq_true rfl) dX9_loseRunner_85 (t_Ti_line l0 _ _ H) (fun v22 h21 H => ?_)
  refine wp_aload_n 0 rfl rfl dX9_loseRunner_88 ?_
  refine wp_geti coX9 2 (Nat.le_of_ble_eq_true rfl) fl_X9_22 rfl q20 dX9_loseRunner_89 ?_
  refine WP.at 92 rfl ?_
  obtain ⟨q23, H⟩ := H
  refine wp_cVv (M2 := M_Po_addLive) coX4 (hR h l0 0) q23 [xi v22, xi (hI h21 l0 2)] rfl lv_X9_43 mo_Po_addLive (Nat.le_of_ble_eq_true rfl) ⟨(Nat.le_of_ble_eq_true rfl), (Nat.le_of_ble_eq_true rfl)⟩ (Nat.le_of_ble_eq_true rfl) (Nat.le_of_ble_eq_true rfl) dX9_loseRunner_92 (t_Po_addLive (hR h l0 0) v22 (hI h21 l0 2) _ _ H) (fun h24 H => ?_)
  refine WP.at 95 rfl ?_
  exact wp_vret trivial dX9_loseRunner_95 H
def p_Ti_loseRunner (l0 : xN) (l1 : xN) (h : xH) (Q : xH → Prop) : Prop := (kd l0.1 = (1, 8)) ∧ (kd (hR h l0 0).1 = (1, 3)) ∧ ((¬ (hI h (hR h l0 0) 1) = (4 : Int32) → p_Ti_loseRunner_j29 l0 h Q) ∧ ((hI h (hR h l0 0) 1) = (4 : Int32) → (kd l1.1 = (1, 4)) ∧ (((hI h l1 8) = 0 → p_Ti_loseRunner_j29 l0 h Q) ∧ (¬ (hI h l1 8) = 0 → p_R_isOut l1 (hI h l1 8) h (fun (v9 : Int32) (h8 : xH) => ((v9 = 0 → p_Ti_line l0 h8 (fun (v12 : Int32) (h11 : xH) => (kd (hR h8 l0 0).1 = (1, 3)) ∧ p_Po_addLive (hR h8 l0 0) v12 (-(hI h11 l0 2)) h11 (fun h14 : xH => (kd (hR h14 l0 0).1 = (1, 3)) ∧ (2 ≤ (hR h14 (hR h14 l0 0) 2).1) ∧ ((¬ (hR h14 (hR h14 l0 0) 2) = l1 → ∀ h18 : xH, h18 = sI h14 l0 4 (hI h14 l1 8) → p_Ti_loseRunner_j80 l0 h18 Q) ∧ ((hR h14 (hR h14 l0 0) 2) = l1 → ∀ h25 : xH, h25 = sI h14 l0 3 (hI h14 l1 8) → p_Ti_loseRunner_j80 l0 h25 Q))))) ∧ (¬ v9 = 0 → p_Ti_loseRunner_j29 l0 h8 Q)))))))
set_option maxRecDepth 100000 in
set_option maxHeartbeats 4000000 in
theorem t_Ti_loseRunner (l0 : xN) (l1 : xN) (h : xH) (Q : xH → Prop) (H : p_Ti_loseRunner l0 l1 h Q) : WP M_Ti_loseRunner 0 [(0, xr l0), (1, xr l1)] [] h 0 (qv Q) := by
  unfold p_Ti_loseRunner at H
  refine wp_aload_n 0 rfl rfl dX9_loseRunner_0 ?_
  obtain ⟨q1, H⟩ := H
  refine wp_getr coX9 0 (Nat.le_of_ble_eq_true rfl) fl_X9_15 rfl q1 dX9_loseRunner_1 ?_
  obtain ⟨q2, H⟩ := H
  refine wp_geti coX4 1 (Nat.le_of_ble_eq_true rfl) fl_X9_25 rfl q2 dX9_loseRunner_4 ?_
  refine wp_iconst (4 : Int32) (by decide) dX9_loseRunner_7 ?_
  refine WP.at 8 rfl ?_
  refine wp_icmp_ne 29 (by decide) dX9_loseRunner_8 (fun c3 => ?_) (fun c3 => ?_)
  · replace H := H.1 c3
    exact WP.pick [0] rfl (t_Ti_loseRunner_j29 l0 _ _ H)
  · replace H := H.2 c3
    refine wp_aload_n 1 rfl rfl dX9_loseRunner_11 ?_
    obtain ⟨q6, H⟩ := H
    refine wp_geti coX5 8 (Nat.le_of_ble_eq_true rfl) fl_X9_79 rfl q6 dX9_loseRunner_12 ?_
    refine WP.at 15 rfl ?_
    refine wp_if_eq 29 (by decide) dX9_loseRunner_15 (fun c7 => ?_) (fun c7 => ?_)
    · replace H := H.1 c7
      exact WP.pick [0] rfl (t_Ti_loseRunner_j29 l0 _ _ H)
    · replace H := H.2 c7
      refine wp_aload_n 1 rfl rfl dX9_loseRunner_18 ?_
      refine wp_aload_n 1 rfl rfl dX9_loseRunner_19 ?_
      refine wp_geti coX5 8 (Nat.le_of_ble_eq_true rfl) fl_X9_79 rfl q6 dX9_loseRunner_20 ?_
      refine WP.at 23 rfl ?_
      refine wp_cVi (M2 := M_R_isOut) coX5 l1 q6 [xi (hI h l1 8)] rfl lv_X9_84 mo_R_isOut (Nat.le_of_ble_eq_true rfl) ⟨(Nat.le_of_ble_eq_true rfl), (Nat.le_of_ble_eq_true rfl)⟩ (Nat.le_of_ble_eq_true rfl) (Nat.le_of_ble_eq_true rfl) dX9_loseRunner_23 (t_R_isOut l1 (hI h l1 8) _ _ H) (fun v9 h8 H => ?_)
      refine WP.at 26 rfl ?_
      refine wp_if_eq 34 (by decide) dX9_loseRunner_26 (fun c10 => ?_) (fun c10 => ?_)
      · replace H := H.1 c10
        refine wp_aload_n 0 rfl rfl dX9_loseRunner_34 ?_
        refine wp_getr coX9 0 (Nat.le_of_ble_eq_true rfl) fl_X9_15 rfl q1 dX9_loseRunner_35 ?_
        refine wp_aload_n 0 rfl rfl dX9_loseRunner_38 ?_
        refine WP.at 39 rfl ?_
        refine wp_cVi (M2 := M_Ti_line) coX9 l0 q1 [] rfl lv_X9_39 mo_Ti_line (Nat.le_of_ble_eq_true rfl) ⟨(Nat.le_of_ble_eq_true rfl), (Nat.le_of_ble_eq_true rfl)⟩ (Nat.le_of_ble_eq_true rfl) (Nat.le_of_ble_eq_true rfl) dX9_loseRunner_39 (t_Ti_line l0 _ _ H) (fun v12 h11 H => ?_)
        refine wp_aload_n 0 rfl rfl dX9_loseRunner_42 ?_
        refine wp_geti coX9 2 (Nat.le_of_ble_eq_true rfl) fl_X9_22 rfl q1 dX9_loseRunner_43 ?_
        refine wp_ineg dX9_loseRunner_46 ?_
        refine WP.at 47 rfl ?_
        refine WP.at 47 rfl ?_
        obtain ⟨q13, H⟩ := H
        refine wp_cVv (M2 := M_Po_addLive) coX4 (hR h8 l0 0) q13 [xi v12, xi (-(hI h11 l0 2))] rfl lv_X9_43 mo_Po_addLive (Nat.le_of_ble_eq_true rfl) ⟨(Nat.le_of_ble_eq_true rfl), (Nat.le_of_ble_eq_true rfl)⟩ (Nat.le_of_ble_eq_true rfl) (Nat.le_of_ble_eq_true rfl) dX9_loseRunner_47 (t_Po_addLive (hR h8 l0 0) v12 (-(hI h11 l0 2)) _ _ H) (fun h14 H => ?_)
        refine wp_aload_n 0 rfl rfl dX9_loseRunner_50 ?_
        refine wp_getr coX9 0 (Nat.le_of_ble_eq_true rfl) fl_X9_15 rfl q1 dX9_loseRunner_51 ?_
        obtain ⟨q15, H⟩ := H
        refine wp_getr coX4 2 (Nat.le_of_ble_eq_true rfl) fl_X9_72 rfl q15 dX9_loseRunner_54 ?_
        refine wp_aload_n 1 rfl rfl dX9_loseRunner_57 ?_
        refine WP.at 58 rfl ?_
        obtain ⟨q16, H⟩ := H
        refine wp_acmp_ne q16 (kd_ge q6 (by omega) (by omega)) 72 (by decide) dX9_loseRunner_58 (fun c17 => ?_) (fun c17 => ?_)
        · replace H := H.1 c17
          refine wp_aload_n 0 rfl rfl dX9_loseRunner_72 ?_
          refine wp_aload_n 1 rfl rfl dX9_loseRunner_73 ?_
          refine wp_geti coX5 8 (Nat.le_of_ble_eq_true rfl) fl_X9_79 rfl q6 dX9_loseRunner_74 ?_
          refine wp_puti coX9 4 (Nat.le_of_ble_eq_true rfl) fl_X9_33 rfl rfl ⟨rfl, rfl⟩ q1 dX9_loseRunner_77 ?_
          refine wp_nh (fun h18 e19 => ?_)
          replace H := H h18 e19
          refine WP.at 80 rfl ?_
          exact WP.pick [0] rfl (t_Ti_loseRunner_j80 l0 _ _ H)
        · replace H := H.2 c17
          refine wp_aload_n 0 rfl rfl dX9_loseRunner_61 ?_
          refine wp_aload_n 1 rfl rfl dX9_loseRunner_62 ?_
          refine wp_geti coX5 8 (Nat.le_of_ble_eq_true rfl) fl_X9_79 rfl q6 dX9_loseRunner_63 ?_
          refine wp_puti coX9 3 (Nat.le_of_ble_eq_true rfl) fl_X9_30 rfl rfl ⟨rfl, rfl⟩ q1 dX9_loseRunner_66 ?_
          refine wp_nh (fun h25 e26 => ?_)
          replace H := H h25 e26
          refine WP.at 69 rfl ?_
          refine wp_goto 80 (by decide) dX9_loseRunner_69 ?_
          exact WP.pick [0] rfl (t_Ti_loseRunner_j80 l0 _ _ H)
      · replace H := H.2 c10
        exact WP.pick [0] rfl (t_Ti_loseRunner_j29 l0 _ _ H)
def p_T_scratch_L37 (l0 : xN) (l2 : Int32) (l3 : xN) (K37_94 : Int32 → xH → Prop) (Q : Int32 → xH → Prop) : Nat → Int32 → Int32 → xH → Prop
  | 0, _, _, _ => False
  | f + 1, l5, l6, h => (kd l0.1 = (1, 9)) ∧ (((hI h l0 11) ≤ l6 → K37_94 l5 h) ∧ (¬ (hI h l0 11) ≤ l6 → (kd (hR h l0 2).1 = (5, 8)) ∧ (vp_in l6 (hS h (hR h l0 2) - 1)) ∧ (kd (hR h (hR h l0 2) l6.toNatClampNeg).1 = (1, 8)) ∧ ((¬ (hI h (hR h (hR h l0 2) l6.toNatClampNeg) 6) = 0 → ∀ v16 : Int32, v16 = l6 + (1 : Int32) → (p_T_scratch_L37 l0 l2 l3 K37_94 Q f) l5 v16 h) ∧ ((hI h (hR h (hR h l0 2) l6.toNatClampNeg) 6) = 0 → (vp_in l6 (hS h (hR h l0 2) - 1)) ∧ p_Ti_isFor (hR h (hR h l0 2) l6.toNatClampNeg) l3 l2 h (fun (v20 : Int32) (h19 : xH) => ((v20 = 0 → ∀ v22 : Int32, v22 = l6 + (1 : Int32) → (p_T_scratch_L37 l0 l2 l3 K37_94 Q f) l5 v22 h19) ∧ (¬ v20 = 0 → (kd (hR h19 l0 2).1 = (5, 8)) ∧ (vp_in l6 (hS h19 (hR h19 l0 2) - 1)) ∧ (kd (hR h19 (hR h19 l0 2) l6.toNatClampNeg).1 = (1, 8)) ∧ p_Ti_loseRunner (hR h19 (hR h19 l0 2) l6.toNatClampNeg) l3 h19 (fun h27 : xH => ∀ v28 : Int32, v28 = l5 + (1 : Int32) → ∀ v30 : Int32, v30 = l6 + (1 : Int32) → (p_T_scratch_L37 l0 l2 l3 K37_94 Q f) v28 v30 h27))))))))
set_option maxRecDepth 100000 in
set_option maxHeartbeats 4000000 in
theorem t_T_scratch_L37 (l0 : xN) (l2 : Int32) (l3 : xN) (K37_94 : Int32 → xH → Prop) (Q : Int32 → xH → Prop) (hK37_94 : ∀ (x5 : Int32) (h : xH), K37_94 x5 h → WP M_T_scratch 94 [(5, xi x5)] [] h 0 (qi Q)) : ∀ (f : Nat) (l5 : Int32) (l6 : Int32) (h : xH), p_T_scratch_L37 l0 l2 l3 K37_94 Q f l5 l6 h → WP M_T_scratch 37 [(0, xr l0), (2, xi l2), (3, xr l3), (5, xi l5), (6, xi l6)] [] h 0 (qi Q) := by
  intro f
  induction f with
  | zero => exact fun _ _ _ H => H.elim
  | succ f hB37 =>
    intro l5 l6 h H
    unfold p_T_scratch_L37 at H
    refine wp_iload rfl dX10_scratch_37 ?_
    refine wp_aload_n 0 rfl rfl dX10_scratch_39 ?_
    obtain ⟨q10, H⟩ := H
    refine wp_geti coX10 11 (Nat.le_of_ble_eq_true rfl) fl_X10_104 rfl q10 dX10_scratch_40 ?_
    refine WP.at 43 rfl ?_
    refine wp_icmp_ge 94 (by decide) dX10_scratch_43 (fun c11 => ?_) (fun c11 => ?_)
    · replace H := H.1 c11
      exact WP.pick [3] rfl (hK37_94 l5 _ H)
    · replace H := H.2 c11
      refine wp_aload_n 0 rfl rfl dX10_scratch_46 ?_
      refine wp_getr coX10 2 (Nat.le_of_ble_eq_true rfl) fl_X10_23 rfl q10 dX10_scratch_47 ?_
      refine wp_iload rfl dX10_scratch_50 ?_
      obtain ⟨q12, H⟩ := H
      obtain ⟨q13, H⟩ := H
      refine wp_aaload q12 q13 dX10_scratch_52 ?_
      obtain ⟨q14, H⟩ := H
      refine wp_geti coX9 6 (Nat.le_of_ble_eq_true rfl) fl_X10_107 rfl q14 dX10_scratch_53 ?_
      refine WP.at 56 rfl ?_
      refine wp_if_ne 88 (by decide) dX10_scratch_56 (fun c15 => ?_) (fun c15 => ?_)
      · replace H := H.1 c15
        refine wp_iincN (1 : Int32) (by decide) rfl (Nat.le_of_ble_eq_true rfl) dX10_scratch_88 (ls' := fun v16 => [(6, xi v16), (0, xr l0), (2, xi l2), (3, xr l3), (5, xi l5)]) (fun _ => rfl) (fun v16 e17 => ?_)
        replace H := H v16 e17
        refine WP.at 91 rfl ?_
        refine wp_goto 37 (by decide) dX10_scratch_91 ?_
        exact WP.pick [1, 2, 3, 4, 0] rfl (hB37 l5 v16 _ H)
      · replace H := H.2 c15
        refine wp_aload_n 0 rfl rfl dX10_scratch_59 ?_
        refine wp_getr coX10 2 (Nat.le_of_ble_eq_true rfl) fl_X10_23 rfl q10 dX10_scratch_60 ?_
        refine wp_iload rfl dX10_scratch_63 ?_
        obtain ⟨q18, H⟩ := H
        refine wp_aaload q12 q18 dX10_scratch_65 ?_
        refine wp_aload_n 3 rfl rfl dX10_scratch_66 ?_
        refine wp_iload_n 2 rfl rfl dX10_scratch_67 ?_
        refine WP.at 68 rfl ?_
        refine wp_cVi (M2 := M_Ti_isFor) coX9 (hR h (hR h l0 2) l6.toNatClampNeg) q14 [xr l3, xi l2] rfl lv_X10_108 mo_Ti_isFor (Nat.le_of_ble_eq_true rfl) ⟨(Nat.le_of_ble_eq_true rfl), (Nat.le_of_ble_eq_true rfl)⟩ (Nat.le_of_ble_eq_true rfl) (Nat.le_of_ble_eq_true rfl) dX10_scratch_68 (t_Ti_isFor (hR h (hR h l0 2) l6.toNatClampNeg) l3 l2 _ _ H) (fun v20 h19 H => ?_)
        refine WP.at 71 rfl ?_
        refine WP.at 71 rfl ?_
        refine wp_if_eq 88 (by decide) dX10_scratch_71 (fun c21 => ?_) (fun c21 => ?_)
        · replace H := H.1 c21
          refine wp_iincN (1 : Int32) (by decide) rfl (Nat.le_of_ble_eq_true rfl) dX10_scratch_88 (ls' := fun v22 => [(6, xi v22), (0, xr l0), (2, xi l2), (3, xr l3), (5, xi l5)]) (fun _ => rfl) (fun v22 e23 => ?_)
          replace H := H v22 e23
          refine WP.at 91 rfl ?_
          refine wp_goto 37 (by decide) dX10_scratch_91 ?_
          exact WP.pick [1, 2, 3, 4, 0] rfl (hB37 l5 v22 _ H)
        · replace H := H.2 c21
          refine wp_aload_n 0 rfl rfl dX10_scratch_74 ?_
          refine wp_getr coX10 2 (Nat.le_of_ble_eq_true rfl) fl_X10_23 rfl q10 dX10_scratch_75 ?_
          refine wp_iload rfl dX10_scratch_78 ?_
          obtain ⟨q24, H⟩ := H
          obtain ⟨q25, H⟩ := H
          refine wp_aaload q24 q25 dX10_scratch_80 ?_
          refine wp_aload_n 3 rfl rfl dX10_scratch_81 ?_
          refine WP.at 82 rfl ?_
          obtain ⟨q26, H⟩ := H
          refine wp_cVv (M2 := M_Ti_loseRunner) coX9 (hR h19 (hR h19 l0 2) l6.toNatClampNeg) q26 [xr l3] rfl lv_X10_112 mo_Ti_loseRunner (Nat.le_of_ble_eq_true rfl) ⟨(Nat.le_of_ble_eq_true rfl), (Nat.le_of_ble_eq_true rfl)⟩ (Nat.le_of_ble_eq_true rfl) (Nat.le_of_ble_eq_true rfl) dX10_scratch_82 (t_Ti_loseRunner (hR h19 (hR h19 l0 2) l6.toNatClampNeg) l3 _ _ H) (fun h27 H => ?_)
          refine wp_iincN (1 : Int32) (by decide) rfl (Nat.le_of_ble_eq_true rfl) dX10_scratch_85 (ls' := fun v28 => [(5, xi v28), (0, xr l0), (2, xi l2), (3, xr l3), (6, xi l6)]) (fun _ => rfl) (fun v28 e29 => ?_)
          replace H := H v28 e29
          refine WP.at 88 rfl ?_
          refine wp_iincN (1 : Int32) (by decide) rfl (Nat.le_of_ble_eq_true rfl) dX10_scratch_88 (ls' := fun v30 => [(6, xi v30), (5, xi v28), (0, xr l0), (2, xi l2), (3, xr l3)]) (fun _ => rfl) (fun v30 e31 => ?_)
          replace H := H v30 e31
          refine WP.at 91 rfl ?_
          refine wp_goto 37 (by decide) dX10_scratch_91 ?_
          exact WP.pick [2, 3, 4, 1, 0] rfl (hB37 v28 v30 _ H)
def p_T_scratch (l0 : xN) (l1 : Int32) (l2 : Int32) (h : xH) (Q : Int32 → xH → Prop) : Prop := (kd l0.1 = (1, 9)) ∧ p_T_findRace l0 l1 h (fun (v3 : xN) (h2 : xH) => p_T_refuseRunner v3 l2 (0 : Int32) h2 (fun (v5 : Int32) (h4 : xH) => ((v3.1 = 0 → Q v5 h4) ∧ (¬ v3.1 = 0 → ((v5 = 0 → (kd v3.1 = (1, 4)) ∧ p_R_takeOut v3 l2 h4 (fun h9 : xH => (∃ f34, p_T_scratch_L37 l0 l2 v3 (fun (x32 : Int32) (h33 : xH) => Q x32 h33) Q f34 (0 : Int32) (0 : Int32) h9))) ∧ (¬ v5 = 0 → Q v5 h4))))))
set_option maxRecDepth 100000 in
set_option maxHeartbeats 4000000 in
theorem t_T_scratch (l0 : xN) (l1 : Int32) (l2 : Int32) (h : xH) (Q : Int32 → xH → Prop) (H : p_T_scratch l0 l1 l2 h Q) : WP M_T_scratch 0 [(0, xr l0), (1, xi l1), (2, xi l2)] [] h 0 (qi Q) := by
  unfold p_T_scratch at H
  refine wp_aload_n 0 rfl rfl dX10_scratch_0 ?_
  refine wp_iload_n 1 rfl rfl dX10_scratch_1 ?_
  refine WP.at 2 rfl ?_
  obtain ⟨q1, H⟩ := H
  refine wp_cVr (M2 := M_T_findRace) coX10 l0 q1 [xi l1] rfl lv_X10_76 mo_T_findRace (Nat.le_of_ble_eq_true rfl) ⟨(Nat.le_of_ble_eq_true rfl), (Nat.le_of_ble_eq_true rfl)⟩ (Nat.le_of_ble_eq_true rfl) (Nat.le_of_ble_eq_true rfl) dX10_scratch_2 (t_T_findRace l0 l1 _ _ H) (fun v3 h2 H => ?_)
  refine wp_astore_n 3 rfl (Nat.le_of_ble_eq_true rfl) dX10_scratch_5 (ls' := [(3, xr v3), (0, xr l0), (1, xi l1), (2, xi l2)]) rfl ?_
  refine wp_aload_n 3 rfl rfl dX10_scratch_6 ?_
  refine wp_iload_n 2 rfl rfl dX10_scratch_7 ?_
  refine wp_iconst (0 : Int32) (by decide) dX10_scratch_8 ?_
  refine WP.at 9 rfl ?_
  refine WP.at 9 rfl ?_
  refine wp_cSi (M2 := M_T_refuseRunner) [xr v3, xi l2, xi (0 : Int32)] rfl ls_X10_94 mo_T_refuseRunner (Nat.le_of_ble_eq_true rfl) ⟨(Nat.le_of_ble_eq_true rfl), (Nat.le_of_ble_eq_true rfl)⟩ (Nat.le_of_ble_eq_true rfl) (Nat.le_of_ble_eq_true rfl) dX10_scratch_9 (t_T_refuseRunner v3 l2 (0 : Int32) _ _ H) (fun v5 h4 H => ?_)
  refine wp_istore (Nat.le_of_ble_eq_true rfl) dX10_scratch_12 (ls' := [(4, xi v5), (3, xr v3), (0, xr l0), (1, xi l1), (2, xi l2)]) rfl ?_
  refine wp_aload_n 3 rfl rfl dX10_scratch_14 ?_
  refine WP.at 15 rfl ?_
  refine wp_ifnull 23 (by decide) dX10_scratch_15 (fun c6 => ?_) (fun c6 => ?_)
  · replace H := H.1 c6
    refine wp_iload rfl dX10_scratch_23 ?_
    exact wp_iret trivial dX10_scratch_25 H
  · replace H := H.2 c6
    refine wp_iload rfl dX10_scratch_18 ?_
    refine WP.at 20 rfl ?_
    refine wp_if_eq 26 (by decide) dX10_scratch_20 (fun c7 => ?_) (fun c7 => ?_)
    · replace H := H.1 c7
      refine wp_aload_n 3 rfl rfl dX10_scratch_26 ?_
      refine wp_iload_n 2 rfl rfl dX10_scratch_27 ?_
      refine WP.at 28 rfl ?_
      obtain ⟨q8, H⟩ := H
      refine wp_cVv (M2 := M_R_takeOut) coX5 v3 q8 [xi l2] rfl lv_X10_101 mo_R_takeOut (Nat.le_of_ble_eq_true rfl) ⟨(Nat.le_of_ble_eq_true rfl), (Nat.le_of_ble_eq_true rfl)⟩ (Nat.le_of_ble_eq_true rfl) (Nat.le_of_ble_eq_true rfl) dX10_scratch_28 (t_R_takeOut v3 l2 _ _ H) (fun h9 H => ?_)
      refine wp_iconst (0 : Int32) (by decide) dX10_scratch_31 ?_
      refine wp_istore (Nat.le_of_ble_eq_true rfl) dX10_scratch_32 (ls' := [(5, xi (0 : Int32)), (4, xi v5), (3, xr v3), (0, xr l0), (1, xi l1), (2, xi l2)]) rfl ?_
      refine wp_iconst (0 : Int32) (by decide) dX10_scratch_34 ?_
      refine wp_istore (Nat.le_of_ble_eq_true rfl) dX10_scratch_35 (ls' := [(6, xi (0 : Int32)), (5, xi (0 : Int32)), (4, xi v5), (3, xr v3), (0, xr l0), (1, xi l1), (2, xi l2)]) rfl ?_
      refine WP.at 37 rfl ?_
      obtain ⟨f34, H⟩ := H
      refine WP.pick [4, 6, 3, 1, 0] rfl (t_T_scratch_L37 l0 l2 v3 _ Q ?_ f34 (0 : Int32) (0 : Int32) _ H)
      · intro x32 h33 H
        refine wp_iload rfl dX10_scratch_94 ?_
        exact wp_iret trivial dX10_scratch_96 H
    · replace H := H.2 c7
      refine wp_iload rfl dX10_scratch_23 ?_
      exact wp_iret trivial dX10_scratch_25 H
def p_M_stake (l0 : xN) (l1 : Int32) (h : xH) (Q : Int32 → xH → Prop) : Prop := (kd l0.1 = (1, 10)) ∧ (kd (hR h l0 28).1 = (2, 0)) ∧ (vp_in l1 (hS h (hR h l0 28) - 1)) ∧ (kd (hR h l0 24).1 = (2, 0)) ∧ (vp_in l1 (hS h (hR h l0 24) - 1)) ∧ (kd (hR h l0 8).1 = (2, 0)) ∧ (vp_in (hI h (hR h l0 24) l1.toNatClampNeg) (hS h (hR h l0 8) - 1)) ∧ Q ((hI h (hR h l0 28) l1.toNatClampNeg) * (hI h (hR h l0 8) (hI h (hR h l0 24) l1.toNatClampNeg).toNatClampNeg)) h
set_option maxRecDepth 100000 in
set_option maxHeartbeats 4000000 in
theorem t_M_stake (l0 : xN) (l1 : Int32) (h : xH) (Q : Int32 → xH → Prop) (H : p_M_stake l0 l1 h Q) : WP M_M_stake 0 [(0, xr l0), (1, xi l1)] [] h 0 (qi Q) := by
  unfold p_M_stake at H
  refine wp_aload_n 0 rfl rfl dX11_stake_0 ?_
  obtain ⟨q1, H⟩ := H
  refine wp_getr coX11 28 (Nat.le_of_ble_eq_true rfl) fl_X11_80 rfl q1 dX11_stake_1 ?_
  refine wp_iload_n 1 rfl rfl dX11_stake_4 ?_
  obtain ⟨q2, H⟩ := H
  obtain ⟨q3, H⟩ := H
  refine wp_iaload q2 q3 dX11_stake_5 ?_
  refine wp_aload_n 0 rfl rfl dX11_stake_6 ?_
  refine wp_getr coX11 8 (Nat.le_of_ble_eq_true rfl) fl_X11_32 rfl q1 dX11_stake_7 ?_
  refine wp_aload_n 0 rfl rfl dX11_stake_10 ?_
  refine WP.at 11 rfl ?_
  refine wp_getr coX11 24 (Nat.le_of_ble_eq_true rfl) fl_X11_68 rfl q1 dX11_stake_11 ?_
  refine wp_iload_n 1 rfl rfl dX11_stake_14 ?_
  obtain ⟨q4, H⟩ := H
  obtain ⟨q5, H⟩ := H
  refine wp_iaload q4 q5 dX11_stake_15 ?_
  obtain ⟨q6, H⟩ := H
  obtain ⟨q7, H⟩ := H
  refine wp_iaload q6 q7 dX11_stake_16 ?_
  refine wp_imul dX11_stake_17 ?_
  exact wp_iret trivial dX11_stake_18 H
def p_M_refund (l0 : xN) (l1 : Int32) (h : xH) (Q : xH → Prop) : Prop := (kd l0.1 = (1, 10)) ∧ (kd (hR h l0 29).1 = (2, 0)) ∧ (vp_in l1 (hS h (hR h l0 29) - 1)) ∧ ∀ h4 : xH, h4 = sI h (hR h l0 29) l1.toNatClampNeg (2 : Int32) → (kd (hR h4 l0 24).1 = (2, 0)) ∧ (vp_in l1 (hS h4 (hR h4 l0 24) - 1)) ∧ (kd (hR h4 l0 14).1 = (2, 0)) ∧ (vp_in (hI h4 (hR h4 l0 24) l1.toNatClampNeg) (hS h4 (hR h4 l0 14) - 1)) ∧ p_M_stake l0 l1 h4 (fun (v11 : Int32) (h10 : xH) => (vp_in (hI h4 (hR h4 l0 24) l1.toNatClampNeg) (hS h10 (hR h4 l0 14) - 1)) ∧ ∀ h13 : xH, h13 = sI h10 (hR h4 l0 14) (hI h4 (hR h4 l0 24) l1.toNatClampNeg).toNatClampNeg ((hI h4 (hR h4 l0 14) (hI h4 (hR h4 l0 24) l1.toNatClampNeg).toNatClampNeg) + v11) → Q h13)
set_option maxRecDepth 100000 in
set_option maxHeartbeats 4000000 in
theorem t_M_refund (l0 : xN) (l1 : Int32) (h : xH) (Q : xH → Prop) (H : p_M_refund l0 l1 h Q) : WP M_M_refund 0 [(0, xr l0), (1, xi l1)] [] h 0 (qv Q) := by
  unfold p_M_refund at H
  refine wp_aload_n 0 rfl rfl dX11_refund_0 ?_
  obtain ⟨q1, H⟩ := H
  refine wp_getr coX11 29 (Nat.le_of_ble_eq_true rfl) fl_X11_83 rfl q1 dX11_refund_1 ?_
  refine wp_iload_n 1 rfl rfl dX11_refund_4 ?_
  refine wp_iconst (2 : Int32) (by decide) dX11_refund_5 ?_
  obtain ⟨q2, H⟩ := H
  obtain ⟨q3, H⟩ := H
  refine wp_iastore q2 q3 dX11_refund_6 ?_
  refine wp_nh (fun h4 e5 => ?_)
  replace H := H h4 e5
  refine wp_aload_n 0 rfl rfl dX11_refund_7 ?_
  refine wp_getr coX11 14 (Nat.le_of_ble_eq_true rfl) fl_X11_44 rfl q1 dX11_refund_8 ?_
  refine WP.at 11 rfl ?_
  refine wp_aload_n 0 rfl rfl dX11_refund_11 ?_
  refine wp_getr coX11 24 (Nat.le_of_ble_eq_true rfl) fl_X11_68 rfl q1 dX11_refund_12 ?_
  refine wp_iload_n 1 rfl rfl dX11_refund_15 ?_
  obtain ⟨q6, H⟩ := H
  obtain ⟨q7, H⟩ := H
  refine wp_iaload q6 q7 dX11_refund_16 ?_
  refine wp_dup2 rfl rfl dX11_refund_17 ?_
  obtain ⟨q8, H⟩ := H
  obtain ⟨q9, H⟩ := H
  refine wp_iaload q8 q9 dX11_refund_18 ?_
  refine wp_aload_n 0 rfl rfl dX11_refund_19 ?_
  refine wp_iload_n 1 rfl rfl dX11_refund_20 ?_
  refine WP.at 21 rfl ?_
  refine WP.at 21 rfl ?_
  refine wp_cVi (M2 := M_M_stake) coX11 l0 q1 [xi l1] rfl lv_X11_201 mo_M_stake (Nat.le_of_ble_eq_true rfl) ⟨(Nat.le_of_ble_eq_true rfl), (Nat.le_of_ble_eq_true rfl)⟩ (Nat.le_of_ble_eq_true rfl) (Nat.le_of_ble_eq_true rfl) dX11_refund_21 (t_M_stake l0 l1 _ _ H) (fun v11 h10 H => ?_)
  refine wp_iadd dX11_refund_24 ?_
  obtain ⟨q12, H⟩ := H
  refine wp_iastore q8 q12 dX11_refund_25 ?_
  refine wp_nh (fun h13 e14 => ?_)
  replace H := H h13 e14
  exact wp_vret trivial dX11_refund_26 H
def p_M_scratch_j265 (l0 : xN) (l1 : Int32) (l2 : Int32) (l4 : Int32) (l5 : Int32) (l6 : Int32) (l7 : Int32) (B78 : Int32 → Int32 → xH → Prop) (h : xH) (Q : Int32 → xH → Prop) : Prop := ∀ v33 : Int32, v33 = l6 + (1 : Int32) → (kd l0.1 = (1, 10)) ∧ p_M_refund l0 l7 h (fun h36 : xH => ∀ v37 : Int32, v37 = l7 + (1 : Int32) → B78 v33 v37 h36)
set_option maxRecDepth 100000 in
set_option maxHeartbeats 4000000 in
theorem t_M_scratch_j265 (l0 : xN) (l1 : Int32) (l2 : Int32) (l4 : Int32) (l5 : Int32) (l6 : Int32) (l7 : Int32) (B78 : Int32 → Int32 → xH → Prop) (h : xH) (Q : Int32 → xH → Prop) (hB78 : ∀ (x6 : Int32) (x7 : Int32) (h : xH), B78 x6 x7 h → WP M_M_scratch 78 [(0, xr l0), (1, xi l1), (2, xi l2), (4, xi l4), (5, xi l5), (6, xi x6), (7, xi x7)] [] h 0 (qi Q)) (H : p_M_scratch_j265 l0 l1 l2 l4 l5 l6 l7 B78 h Q) : WP M_M_scratch 265 [(0, xr l0), (1, xi l1), (2, xi l2), (4, xi l4), (5, xi l5), (6, xi l6), (7, xi l7)] [] h 0 (qi Q) := by
  unfold p_M_scratch_j265 at H
  refine wp_iincN (1 : Int32) (by decide) rfl (Nat.le_of_ble_eq_true rfl) dX11_scratch_265 (ls' := fun v33 => [(6, xi v33), (0, xr l0), (1, xi l1), (2, xi l2), (4, xi l4), (5, xi l5), (7, xi l7)]) (fun _ => rfl) (fun v33 e34 => ?_)
  replace H := H v33 e34
  refine wp_aload_n 0 rfl rfl dX11_scratch_268 ?_
  refine wp_iload rfl dX11_scratch_269 ?_
  refine WP.at 271 rfl ?_
  obtain ⟨q35, H⟩ := H
  refine wp_cVv (M2 := M_M_refund) coX11 l0 q35 [xi l7] rfl lv_X11_208 mo_M_refund (Nat.le_of_ble_eq_true rfl) ⟨(Nat.le_of_ble_eq_true rfl), (Nat.le_of_ble_eq_true rfl)⟩ (Nat.le_of_ble_eq_true rfl) (Nat.le_of_ble_eq_true rfl) dX11_scratch_271 (t_M_refund l0 l7 _ _ H) (fun h36 H => ?_)
  refine wp_iincN (1 : Int32) (by decide) rfl (Nat.le_of_ble_eq_true rfl) dX11_scratch_274 (ls' := fun v37 => [(7, xi v37), (6, xi v33), (0, xr l0), (1, xi l1), (2, xi l2), (4, xi l4), (5, xi l5)]) (fun _ => rfl) (fun v37 e38 => ?_)
  replace H := H v37 e38
  refine WP.at 277 rfl ?_
  refine wp_goto 78 (by decide) dX11_scratch_277 ?_
  exact WP.pick [2, 3, 4, 5, 6, 1, 0] rfl (hB78 v33 v37 _ H)
def p_M_scratch_j178 (l0 : xN) (l1 : Int32) (l2 : Int32) (l4 : Int32) (l5 : Int32) (l6 : Int32) (l7 : Int32) (l9 : Int32) (B78 : Int32 → Int32 → xH → Prop) (h : xH) (Q : Int32 → xH → Prop) : Prop := ∀ v51 : Int32, v51 = l6 + (1 : Int32) → ((¬ l5 = 0 → ((l9 = 0 → (kd l0.1 = (1, 10)) ∧ (kd (hR h l0 26).1 = (2, 0)) ∧ (vp_in l7 (hS h (hR h l0 26) - 1)) ∧ ∀ h58 : xH, h58 = sI h (hR h l0 26) l7.toNatClampNeg l4 → ∀ v60 : Int32, v60 = l7 + (1 : Int32) → B78 v51 v60 h58) ∧ (¬ l9 = 0 → (kd l0.1 = (1, 10)) ∧ (kd (hR h l0 25).1 = (2, 0)) ∧ (vp_in l7 (hS h (hR h l0 25) - 1)) ∧ ∀ h65 : xH, h65 = sI h (hR h l0 25) l7.toNatClampNeg l4 → ∀ v67 : Int32, v67 = l7 + (1 : Int32) → B78 v51 v67 h65))) ∧ (l5 = 0 → (kd l0.1 = (1, 10)) ∧ p_M_refund l0 l7 h (fun h70 : xH => ∀ v71 : Int32, v71 = l7 + (1 : Int32) → B78 v51 v71 h70)))
set_option maxRecDepth 100000 in
set_option maxHeartbeats 4000000 in
theorem t_M_scratch_j178 (l0 : xN) (l1 : Int32) (l2 : Int32) (l4 : Int32) (l5 : Int32) (l6 : Int32) (l7 : Int32) (l9 : Int32) (B78 : Int32 → Int32 → xH → Prop) (h : xH) (Q : Int32 → xH → Prop) (hB78 : ∀ (x6 : Int32) (x7 : Int32) (h : xH), B78 x6 x7 h → WP M_M_scratch 78 [(0, xr l0), (1, xi l1), (2, xi l2), (4, xi l4), (5, xi l5), (6, xi x6), (7, xi x7)] [] h 0 (qi Q)) (H : p_M_scratch_j178 l0 l1 l2 l4 l5 l6 l7 l9 B78 h Q) : WP M_M_scratch 178 [(0, xr l0), (1, xi l1), (2, xi l2), (4, xi l4), (5, xi l5), (6, xi l6), (7, xi l7), (9, xi l9)] [] h 0 (qi Q) := by
  unfold p_M_scratch_j178 at H
  refine wp_iincN (1 : Int32) (by decide) rfl (Nat.le_of_ble_eq_true rfl) dX11_scratch_178 (ls' := fun v51 => [(6, xi v51), (0, xr l0), (1, xi l1), (2, xi l2), (4, xi l4), (5, xi l5), (7, xi l7), (9, xi l9)]) (fun _ => rfl) (fun v51 e52 => ?_)
  replace H := H v51 e52
  refine wp_iload rfl dX11_scratch_181 ?_
  refine WP.at 183 rfl ?_
  refine wp_if_ne 195 (by decide) dX11_scratch_183 (fun c53 => ?_) (fun c53 => ?_)
  · replace H := H.1 c53
    refine wp_iload rfl dX11_scratch_195 ?_
    refine WP.at 197 rfl ?_
    refine wp_if_eq 212 (by decide) dX11_scratch_197 (fun c54 => ?_) (fun c54 => ?_)
    · replace H := H.1 c54
      refine wp_aload_n 0 rfl rfl dX11_scratch_212 ?_
      obtain ⟨q55, H⟩ := H
      refine wp_getr coX11 26 (Nat.le_of_ble_eq_true rfl) fl_X11_74 rfl q55 dX11_scratch_213 ?_
      refine wp_iload rfl dX11_scratch_216 ?_
      refine wp_iload rfl dX11_scratch_218 ?_
      obtain ⟨q56, H⟩ := H
      obtain ⟨q57, H⟩ := H
      refine wp_iastore q56 q57 dX11_scratch_220 ?_
      refine wp_nh (fun h58 e59 => ?_)
      replace H := H h58 e59
      refine WP.at 221 rfl ?_
      refine wp_goto 274 (by decide) dX11_scratch_221 ?_
      refine wp_iincN (1 : Int32) (by decide) rfl (Nat.le_of_ble_eq_true rfl) dX11_scratch_274 (ls' := fun v60 => [(7, xi v60), (6, xi v51), (0, xr l0), (1, xi l1), (2, xi l2), (4, xi l4), (5, xi l5), (9, xi l9)]) (fun _ => rfl) (fun v60 e61 => ?_)
      replace H := H v60 e61
      refine WP.at 277 rfl ?_
      refine wp_goto 78 (by decide) dX11_scratch_277 ?_
      exact WP.pick [2, 3, 4, 5, 6, 1, 0] rfl (hB78 v51 v60 _ H)
    · replace H := H.2 c54
      refine wp_aload_n 0 rfl rfl dX11_scratch_200 ?_
      obtain ⟨q62, H⟩ := H
      refine wp_getr coX11 25 (Nat.le_of_ble_eq_true rfl) fl_X11_71 rfl q62 dX11_scratch_201 ?_
      refine wp_iload rfl dX11_scratch_204 ?_
      refine wp_iload rfl dX11_scratch_206 ?_
      obtain ⟨q63, H⟩ := H
      obtain ⟨q64, H⟩ := H
      refine wp_iastore q63 q64 dX11_scratch_208 ?_
      refine wp_nh (fun h65 e66 => ?_)
      replace H := H h65 e66
      refine WP.at 209 rfl ?_
      refine wp_goto 221 (by decide) dX11_scratch_209 ?_
      refine WP.at 221 rfl ?_
      refine wp_goto 274 (by decide) dX11_scratch_221 ?_
      refine wp_iincN (1 : Int32) (by decide) rfl (Nat.le_of_ble_eq_true rfl) dX11_scratch_274 (ls' := fun v67 => [(7, xi v67), (6, xi v51), (0, xr l0), (1, xi l1), (2, xi l2), (4, xi l4), (5, xi l5), (9, xi l9)]) (fun _ => rfl) (fun v67 e68 => ?_)
      replace H := H v67 e68
      refine WP.at 277 rfl ?_
      refine wp_goto 78 (by decide) dX11_scratch_277 ?_
      exact WP.pick [2, 3, 4, 5, 6, 1, 0] rfl (hB78 v51 v67 _ H)
  · replace H := H.2 c53
    refine wp_aload_n 0 rfl rfl dX11_scratch_186 ?_
    refine wp_iload rfl dX11_scratch_187 ?_
    refine WP.at 189 rfl ?_
    obtain ⟨q69, H⟩ := H
    refine wp_cVv (M2 := M_M_refund) coX11 l0 q69 [xi l7] rfl lv_X11_208 mo_M_refund (Nat.le_of_ble_eq_true rfl) ⟨(Nat.le_of_ble_eq_true rfl), (Nat.le_of_ble_eq_true rfl)⟩ (Nat.le_of_ble_eq_true rfl) (Nat.le_of_ble_eq_true rfl) dX11_scratch_189 (t_M_refund l0 l7 _ _ H) (fun h70 H => ?_)
    refine WP.at 192 rfl ?_
    refine wp_goto 221 (by decide) dX11_scratch_192 ?_
    refine WP.at 221 rfl ?_
    refine wp_goto 274 (by decide) dX11_scratch_221 ?_
    refine wp_iincN (1 : Int32) (by decide) rfl (Nat.le_of_ble_eq_true rfl) dX11_scratch_274 (ls' := fun v71 => [(7, xi v71), (6, xi v51), (0, xr l0), (1, xi l1), (2, xi l2), (4, xi l4), (5, xi l5), (9, xi l9)]) (fun _ => rfl) (fun v71 e72 => ?_)
    replace H := H v71 e72
    refine WP.at 277 rfl ?_
    refine wp_goto 78 (by decide) dX11_scratch_277 ?_
    exact WP.pick [2, 3, 4, 5, 6, 1, 0] rfl (hB78 v51 v71 _ H)
def p_M_scratch_j166 (s0 : Int32) (l0 : xN) (l1 : Int32) (l2 : Int32) (l4 : Int32) (l5 : Int32) (l6 : Int32) (l7 : Int32) (l9 : Int32) (B78 : Int32 → Int32 → xH → Prop) (h : xH) (Q : Int32 → xH → Prop) : Prop := ((¬ l9 = 0 → p_M_scratch_j178 l0 l1 l2 l4 l5 l6 l7 l9 B78 h Q) ∧ (l9 = 0 → ((s0 = 0 → ∀ v74 : Int32, v74 = l7 + (1 : Int32) → B78 l6 v74 h) ∧ (¬ s0 = 0 → p_M_scratch_j178 l0 l1 l2 l4 l5 l6 l7 l9 B78 h Q))))
set_option maxRecDepth 100000 in
set_option maxHeartbeats 4000000 in
theorem t_M_scratch_j166 (s0 : Int32) (l0 : xN) (l1 : Int32) (l2 : Int32) (l4 : Int32) (l5 : Int32) (l6 : Int32) (l7 : Int32) (l9 : Int32) (B78 : Int32 → Int32 → xH → Prop) (h : xH) (Q : Int32 → xH → Prop) (hB78 : ∀ (x6 : Int32) (x7 : Int32) (h : xH), B78 x6 x7 h → WP M_M_scratch 78 [(0, xr l0), (1, xi l1), (2, xi l2), (4, xi l4), (5, xi l5), (6, xi x6), (7, xi x7)] [] h 0 (qi Q)) (H : p_M_scratch_j166 s0 l0 l1 l2 l4 l5 l6 l7 l9 B78 h Q) : WP M_M_scratch 166 [(0, xr l0), (1, xi l1), (2, xi l2), (4, xi l4), (5, xi l5), (6, xi l6), (7, xi l7), (9, xi l9)] [xi s0] h 0 (qi Q) := by
  unfold p_M_scratch_j166 at H
  refine wp_istore (Nat.le_of_ble_eq_true rfl) dX11_scratch_166 (ls' := [(10, xi s0), (0, xr l0), (1, xi l1), (2, xi l2), (4, xi l4), (5, xi l5), (6, xi l6), (7, xi l7), (9, xi l9)]) rfl ?_
  refine wp_iload rfl dX11_scratch_168 ?_
  refine WP.at 170 rfl ?_
  refine wp_if_ne 178 (by decide) dX11_scratch_170 (fun c50 => ?_) (fun c50 => ?_)
  · replace H := H.1 c50
    exact WP.pick [1, 2, 3, 4, 5, 6, 7, 8] rfl (t_M_scratch_j178 l0 l1 l2 l4 l5 l6 l7 l9 _ _ _ hB78 H)
  · replace H := H.2 c50
    refine wp_iload rfl dX11_scratch_173 ?_
    refine WP.at 175 rfl ?_
    refine wp_if_eq 221 (by decide) dX11_scratch_175 (fun c73 => ?_) (fun c73 => ?_)
    · replace H := H.1 c73
      refine WP.at 221 rfl ?_
      refine wp_goto 274 (by decide) dX11_scratch_221 ?_
      refine wp_iincN (1 : Int32) (by decide) rfl (Nat.le_of_ble_eq_true rfl) dX11_scratch_274 (ls' := fun v74 => [(7, xi v74), (10, xi s0), (0, xr l0), (1, xi l1), (2, xi l2), (4, xi l4), (5, xi l5), (6, xi l6), (9, xi l9)]) (fun _ => rfl) (fun v74 e75 => ?_)
      replace H := H v74 e75
      refine WP.at 277 rfl ?_
      refine wp_goto 78 (by decide) dX11_scratch_277 ?_
      exact WP.pick [2, 3, 4, 5, 6, 7, 0] rfl (hB78 l6 v74 _ H)
    · replace H := H.2 c73
      exact WP.pick [1, 2, 3, 4, 5, 6, 7, 8] rfl (t_M_scratch_j178 l0 l1 l2 l4 l5 l6 l7 l9 _ _ _ hB78 H)
def p_M_scratch_j140 (s0 : Int32) (l0 : xN) (l1 : Int32) (l2 : Int32) (l4 : Int32) (l5 : Int32) (l6 : Int32) (l7 : Int32) (B78 : Int32 → Int32 → xH → Prop) (h : xH) (Q : Int32 → xH → Prop) : Prop := (kd l0.1 = (1, 10)) ∧ ((¬ (hI h l0 11) = l1 → p_M_scratch_j166 (0 : Int32) l0 l1 l2 l4 l5 l6 l7 s0 B78 h Q) ∧ ((hI h l0 11) = l1 → (kd (hR h l0 26).1 = (2, 0)) ∧ (vp_in l7 (hS h (hR h l0 26) - 1)) ∧ ((¬ (hI h (hR h l0 26) l7.toNatClampNeg) = l2 → p_M_scratch_j166 (0 : Int32) l0 l1 l2 l4 l5 l6 l7 s0 B78 h Q) ∧ ((hI h (hR h l0 26) l7.toNatClampNeg) = l2 → p_M_scratch_j166 (1 : Int32) l0 l1 l2 l4 l5 l6 l7 s0 B78 h Q))))
set_option maxRecDepth 100000 in
set_option maxHeartbeats 4000000 in
theorem t_M_scratch_j140 (s0 : Int32) (l0 : xN) (l1 : Int32) (l2 : Int32) (l4 : Int32) (l5 : Int32) (l6 : Int32) (l7 : Int32) (B78 : Int32 → Int32 → xH → Prop) (h : xH) (Q : Int32 → xH → Prop) (hB78 : ∀ (x6 : Int32) (x7 : Int32) (h : xH), B78 x6 x7 h → WP M_M_scratch 78 [(0, xr l0), (1, xi l1), (2, xi l2), (4, xi l4), (5, xi l5), (6, xi x6), (7, xi x7)] [] h 0 (qi Q)) (H : p_M_scratch_j140 s0 l0 l1 l2 l4 l5 l6 l7 B78 h Q) : WP M_M_scratch 140 [(0, xr l0), (1, xi l1), (2, xi l2), (4, xi l4), (5, xi l5), (6, xi l6), (7, xi l7)] [xi s0] h 0 (qi Q) := by
  unfold p_M_scratch_j140 at H
  refine wp_istore (Nat.le_of_ble_eq_true rfl) dX11_scratch_140 (ls' := [(9, xi s0), (0, xr l0), (1, xi l1), (2, xi l2), (4, xi l4), (5, xi l5), (6, xi l6), (7, xi l7)]) rfl ?_
  refine wp_aload_n 0 rfl rfl dX11_scratch_142 ?_
  obtain ⟨q48, H⟩ := H
  refine wp_geti coX11 11 (Nat.le_of_ble_eq_true rfl) fl_X11_191 rfl q48 dX11_scratch_143 ?_
  refine wp_iload_n 1 rfl rfl dX11_scratch_146 ?_
  refine WP.at 147 rfl ?_
  refine wp_icmp_ne 165 (by decide) dX11_scratch_147 (fun c49 => ?_) (fun c49 => ?_)
  · replace H := H.1 c49
    refine wp_iconst (0 : Int32) (by decide) dX11_scratch_165 ?_
    refine WP.at 166 rfl ?_
    exact WP.pick [1, 2, 3, 4, 5, 6, 7, 0] rfl (t_M_scratch_j166 (0 : Int32) l0 l1 l2 l4 l5 l6 l7 s0 _ _ _ hB78 H)
  · replace H := H.2 c49
    refine wp_aload_n 0 rfl rfl dX11_scratch_150 ?_
    refine wp_getr coX11 26 (Nat.le_of_ble_eq_true rfl) fl_X11_74 rfl q48 dX11_scratch_151 ?_
    refine wp_iload rfl dX11_scratch_154 ?_
    obtain ⟨q76, H⟩ := H
    obtain ⟨q77, H⟩ := H
    refine wp_iaload q76 q77 dX11_scratch_156 ?_
    refine wp_iload_n 2 rfl rfl dX11_scratch_157 ?_
    refine WP.at 158 rfl ?_
    refine wp_icmp_ne 165 (by decide) dX11_scratch_158 (fun c78 => ?_) (fun c78 => ?_)
    · replace H := H.1 c78
      refine wp_iconst (0 : Int32) (by decide) dX11_scratch_165 ?_
      refine WP.at 166 rfl ?_
      exact WP.pick [1, 2, 3, 4, 5, 6, 7, 0] rfl (t_M_scratch_j166 (0 : Int32) l0 l1 l2 l4 l5 l6 l7 s0 _ _ _ hB78 H)
    · replace H := H.2 c78
      refine wp_iconst (1 : Int32) (by decide) dX11_scratch_161 ?_
      refine WP.at 162 rfl ?_
      refine wp_goto 166 (by decide) dX11_scratch_162 ?_
      exact WP.pick [1, 2, 3, 4, 5, 6, 7, 0] rfl (t_M_scratch_j166 (1 : Int32) l0 l1 l2 l4 l5 l6 l7 s0 _ _ _ hB78 H)
def p_M_scratch_L78 (l0 : xN) (l1 : Int32) (l2 : Int32) (l4 : Int32) (l5 : Int32) (K78_280 : Int32 → xH → Prop) (Q : Int32 → xH → Prop) : Nat → Int32 → Int32 → xH → Prop
  | 0, _, _, _ => False
  | f + 1, l6, l7, h => (kd l0.1 = (1, 10)) ∧ (((hI h l0 23) ≤ l7 → K78_280 l6 h) ∧ (¬ (hI h l0 23) ≤ l7 → (kd (hR h l0 29).1 = (2, 0)) ∧ (vp_in l7 (hS h (hR h l0 29) - 1)) ∧ (((hI h (hR h l0 29) l7.toNatClampNeg) = 0 → (kd (hR h l0 24).1 = (2, 0)) ∧ (vp_in l7 (hS h (hR h l0 24) - 1)) ∧ ∀ v24 : Int32, v24 = hI h (hR h l0 24) l7.toNatClampNeg → ((¬ v24 = (48 : Int32) → ((¬ (v24 / (4 : Int32)) = l1 → ∀ v28 : Int32, v28 = l7 + (1 : Int32) → (p_M_scratch_L78 l0 l1 l2 l4 l5 K78_280 Q f) l6 v28 h) ∧ ((v24 / (4 : Int32)) = l1 → (kd (hR h l0 25).1 = (2, 0)) ∧ (vp_in l7 (hS h (hR h l0 25) - 1)) ∧ (((hI h (hR h l0 25) l7.toNatClampNeg) = l2 → p_M_scratch_j265 l0 l1 l2 l4 l5 l6 l7 (p_M_scratch_L78 l0 l1 l2 l4 l5 K78_280 Q f) h Q) ∧ (¬ (hI h (hR h l0 25) l7.toNatClampNeg) = l2 → (kd (hR h l0 26).1 = (2, 0)) ∧ (vp_in l7 (hS h (hR h l0 26) - 1)) ∧ (((hI h (hR h l0 26) l7.toNatClampNeg) = l2 → p_M_scratch_j265 l0 l1 l2 l4 l5 l6 l7 (p_M_scratch_L78 l0 l1 l2 l4 l5 K78_280 Q f) h Q) ∧ (¬ (hI h (hR h l0 26) l7.toNatClampNeg) = l2 → (kd (hR h l0 27).1 = (2, 0)) ∧ (vp_in l7 (hS h (hR h l0 27) - 1)) ∧ ((¬ (hI h (hR h l0 27) l7.toNatClampNeg) = l2 → ∀ v45 : Int32, v45 = l7 + (1 : Int32) → (p_M_scratch_L78 l0 l1 l2 l4 l5 K78_280 Q f) l6 v45 h) ∧ ((hI h (hR h l0 27) l7.toNatClampNeg) = l2 → p_M_scratch_j265 l0 l1 l2 l4 l5 l6 l7 (p_M_scratch_L78 l0 l1 l2 l4 l5 K78_280 Q f) h Q))))))))) ∧ (v24 = (48 : Int32) → ((¬ (hI h l0 10) = l1 → p_M_scratch_j140 (0 : Int32) l0 l1 l2 l4 l5 l6 l7 (p_M_scratch_L78 l0 l1 l2 l4 l5 K78_280 Q f) h Q) ∧ ((hI h l0 10) = l1 → (kd (hR h l0 25).1 = (2, 0)) ∧ (vp_in l7 (hS h (hR h l0 25) - 1)) ∧ ((¬ (hI h (hR h l0 25) l7.toNatClampNeg) = l2 → p_M_scratch_j140 (0 : Int32) l0 l1 l2 l4 l5 l6 l7 (p_M_scratch_L78 l0 l1 l2 l4 l5 K78_280 Q f) h Q) ∧ ((hI h (hR h l0 25) l7.toNatClampNeg) = l2 → p_M_scratch_j140 (1 : Int32) l0 l1 l2 l4 l5 l6 l7 (p_M_scratch_L78 l0 l1 l2 l4 l5 K78_280 Q f) h Q))))))) ∧ (¬ (hI h (hR h l0 29) l7.toNatClampNeg) = 0 → ∀ v82 : Int32, v82 = l7 + (1 : Int32) → (p_M_scratch_L78 l0 l1 l2 l4 l5 K78_280 Q f) l6 v82 h))))
set_option maxRecDepth 100000 in
set_option maxHeartbeats 4000000 in
theorem t_M_scratch_L78 (l0 : xN) (l1 : Int32) (l2 : Int32) (l4 : Int32) (l5 : Int32) (K78_280 : Int32 → xH → Prop) (Q : Int32 → xH → Prop) (hK78_280 : ∀ (x6 : Int32) (h : xH), K78_280 x6 h → WP M_M_scratch 280 [(6, xi x6)] [] h 0 (qi Q)) : ∀ (f : Nat) (l6 : Int32) (l7 : Int32) (h : xH), p_M_scratch_L78 l0 l1 l2 l4 l5 K78_280 Q f l6 l7 h → WP M_M_scratch 78 [(0, xr l0), (1, xi l1), (2, xi l2), (4, xi l4), (5, xi l5), (6, xi l6), (7, xi l7)] [] h 0 (qi Q) := by
  intro f
  induction f with
  | zero => exact fun _ _ _ H => H.elim
  | succ f hB78 =>
    intro l6 l7 h H
    unfold p_M_scratch_L78 at H
    refine wp_iload rfl dX11_scratch_78 ?_
    refine wp_aload_n 0 rfl rfl dX11_scratch_80 ?_
    obtain ⟨q17, H⟩ := H
    refine wp_geti coX11 23 (Nat.le_of_ble_eq_true rfl) fl_X11_205 rfl q17 dX11_scratch_81 ?_
    refine WP.at 84 rfl ?_
    refine wp_icmp_ge 280 (by decide) dX11_scratch_84 (fun c18 => ?_) (fun c18 => ?_)
    · replace H := H.1 c18
      exact WP.pick [5] rfl (hK78_280 l6 _ H)
    · replace H := H.2 c18
      refine wp_aload_n 0 rfl rfl dX11_scratch_87 ?_
      refine wp_getr coX11 29 (Nat.le_of_ble_eq_true rfl) fl_X11_83 rfl q17 dX11_scratch_88 ?_
      refine wp_iload rfl dX11_scratch_91 ?_
      obtain ⟨q19, H⟩ := H
      obtain ⟨q20, H⟩ := H
      refine wp_iaload q19 q20 dX11_scratch_93 ?_
      refine WP.at 94 rfl ?_
      refine wp_if_eq 100 (by decide) dX11_scratch_94 (fun c21 => ?_) (fun c21 => ?_)
      · replace H := H.1 c21
        refine wp_aload_n 0 rfl rfl dX11_scratch_100 ?_
        refine wp_getr coX11 24 (Nat.le_of_ble_eq_true rfl) fl_X11_68 rfl q17 dX11_scratch_101 ?_
        refine wp_iload rfl dX11_scratch_104 ?_
        obtain ⟨q22, H⟩ := H
        obtain ⟨q23, H⟩ := H
        refine wp_iaload q22 q23 dX11_scratch_106 ?_
        refine wp_nm (fun v24 e25 => ?_)
        replace H := H v24 e25
        refine wp_istore (Nat.le_of_ble_eq_true rfl) dX11_scratch_107 (ls' := [(8, xi v24), (0, xr l0), (1, xi l1), (2, xi l2), (4, xi l4), (5, xi l5), (6, xi l6), (7, xi l7)]) rfl ?_
        refine wp_iload rfl dX11_scratch_109 ?_
        refine wp_bipush (48 : Int32) (by decide) dX11_scratch_111 ?_
        refine WP.at 113 rfl ?_
        refine WP.at 113 rfl ?_
        refine wp_icmp_ne 224 (by decide) dX11_scratch_113 (fun c26 => ?_) (fun c26 => ?_)
        · replace H := H.1 c26
          refine wp_iload rfl dX11_scratch_224 ?_
          refine wp_iconst (4 : Int32) (by decide) dX11_scratch_226 ?_
          refine wp_idiv (by decide) dX11_scratch_227 ?_
          refine wp_iload_n 1 rfl rfl dX11_scratch_228 ?_
          refine WP.at 229 rfl ?_
          refine wp_icmp_ne 274 (by decide) dX11_scratch_229 (fun c27 => ?_) (fun c27 => ?_)
          · replace H := H.1 c27
            refine wp_iincN (1 : Int32) (by decide) rfl (Nat.le_of_ble_eq_true rfl) dX11_scratch_274 (ls' := fun v28 => [(7, xi v28), (8, xi v24), (0, xr l0), (1, xi l1), (2, xi l2), (4, xi l4), (5, xi l5), (6, xi l6)]) (fun _ => rfl) (fun v28 e29 => ?_)
            replace H := H v28 e29
            refine WP.at 277 rfl ?_
            refine wp_goto 78 (by decide) dX11_scratch_277 ?_
            exact WP.pick [2, 3, 4, 5, 6, 7, 0] rfl (hB78 l6 v28 _ H)
          · replace H := H.2 c27
            refine wp_aload_n 0 rfl rfl dX11_scratch_232 ?_
            refine wp_getr coX11 25 (Nat.le_of_ble_eq_true rfl) fl_X11_71 rfl q17 dX11_scratch_233 ?_
            refine wp_iload rfl dX11_scratch_236 ?_
            obtain ⟨q30, H⟩ := H
            obtain ⟨q31, H⟩ := H
            refine wp_iaload q30 q31 dX11_scratch_238 ?_
            refine wp_iload_n 2 rfl rfl dX11_scratch_239 ?_
            refine WP.at 240 rfl ?_
            refine wp_icmp_eq 265 (by decide) dX11_scratch_240 (fun c32 => ?_) (fun c32 => ?_)
            · replace H := H.1 c32
              exact WP.pick [1, 2, 3, 4, 5, 6, 7] rfl (t_M_scratch_j265 l0 l1 l2 l4 l5 l6 l7 _ _ _ hB78 H)
            · replace H := H.2 c32
              refine wp_aload_n 0 rfl rfl dX11_scratch_243 ?_
              refine wp_getr coX11 26 (Nat.le_of_ble_eq_true rfl) fl_X11_74 rfl q17 dX11_scratch_244 ?_
              refine wp_iload rfl dX11_scratch_247 ?_
              obtain ⟨q39, H⟩ := H
              obtain ⟨q40, H⟩ := H
              refine wp_iaload q39 q40 dX11_scratch_249 ?_
              refine wp_iload_n 2 rfl rfl dX11_scratch_250 ?_
              refine WP.at 251 rfl ?_
              refine wp_icmp_eq 265 (by decide) dX11_scratch_251 (fun c41 => ?_) (fun c41 => ?_)
              · replace H := H.1 c41
                exact WP.pick [1, 2, 3, 4, 5, 6, 7] rfl (t_M_scratch_j265 l0 l1 l2 l4 l5 l6 l7 _ _ _ hB78 H)
              · replace H := H.2 c41
                refine wp_aload_n 0 rfl rfl dX11_scratch_254 ?_
                refine wp_getr coX11 27 (Nat.le_of_ble_eq_true rfl) fl_X11_77 rfl q17 dX11_scratch_255 ?_
                refine wp_iload rfl dX11_scratch_258 ?_
                obtain ⟨q42, H⟩ := H
                obtain ⟨q43, H⟩ := H
                refine wp_iaload q42 q43 dX11_scratch_260 ?_
                refine wp_iload_n 2 rfl rfl dX11_scratch_261 ?_
                refine WP.at 262 rfl ?_
                refine wp_icmp_ne 274 (by decide) dX11_scratch_262 (fun c44 => ?_) (fun c44 => ?_)
                · replace H := H.1 c44
                  refine wp_iincN (1 : Int32) (by decide) rfl (Nat.le_of_ble_eq_true rfl) dX11_scratch_274 (ls' := fun v45 => [(7, xi v45), (8, xi v24), (0, xr l0), (1, xi l1), (2, xi l2), (4, xi l4), (5, xi l5), (6, xi l6)]) (fun _ => rfl) (fun v45 e46 => ?_)
                  replace H := H v45 e46
                  refine WP.at 277 rfl ?_
                  refine wp_goto 78 (by decide) dX11_scratch_277 ?_
                  exact WP.pick [2, 3, 4, 5, 6, 7, 0] rfl (hB78 l6 v45 _ H)
                · replace H := H.2 c44
                  exact WP.pick [1, 2, 3, 4, 5, 6, 7] rfl (t_M_scratch_j265 l0 l1 l2 l4 l5 l6 l7 _ _ _ hB78 H)
        · replace H := H.2 c26
          refine wp_aload_n 0 rfl rfl dX11_scratch_116 ?_
          refine wp_geti coX11 10 (Nat.le_of_ble_eq_true rfl) fl_X11_176 rfl q17 dX11_scratch_117 ?_
          refine wp_iload_n 1 rfl rfl dX11_scratch_120 ?_
          refine WP.at 121 rfl ?_
          refine wp_icmp_ne 139 (by decide) dX11_scratch_121 (fun c47 => ?_) (fun c47 => ?_)
          · replace H := H.1 c47
            refine wp_iconst (0 : Int32) (by decide) dX11_scratch_139 ?_
            refine WP.at 140 rfl ?_
            exact WP.pick [1, 2, 3, 4, 5, 6, 7] rfl (t_M_scratch_j140 (0 : Int32) l0 l1 l2 l4 l5 l6 l7 _ _ _ hB78 H)
          · replace H := H.2 c47
            refine wp_aload_n 0 rfl rfl dX11_scratch_124 ?_
            refine wp_getr coX11 25 (Nat.le_of_ble_eq_true rfl) fl_X11_71 rfl q17 dX11_scratch_125 ?_
            refine wp_iload rfl dX11_scratch_128 ?_
            obtain ⟨q79, H⟩ := H
            obtain ⟨q80, H⟩ := H
            refine wp_iaload q79 q80 dX11_scratch_130 ?_
            refine wp_iload_n 2 rfl rfl dX11_scratch_131 ?_
            refine WP.at 132 rfl ?_
            refine wp_icmp_ne 139 (by decide) dX11_scratch_132 (fun c81 => ?_) (fun c81 => ?_)
            · replace H := H.1 c81
              refine wp_iconst (0 : Int32) (by decide) dX11_scratch_139 ?_
              refine WP.at 140 rfl ?_
              exact WP.pick [1, 2, 3, 4, 5, 6, 7] rfl (t_M_scratch_j140 (0 : Int32) l0 l1 l2 l4 l5 l6 l7 _ _ _ hB78 H)
            · replace H := H.2 c81
              refine wp_iconst (1 : Int32) (by decide) dX11_scratch_135 ?_
              refine WP.at 136 rfl ?_
              refine wp_goto 140 (by decide) dX11_scratch_136 ?_
              exact WP.pick [1, 2, 3, 4, 5, 6, 7] rfl (t_M_scratch_j140 (1 : Int32) l0 l1 l2 l4 l5 l6 l7 _ _ _ hB78 H)
      · replace H := H.2 c21
        refine WP.at 97 rfl ?_
        refine wp_goto 274 (by decide) dX11_scratch_97 ?_
        refine wp_iincN (1 : Int32) (by decide) rfl (Nat.le_of_ble_eq_true rfl) dX11_scratch_274 (ls' := fun v82 => [(7, xi v82), (0, xr l0), (1, xi l1), (2, xi l2), (4, xi l4), (5, xi l5), (6, xi l6)]) (fun _ => rfl) (fun v82 e83 => ?_)
        replace H := H v82 e83
        refine WP.at 277 rfl ?_
        refine wp_goto 78 (by decide) dX11_scratch_277 ?_
        exact WP.pick [1, 2, 3, 4, 5, 6, 0] rfl (hB78 l6 v82 _ H)
def p_M_scratch (l0 : xN) (l1 : Int32) (l2 : Int32) (h : xH) (Q : Int32 → xH → Prop) : Prop := (kd l0.1 = (1, 10)) ∧ p_M_bars l0 l1 l2 h (fun (v3 : Int32) (h2 : xH) => ((0 ≤ v3 → (kd (hR h2 l0 1).1 = (2, 0)) ∧ (vp_in l1 (hS h2 (hR h2 l0 1) - 1)) ∧ (((hI h2 (hR h2 l0 1) l1.toNatClampNeg) = 0 → (kd (hR h2 l0 4).1 = (3, 0)) ∧ (vp_in (((13 : Int32) * l1) + l2) (hS h2 (hR h2 l0 4) - 1)) ∧ ∀ h10 : xH, h10 = sI h2 (hR h2 l0 4) (((13 : Int32) * l1) + l2).toNatClampNeg (1 : Int32) → (kd (hR h10 l0 3).1 = (2, 0)) ∧ (vp_in l1 (hS h10 (hR h10 l0 3) - 1)) ∧ ∀ v14 : Int32, v14 = hI h10 (hR h10 l0 3) l1.toNatClampNeg → ((v14 = 0 → (∃ f86, p_M_scratch_L78 l0 l1 l2 v14 (0 : Int32) (fun (x84 : Int32) (h85 : xH) => Q x84 h85) Q f86 (0 : Int32) (0 : Int32) h10)) ∧ (¬ v14 = 0 → (kd (hR h10 l0 4).1 = (3, 0)) ∧ (vp_in (((13 : Int32) * l1) + v14) (hS h10 (hR h10 l0 4) - 1)) ∧ ((¬ (hI h10 (hR h10 l0 4) (((13 : Int32) * l1) + v14).toNatClampNeg) = 0 → (∃ f92, p_M_scratch_L78 l0 l1 l2 v14 (0 : Int32) (fun (x90 : Int32) (h91 : xH) => Q x90 h91) Q f92 (0 : Int32) (0 : Int32) h10)) ∧ ((hI h10 (hR h10 l0 4) (((13 : Int32) * l1) + v14).toNatClampNeg) = 0 → (∃ f95, p_M_scratch_L78 l0 l1 l2 v14 (1 : Int32) (fun (x93 : Int32) (h94 : xH) => Q x93 h94) Q f95 (0 : Int32) (0 : Int32) h10)))))) ∧ (¬ (hI h2 (hR h2 l0 1) l1.toNatClampNeg) = 0 → Q (-6 : Int32) h2))) ∧ (¬ 0 ≤ v3 → Q v3 h2)))
set_option maxRecDepth 100000 in
set_option maxHeartbeats 4000000 in
theorem t_M_scratch (l0 : xN) (l1 : Int32) (l2 : Int32) (h : xH) (Q : Int32 → xH → Prop) (H : p_M_scratch l0 l1 l2 h Q) : WP M_M_scratch 0 [(0, xr l0), (1, xi l1), (2, xi l2)] [] h 0 (qi Q) := by
  unfold p_M_scratch at H
  refine wp_aload_n 0 rfl rfl dX11_scratch_0 ?_
  refine wp_iload_n 1 rfl rfl dX11_scratch_1 ?_
  refine wp_iload_n 2 rfl rfl dX11_scratch_2 ?_
  refine WP.at 3 rfl ?_
  obtain ⟨q1, H⟩ := H
  refine wp_cVi (M2 := M_M_bars) coX11 l0 q1 [xi l1, xi l2] rfl lv_X11_197 mo_M_bars (Nat.le_of_ble_eq_true rfl) ⟨(Nat.le_of_ble_eq_true rfl), (Nat.le_of_ble_eq_true rfl)⟩ (Nat.le_of_ble_eq_true rfl) (Nat.le_of_ble_eq_true rfl) dX11_scratch_3 (t_M_bars l0 l1 l2 _ _ H) (fun v3 h2 H => ?_)
  refine wp_istore_n 3 rfl (Nat.le_of_ble_eq_true rfl) dX11_scratch_6 (ls' := [(3, xi v3), (0, xr l0), (1, xi l1), (2, xi l2)]) rfl ?_
  refine wp_iload_n 3 rfl rfl dX11_scratch_7 ?_
  refine WP.at 8 rfl ?_
  refine wp_if_ge 13 (by decide) dX11_scratch_8 (fun c4 => ?_) (fun c4 => ?_)
  · replace H := H.1 c4
    refine wp_aload_n 0 rfl rfl dX11_scratch_13 ?_
    refine wp_getr coX11 1 (Nat.le_of_ble_eq_true rfl) fl_X11_7 rfl q1 dX11_scratch_14 ?_
    refine wp_iload_n 1 rfl rfl dX11_scratch_17 ?_
    obtain ⟨q5, H⟩ := H
    obtain ⟨q6, H⟩ := H
    refine wp_iaload q5 q6 dX11_scratch_18 ?_
    refine WP.at 19 rfl ?_
    refine wp_if_eq 25 (by decide) dX11_scratch_19 (fun c7 => ?_) (fun c7 => ?_)
    · replace H := H.1 c7
      refine wp_aload_n 0 rfl rfl dX11_scratch_25 ?_
      refine wp_getr coX11 4 (Nat.le_of_ble_eq_true rfl) fl_X11_19 rfl q1 dX11_scratch_26 ?_
      refine wp_bipush (13 : Int32) (by decide) dX11_scratch_29 ?_
      refine wp_iload_n 1 rfl rfl dX11_scratch_31 ?_
      refine wp_imul dX11_scratch_32 ?_
      refine wp_iload_n 2 rfl rfl dX11_scratch_33 ?_
      refine wp_iadd dX11_scratch_34 ?_
      refine WP.at 35 rfl ?_
      refine wp_iconst (1 : Int32) (by decide) dX11_scratch_35 ?_
      obtain ⟨q8, H⟩ := H
      obtain ⟨q9, H⟩ := H
      refine wp_bastore (Or.inr rfl) q8 q9 dX11_scratch_36 ?_
      refine wp_nh (fun h10 e11 => ?_)
      replace H := H h10 e11
      refine wp_aload_n 0 rfl rfl dX11_scratch_37 ?_
      refine wp_getr coX11 3 (Nat.le_of_ble_eq_true rfl) fl_X11_16 rfl q1 dX11_scratch_38 ?_
      refine wp_iload_n 1 rfl rfl dX11_scratch_41 ?_
      obtain ⟨q12, H⟩ := H
      obtain ⟨q13, H⟩ := H
      refine wp_iaload q12 q13 dX11_scratch_42 ?_
      refine wp_nm (fun v14 e15 => ?_)
      replace H := H v14 e15
      refine wp_istore (Nat.le_of_ble_eq_true rfl) dX11_scratch_43 (ls' := [(4, xi v14), (3, xi v3), (0, xr l0), (1, xi l1), (2, xi l2)]) rfl ?_
      refine wp_iload rfl dX11_scratch_45 ?_
      refine WP.at 47 rfl ?_
      refine WP.at 47 rfl ?_
      refine wp_if_eq 69 (by decide) dX11_scratch_47 (fun c16 => ?_) (fun c16 => ?_)
      · replace H := H.1 c16
        refine wp_iconst (0 : Int32) (by decide) dX11_scratch_69 ?_
        refine wp_istore (Nat.le_of_ble_eq_true rfl) dX11_scratch_70 (ls' := [(5, xi (0 : Int32)), (4, xi v14), (3, xi v3), (0, xr l0), (1, xi l1), (2, xi l2)]) rfl ?_
        refine wp_iconst (0 : Int32) (by decide) dX11_scratch_72 ?_
        refine wp_istore (Nat.le_of_ble_eq_true rfl) dX11_scratch_73 (ls' := [(6, xi (0 : Int32)), (5, xi (0 : Int32)), (4, xi v14), (3, xi v3), (0, xr l0), (1, xi l1), (2, xi l2)]) rfl ?_
        refine wp_iconst (0 : Int32) (by decide) dX11_scratch_75 ?_
        refine wp_istore (Nat.le_of_ble_eq_true rfl) dX11_scratch_76 (ls' := [(7, xi (0 : Int32)), (6, xi (0 : Int32)), (5, xi (0 : Int32)), (4, xi v14), (3, xi v3), (0, xr l0), (1, xi l1), (2, xi l2)]) rfl ?_
        refine WP.at 78 rfl ?_
        obtain ⟨f86, H⟩ := H
        refine WP.pick [5, 6, 7, 3, 2, 1, 0] rfl (t_M_scratch_L78 l0 l1 l2 v14 (0 : Int32) _ Q ?_ f86 (0 : Int32) (0 : Int32) _ H)
        · intro x84 h85 H
          refine wp_iload rfl dX11_scratch_280 ?_
          exact wp_iret trivial dX11_scratch_282 H
      · replace H := H.2 c16
        refine wp_aload_n 0 rfl rfl dX11_scratch_50 ?_
        refine wp_getr coX11 4 (Nat.le_of_ble_eq_true rfl) fl_X11_19 rfl q1 dX11_scratch_51 ?_
        refine wp_bipush (13 : Int32) (by decide) dX11_scratch_54 ?_
        refine wp_iload_n 1 rfl rfl dX11_scratch_56 ?_
        refine wp_imul dX11_scratch_57 ?_
        refine wp_iload rfl dX11_scratch_58 ?_
        refine wp_iadd dX11_scratch_60 ?_
        refine WP.at 61 rfl ?_
        obtain ⟨q87, H⟩ := H
        obtain ⟨q88, H⟩ := H
        refine wp_baload q87 q88 dX11_scratch_61 ?_
        refine WP.at 62 rfl ?_
        refine wp_if_ne 69 (by decide) dX11_scratch_62 (fun c89 => ?_) (fun c89 => ?_)
        · replace H := H.1 c89
          refine wp_iconst (0 : Int32) (by decide) dX11_scratch_69 ?_
          refine wp_istore (Nat.le_of_ble_eq_true rfl) dX11_scratch_70 (ls' := [(5, xi (0 : Int32)), (4, xi v14), (3, xi v3), (0, xr l0), (1, xi l1), (2, xi l2)]) rfl ?_
          refine wp_iconst (0 : Int32) (by decide) dX11_scratch_72 ?_
          refine wp_istore (Nat.le_of_ble_eq_true rfl) dX11_scratch_73 (ls' := [(6, xi (0 : Int32)), (5, xi (0 : Int32)), (4, xi v14), (3, xi v3), (0, xr l0), (1, xi l1), (2, xi l2)]) rfl ?_
          refine wp_iconst (0 : Int32) (by decide) dX11_scratch_75 ?_
          refine wp_istore (Nat.le_of_ble_eq_true rfl) dX11_scratch_76 (ls' := [(7, xi (0 : Int32)), (6, xi (0 : Int32)), (5, xi (0 : Int32)), (4, xi v14), (3, xi v3), (0, xr l0), (1, xi l1), (2, xi l2)]) rfl ?_
          refine WP.at 78 rfl ?_
          obtain ⟨f92, H⟩ := H
          refine WP.pick [5, 6, 7, 3, 2, 1, 0] rfl (t_M_scratch_L78 l0 l1 l2 v14 (0 : Int32) _ Q ?_ f92 (0 : Int32) (0 : Int32) _ H)
          · intro x90 h91 H
            refine wp_iload rfl dX11_scratch_280 ?_
            exact wp_iret trivial dX11_scratch_282 H
        · replace H := H.2 c89
          refine wp_iconst (1 : Int32) (by decide) dX11_scratch_65 ?_
          refine WP.at 66 rfl ?_
          refine wp_goto 70 (by decide) dX11_scratch_66 ?_
          refine wp_istore (Nat.le_of_ble_eq_true rfl) dX11_scratch_70 (ls' := [(5, xi (1 : Int32)), (4, xi v14), (3, xi v3), (0, xr l0), (1, xi l1), (2, xi l2)]) rfl ?_
          refine wp_iconst (0 : Int32) (by decide) dX11_scratch_72 ?_
          refine wp_istore (Nat.le_of_ble_eq_true rfl) dX11_scratch_73 (ls' := [(6, xi (0 : Int32)), (5, xi (1 : Int32)), (4, xi v14), (3, xi v3), (0, xr l0), (1, xi l1), (2, xi l2)]) rfl ?_
          refine wp_iconst (0 : Int32) (by decide) dX11_scratch_75 ?_
          refine wp_istore (Nat.le_of_ble_eq_true rfl) dX11_scratch_76 (ls' := [(7, xi (0 : Int32)), (6, xi (0 : Int32)), (5, xi (1 : Int32)), (4, xi v14), (3, xi v3), (0, xr l0), (1, xi l1), (2, xi l2)]) rfl ?_
          refine WP.at 78 rfl ?_
          obtain ⟨f95, H⟩ := H
          refine WP.pick [5, 6, 7, 3, 2, 1, 0] rfl (t_M_scratch_L78 l0 l1 l2 v14 (1 : Int32) _ Q ?_ f95 (0 : Int32) (0 : Int32) _ H)
          · intro x93 h94 H
            refine wp_iload rfl dX11_scratch_280 ?_
            exact wp_iret trivial dX11_scratch_282 H
    · replace H := H.2 c7
      refine wp_bipush (-6 : Int32) (by decide) dX11_scratch_22 ?_
      exact wp_iret trivial dX11_scratch_24 H
  · replace H := H.2 c4
    refine wp_iload_n 3 rfl rfl dX11_scratch_11 ?_
    exact wp_iret trivial dX11_scratch_12 H
def p_T_off (l0 : xN) (l1 : Int32) (h : xH) (Q : Int32 → xH → Prop) : Prop := (kd l0.1 = (1, 9)) ∧ p_T_findRace l0 l1 h (fun (v3 : xN) (h2 : xH) => ((¬ v3.1 = 0 → (kd v3.1 = (1, 4)) ∧ (((hI h2 v3 7) = 0 → ∀ h7 : xH, h7 = sI h2 v3 7 (1 : Int32) → Q (hI h7 v3 6) h7) ∧ (¬ (hI h2 v3 7) = 0 → Q (-6 : Int32) h2))) ∧ (v3.1 = 0 → Q (-2 : Int32) h2)))
set_option maxRecDepth 100000 in
set_option maxHeartbeats 4000000 in
theorem t_T_off (l0 : xN) (l1 : Int32) (h : xH) (Q : Int32 → xH → Prop) (H : p_T_off l0 l1 h Q) : WP M_T_off 0 [(0, xr l0), (1, xi l1)] [] h 0 (qi Q) := by
  unfold p_T_off at H
  refine wp_aload_n 0 rfl rfl dX10_off_0 ?_
  refine wp_iload_n 1 rfl rfl dX10_off_1 ?_
  refine WP.at 2 rfl ?_
  obtain ⟨q1, H⟩ := H
  refine wp_cVr (M2 := M_T_findRace) coX10 l0 q1 [xi l1] rfl lv_X10_76 mo_T_findRace (Nat.le_of_ble_eq_true rfl) ⟨(Nat.le_of_ble_eq_true rfl), (Nat.le_of_ble_eq_true rfl)⟩ (Nat.le_of_ble_eq_true rfl) (Nat.le_of_ble_eq_true rfl) dX10_off_2 (t_T_findRace l0 l1 _ _ H) (fun v3 h2 H => ?_)
  refine wp_astore_n 2 rfl (Nat.le_of_ble_eq_true rfl) dX10_off_5 (ls' := [(2, xr v3), (0, xr l0), (1, xi l1)]) rfl ?_
  refine wp_aload_n 2 rfl rfl dX10_off_6 ?_
  refine WP.at 7 rfl ?_
  refine wp_ifnonnull 13 (by decide) dX10_off_7 (fun c4 => ?_) (fun c4 => ?_)
  · replace H := H.1 c4
    refine wp_aload_n 2 rfl rfl dX10_off_13 ?_
    obtain ⟨q5, H⟩ := H
    refine wp_geti coX5 7 (Nat.le_of_ble_eq_true rfl) fl_X10_88 rfl q5 dX10_off_14 ?_
    refine WP.at 17 rfl ?_
    refine wp_if_eq 23 (by decide) dX10_off_17 (fun c6 => ?_) (fun c6 => ?_)
    · replace H := H.1 c6
      refine wp_aload_n 2 rfl rfl dX10_off_23 ?_
      refine wp_iconst (1 : Int32) (by decide) dX10_off_24 ?_
      refine wp_puti coX5 7 (Nat.le_of_ble_eq_true rfl) fl_X10_88 rfl rfl ⟨rfl, rfl⟩ q5 dX10_off_25 ?_
      refine wp_nh (fun h7 e8 => ?_)
      replace H := H h7 e8
      refine wp_aload_n 2 rfl rfl dX10_off_28 ?_
      refine wp_geti coX5 6 (Nat.le_of_ble_eq_true rfl) fl_X10_116 rfl q5 dX10_off_29 ?_
      exact wp_iret trivial dX10_off_32 H
    · replace H := H.2 c6
      refine wp_bipush (-6 : Int32) (by decide) dX10_off_20 ?_
      exact wp_iret trivial dX10_off_22 H
  · replace H := H.2 c4
    refine wp_bipush (-2 : Int32) (by decide) dX10_off_10 ?_
    exact wp_iret trivial dX10_off_12 H
def p_M_running_L4 (l0 : xN) (l1 : Int32) (K4_42 : Int32 → xH → Prop) (Q : Int32 → xH → Prop) : Nat → Int32 → Int32 → xH → Prop
  | 0, _, _, _ => False
  | f + 1, l2, l3, h => (kd l0.1 = (1, 10)) ∧ (kd (hR h l0 2).1 = (2, 0)) ∧ (vp_in l1 (hS h (hR h l0 2) - 1)) ∧ (((hI h (hR h l0 2) l1.toNatClampNeg) < l3 → K4_42 l2 h) ∧ (¬ (hI h (hR h l0 2) l1.toNatClampNeg) < l3 → (kd (hR h l0 4).1 = (3, 0)) ∧ (vp_in (((13 : Int32) * l1) + l3) (hS h (hR h l0 4) - 1)) ∧ (((hI h (hR h l0 4) (((13 : Int32) * l1) + l3).toNatClampNeg) = 0 → ∀ v8 : Int32, v8 = l2 + (1 : Int32) → ∀ v10 : Int32, v10 = l3 + (1 : Int32) → (p_M_running_L4 l0 l1 K4_42 Q f) v8 v10 h) ∧ (¬ (hI h (hR h l0 4) (((13 : Int32) * l1) + l3).toNatClampNeg) = 0 → ∀ v12 : Int32, v12 = l2 + (0 : Int32) → ∀ v14 : Int32, v14 = l3 + (1 : Int32) → (p_M_running_L4 l0 l1 K4_42 Q f) v12 v14 h))))
set_option maxRecDepth 100000 in
set_option maxHeartbeats 4000000 in
theorem t_M_running_L4 (l0 : xN) (l1 : Int32) (K4_42 : Int32 → xH → Prop) (Q : Int32 → xH → Prop) (hK4_42 : ∀ (x2 : Int32) (h : xH), K4_42 x2 h → WP M_M_running 42 [(2, xi x2)] [] h 0 (qi Q)) : ∀ (f : Nat) (l2 : Int32) (l3 : Int32) (h : xH), p_M_running_L4 l0 l1 K4_42 Q f l2 l3 h → WP M_M_running 4 [(0, xr l0), (1, xi l1), (2, xi l2), (3, xi l3)] [] h 0 (qi Q) := by
  intro f
  induction f with
  | zero => exact fun _ _ _ H => H.elim
  | succ f hB4 =>
    intro l2 l3 h H
    unfold p_M_running_L4 at H
    refine wp_iload_n 3 rfl rfl dX11_running_4 ?_
    refine wp_aload_n 0 rfl rfl dX11_running_5 ?_
    obtain ⟨q1, H⟩ := H
    refine wp_getr coX11 2 (Nat.le_of_ble_eq_true rfl) fl_X11_13 rfl q1 dX11_running_6 ?_
    refine wp_iload_n 1 rfl rfl dX11_running_9 ?_
    obtain ⟨q2, H⟩ := H
    obtain ⟨q3, H⟩ := H
    refine wp_iaload q2 q3 dX11_running_10 ?_
    refine WP.at 11 rfl ?_
    refine wp_icmp_gt 42 (by decide) dX11_running_11 (fun c4 => ?_) (fun c4 => ?_)
    · replace H := H.1 c4
      exact WP.pick [2] rfl (hK4_42 l2 _ H)
    · replace H := H.2 c4
      refine wp_iload_n 2 rfl rfl dX11_running_14 ?_
      refine wp_aload_n 0 rfl rfl dX11_running_15 ?_
      refine wp_getr coX11 4 (Nat.le_of_ble_eq_true rfl) fl_X11_19 rfl q1 dX11_running_16 ?_
      refine wp_bipush (13 : Int32) (by decide) dX11_running_19 ?_
      refine wp_iload_n 1 rfl rfl dX11_running_21 ?_
      refine wp_imul dX11_running_22 ?_
      refine wp_iload_n 3 rfl rfl dX11_running_23 ?_
      refine WP.at 24 rfl ?_
      refine wp_iadd dX11_running_24 ?_
      obtain ⟨q5, H⟩ := H
      obtain ⟨q6, H⟩ := H
      refine wp_baload q5 q6 dX11_running_25 ?_
      refine WP.at 26 rfl ?_
      refine wp_if_eq 33 (by decide) dX11_running_26 (fun c7 => ?_) (fun c7 => ?_)
      · replace H := H.1 c7
        refine wp_iconst (1 : Int32) (by decide) dX11_running_33 ?_
        refine wp_iadd dX11_running_34 ?_
        refine wp_nm (fun v8 e9 => ?_)
        replace H := H v8 e9
        refine wp_istore_n 2 rfl (Nat.le_of_ble_eq_true rfl) dX11_running_35 (ls' := [(2, xi v8), (0, xr l0), (1, xi l1), (3, xi l3)]) rfl ?_
        refine wp_iincN (1 : Int32) (by decide) rfl (Nat.le_of_ble_eq_true rfl) dX11_running_36 (ls' := fun v10 => [(3, xi v10), (2, xi v8), (0, xr l0), (1, xi l1)]) (fun _ => rfl) (fun v10 e11 => ?_)
        replace H := H v10 e11
        refine WP.at 39 rfl ?_
        refine wp_goto 4 (by decide) dX11_running_39 ?_
        exact WP.pick [2, 3, 1, 0] rfl (hB4 v8 v10 _ H)
      · replace H := H.2 c7
        refine wp_iconst (0 : Int32) (by decide) dX11_running_29 ?_
        refine WP.at 30 rfl ?_
        refine wp_goto 34 (by decide) dX11_running_30 ?_
        refine wp_iadd dX11_running_34 ?_
        refine wp_nm (fun v12 e13 => ?_)
        replace H := H v12 e13
        refine wp_istore_n 2 rfl (Nat.le_of_ble_eq_true rfl) dX11_running_35 (ls' := [(2, xi v12), (0, xr l0), (1, xi l1), (3, xi l3)]) rfl ?_
        refine wp_iincN (1 : Int32) (by decide) rfl (Nat.le_of_ble_eq_true rfl) dX11_running_36 (ls' := fun v14 => [(3, xi v14), (2, xi v12), (0, xr l0), (1, xi l1)]) (fun _ => rfl) (fun v14 e15 => ?_)
        replace H := H v14 e15
        refine WP.at 39 rfl ?_
        refine wp_goto 4 (by decide) dX11_running_39 ?_
        exact WP.pick [2, 3, 1, 0] rfl (hB4 v12 v14 _ H)
def p_M_running (l0 : xN) (l1 : Int32) (h : xH) (Q : Int32 → xH → Prop) : Prop := (∃ f18, p_M_running_L4 l0 l1 (fun (x16 : Int32) (h17 : xH) => Q x16 h17) Q f18 (0 : Int32) (1 : Int32) h)
set_option maxRecDepth 100000 in
set_option maxHeartbeats 4000000 in
theorem t_M_running (l0 : xN) (l1 : Int32) (h : xH) (Q : Int32 → xH → Prop) (H : p_M_running l0 l1 h Q) : WP M_M_running 0 [(0, xr l0), (1, xi l1)] [] h 0 (qi Q) := by
  unfold p_M_running at H
  refine wp_iconst (0 : Int32) (by decide) dX11_running_0 ?_
  refine wp_istore_n 2 rfl (Nat.le_of_ble_eq_true rfl) dX11_running_1 (ls' := [(2, xi (0 : Int32)), (0, xr l0), (1, xi l1)]) rfl ?_
  refine wp_iconst (1 : Int32) (by decide) dX11_running_2 ?_
  refine wp_istore_n 3 rfl (Nat.le_of_ble_eq_true rfl) dX11_running_3 (ls' := [(3, xi (1 : Int32)), (2, xi (0 : Int32)), (0, xr l0), (1, xi l1)]) rfl ?_
  refine WP.at 4 rfl ?_
  obtain ⟨f18, H⟩ := H
  refine WP.pick [2, 3, 1, 0] rfl (t_M_running_L4 l0 l1 _ Q ?_ f18 (0 : Int32) (1 : Int32) _ H)
  · intro x16 h17 H
    refine wp_iload_n 2 rfl rfl dX11_running_42 ?_
    exact wp_iret trivial dX11_running_43 H
