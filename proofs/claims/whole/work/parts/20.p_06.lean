def p_T_dividend (l0 : xN) (l1 : Int32) (l2 : Int32) (l3 : Int32) (l4 : Int32) (h : xH) (Q : Int32 → xH → Prop) : Prop := (kd l0.1 = (1, 9)) ∧ p_T_findPool l0 l1 h (fun (v3 : xN) (h2 : xH) => ((¬ v3.1 = 0 → (kd v3.1 = (1, 3)) ∧ p_Po_refuseLine v3 l2 l3 l4 h2 (fun (v7 : Int32) (h6 : xH) => ((v7 = 0 → p_Po_isSettled v3 h6 (fun (v10 : Int32) (h9 : xH) => ((v10 = 0 → Q (-6 : Int32) h9) ∧ (¬ v10 = 0 → p_Po_lineOf v3 l2 l3 l4 h9 (fun (v13 : Int32) (h12 : xH) => (kd (hR h9 v3 7).1 = (2, 0)) ∧ (vp_in v13 (hS h12 (hR h9 v3 7) - 1)) ∧ Q (hI h12 (hR h9 v3 7) v13.toNatClampNeg) h12))))) ∧ (¬ v7 = 0 → Q v7 h6)))) ∧ (v3.1 = 0 → Q (-2 : Int32) h2)))
set_option maxRecDepth 100000 in
set_option maxHeartbeats 4000000 in
theorem t_T_dividend (l0 : xN) (l1 : Int32) (l2 : Int32) (l3 : Int32) (l4 : Int32) (h : xH) (Q : Int32 → xH → Prop) (H : p_T_dividend l0 l1 l2 l3 l4 h Q) : WP M_T_dividend 0 [(0, xr l0), (1, xi l1), (2, xi l2), (3, xi l3), (4, xi l4)] [] h 0 (qi Q) := by
  unfold p_T_dividend at H
  refine wp_aload_n 0 rfl rfl dX10_dividend_0 ?_
  refine wp_iload_n 1 rfl rfl dX10_dividend_1 ?_
  refine WP.at 2 rfl ?_
  obtain ⟨q1, H⟩ := H
  refine wp_cVr (M2 := M_T_findPool) coX10 l0 q1 [xi l1] rfl lv_X10_158 mo_T_findPool (Nat.le_of_ble_eq_true rfl) ⟨(Nat.le_of_ble_eq_true rfl), (Nat.le_of_ble_eq_true rfl)⟩ (Nat.le_of_ble_eq_true rfl) (Nat.le_of_ble_eq_true rfl) dX10_dividend_2 (t_T_findPool l0 l1 _ _ H) (fun v3 h2 H => ?_)
  refine wp_astore (Nat.le_of_ble_eq_true rfl) dX10_dividend_5 (ls' := [(5, xr v3), (0, xr l0), (1, xi l1), (2, xi l2), (3, xi l3), (4, xi l4)]) rfl ?_
  refine wp_aload rfl dX10_dividend_7 ?_
  refine WP.at 9 rfl ?_
  refine wp_ifnonnull 15 (by decide) dX10_dividend_9 (fun c4 => ?_) (fun c4 => ?_)
  · replace H := H.1 c4
    refine wp_aload rfl dX10_dividend_15 ?_
    refine wp_iload_n 2 rfl rfl dX10_dividend_17 ?_
    refine wp_iload_n 3 rfl rfl dX10_dividend_18 ?_
    refine wp_iload rfl dX10_dividend_19 ?_
    refine WP.at 21 rfl ?_
    obtain ⟨q5, H⟩ := H
    refine wp_cVi (M2 := M_Po_refuseLine) coX4 v3 q5 [xi l2, xi l3, xi l4] rfl lv_X10_165 mo_Po_refuseLine (Nat.le_of_ble_eq_true rfl) ⟨(Nat.le_of_ble_eq_true rfl), (Nat.le_of_ble_eq_true rfl)⟩ (Nat.le_of_ble_eq_true rfl) (Nat.le_of_ble_eq_true rfl) dX10_dividend_21 (t_Po_refuseLine v3 l2 l3 l4 _ _ H) (fun v7 h6 H => ?_)
    refine wp_istore (Nat.le_of_ble_eq_true rfl) dX10_dividend_24 (ls' := [(6, xi v7), (5, xr v3), (0, xr l0), (1, xi l1), (2, xi l2), (3, xi l3), (4, xi l4)]) rfl ?_
    refine wp_iload rfl dX10_dividend_26 ?_
    refine WP.at 28 rfl ?_
    refine WP.at 28 rfl ?_
    refine wp_if_eq 34 (by decide) dX10_dividend_28 (fun c8 => ?_) (fun c8 => ?_)
    · replace H := H.1 c8
      refine wp_aload rfl dX10_dividend_34 ?_
      refine WP.at 36 rfl ?_
      refine wp_cVi (M2 := M_Po_isSettled) coX4 v3 q5 [] rfl lv_X10_236 mo_Po_isSettled (Nat.le_of_ble_eq_true rfl) ⟨(Nat.le_of_ble_eq_true rfl), (Nat.le_of_ble_eq_true rfl)⟩ (Nat.le_of_ble_eq_true rfl) (Nat.le_of_ble_eq_true rfl) dX10_dividend_36 (t_Po_isSettled v3 _ _ H) (fun v10 h9 H => ?_)
      refine WP.at 39 rfl ?_
      refine wp_if_eq 60 (by decide) dX10_dividend_39 (fun c11 => ?_) (fun c11 => ?_)
      · replace H := H.1 c11
        refine wp_bipush (-6 : Int32) (by decide) dX10_dividend_60 ?_
        exact wp_iret trivial dX10_dividend_62 H
      · replace H := H.2 c11
        refine wp_aload rfl dX10_dividend_42 ?_
        refine wp_getr coX4 7 (Nat.le_of_ble_eq_true rfl) fl_X10_239 rfl q5 dX10_dividend_44 ?_
        refine wp_aload rfl dX10_dividend_47 ?_
        refine wp_iload_n 2 rfl rfl dX10_dividend_49 ?_
        refine wp_iload_n 3 rfl rfl dX10_dividend_50 ?_
        refine wp_iload rfl dX10_dividend_51 ?_
        refine WP.at 53 rfl ?_
        refine wp_cVi (M2 := M_Po_lineOf) coX4 v3 q5 [xi l2, xi l3, xi l4] rfl lv_X10_233 mo_Po_lineOf (Nat.le_of_ble_eq_true rfl) ⟨(Nat.le_of_ble_eq_true rfl), (Nat.le_of_ble_eq_true rfl)⟩ (Nat.le_of_ble_eq_true rfl) (Nat.le_of_ble_eq_true rfl) dX10_dividend_53 (t_Po_lineOf v3 l2 l3 l4 _ _ H) (fun v13 h12 H => ?_)
        refine WP.at 56 rfl ?_
        obtain ⟨q14, H⟩ := H
        obtain ⟨q15, H⟩ := H
        refine wp_iaload q14 q15 dX10_dividend_56 ?_
        refine WP.at 57 rfl ?_
        refine wp_goto 62 (by decide) dX10_dividend_57 ?_
        exact wp_iret trivial dX10_dividend_62 H
    · replace H := H.2 c8
      refine wp_iload rfl dX10_dividend_31 ?_
      exact wp_iret trivial dX10_dividend_33 H
  · replace H := H.2 c4
    refine wp_bipush (-2 : Int32) (by decide) dX10_dividend_12 ?_
    exact wp_iret trivial dX10_dividend_14 H
def p_M_dividend_L45 (l0 : xN) (l1 : Int32) (l2 : Int32) (l3 : Int32) (l4 : Int32) (K45_92 : xH → Prop) (Q : Int32 → xH → Prop) : Nat → Int32 → xH → Prop
  | 0, _, _ => False
  | f + 1, l6, h => (kd l0.1 = (1, 10)) ∧ (((hI h l0 23) ≤ l6 → K45_92 h) ∧ (¬ (hI h l0 23) ≤ l6 → (kd (hR h l0 32).1 = (3, 0)) ∧ (vp_in l6 (hS h (hR h l0 32) - 1)) ∧ (((hI h (hR h l0 32) l6.toNatClampNeg) = 0 → ∀ v16 : Int32, v16 = l6 + (1 : Int32) → (p_M_dividend_L45 l0 l1 l2 l3 l4 K45_92 Q f) v16 h) ∧ (¬ (hI h (hR h l0 32) l6.toNatClampNeg) = 0 → p_M_isFor l0 l6 l1 l2 l3 l4 h (fun (v19 : Int32) (h18 : xH) => ((v19 = 0 → ∀ v21 : Int32, v21 = l6 + (1 : Int32) → (p_M_dividend_L45 l0 l1 l2 l3 l4 K45_92 Q f) v21 h18) ∧ (¬ v19 = 0 → (kd (hR h18 l0 31).1 = (2, 0)) ∧ (vp_in l6 (hS h18 (hR h18 l0 31) - 1)) ∧ Q (hI h18 (hR h18 l0 31) l6.toNatClampNeg) h18)))))))
set_option maxRecDepth 100000 in
set_option maxHeartbeats 4000000 in
theorem t_M_dividend_L45 (l0 : xN) (l1 : Int32) (l2 : Int32) (l3 : Int32) (l4 : Int32) (K45_92 : xH → Prop) (Q : Int32 → xH → Prop) (hK45_92 : ∀ (h : xH), K45_92 h → WP M_M_dividend 92 [] [] h 0 (qi Q)) : ∀ (f : Nat) (l6 : Int32) (h : xH), p_M_dividend_L45 l0 l1 l2 l3 l4 K45_92 Q f l6 h → WP M_M_dividend 45 [(0, xr l0), (1, xi l1), (2, xi l2), (3, xi l3), (4, xi l4), (6, xi l6)] [] h 0 (qi Q) := by
  intro f
  induction f with
  | zero => exact fun _ _ H => H.elim
  | succ f hB45 =>
    intro l6 h H
    unfold p_M_dividend_L45 at H
    refine wp_iload rfl dX11_dividend_45 ?_
    refine wp_aload_n 0 rfl rfl dX11_dividend_47 ?_
    obtain ⟨q11, H⟩ := H
    refine wp_geti coX11 23 (Nat.le_of_ble_eq_true rfl) fl_X11_205 rfl q11 dX11_dividend_48 ?_
    refine WP.at 51 rfl ?_
    refine wp_icmp_ge 92 (by decide) dX11_dividend_51 (fun c12 => ?_) (fun c12 => ?_)
    · replace H := H.1 c12
      exact WP.pick [] rfl (hK45_92 _ H)
    · replace H := H.2 c12
      refine wp_aload_n 0 rfl rfl dX11_dividend_54 ?_
      refine wp_getr coX11 32 (Nat.le_of_ble_eq_true rfl) fl_X11_92 rfl q11 dX11_dividend_55 ?_
      refine wp_iload rfl dX11_dividend_58 ?_
      obtain ⟨q13, H⟩ := H
      obtain ⟨q14, H⟩ := H
      refine wp_baload q13 q14 dX11_dividend_60 ?_
      refine WP.at 61 rfl ?_
      refine wp_if_eq 86 (by decide) dX11_dividend_61 (fun c15 => ?_) (fun c15 => ?_)
      · replace H := H.1 c15
        refine wp_iincN (1 : Int32) (by decide) rfl (Nat.le_of_ble_eq_true rfl) dX11_dividend_86 (ls' := fun v16 => [(6, xi v16), (0, xr l0), (1, xi l1), (2, xi l2), (3, xi l3), (4, xi l4)]) (fun _ => rfl) (fun v16 e17 => ?_)
        replace H := H v16 e17
        refine WP.at 89 rfl ?_
        refine wp_goto 45 (by decide) dX11_dividend_89 ?_
        exact WP.pick [1, 2, 3, 4, 5, 0] rfl (hB45 v16 _ H)
      · replace H := H.2 c15
        refine wp_aload_n 0 rfl rfl dX11_dividend_64 ?_
        refine wp_iload rfl dX11_dividend_65 ?_
        refine wp_iload_n 1 rfl rfl dX11_dividend_67 ?_
        refine wp_iload_n 2 rfl rfl dX11_dividend_68 ?_
        refine wp_iload_n 3 rfl rfl dX11_dividend_69 ?_
        refine wp_iload rfl dX11_dividend_70 ?_
        refine WP.at 72 rfl ?_
        refine wp_cVi (M2 := M_M_isFor) coX11 l0 q11 [xi l6, xi l1, xi l2, xi l3, xi l4] rfl lv_X11_303 mo_M_isFor (Nat.le_of_ble_eq_true rfl) ⟨(Nat.le_of_ble_eq_true rfl), (Nat.le_of_ble_eq_true rfl)⟩ (Nat.le_of_ble_eq_true rfl) (Nat.le_of_ble_eq_true rfl) dX11_dividend_72 (t_M_isFor l0 l6 l1 l2 l3 l4 _ _ H) (fun v19 h18 H => ?_)
        refine WP.at 75 rfl ?_
        refine WP.at 75 rfl ?_
        refine wp_if_eq 86 (by decide) dX11_dividend_75 (fun c20 => ?_) (fun c20 => ?_)
        · replace H := H.1 c20
          refine wp_iincN (1 : Int32) (by decide) rfl (Nat.le_of_ble_eq_true rfl) dX11_dividend_86 (ls' := fun v21 => [(6, xi v21), (0, xr l0), (1, xi l1), (2, xi l2), (3, xi l3), (4, xi l4)]) (fun _ => rfl) (fun v21 e22 => ?_)
          replace H := H v21 e22
          refine WP.at 89 rfl ?_
          refine wp_goto 45 (by decide) dX11_dividend_89 ?_
          exact WP.pick [1, 2, 3, 4, 5, 0] rfl (hB45 v21 _ H)
        · replace H := H.2 c20
          refine wp_aload_n 0 rfl rfl dX11_dividend_78 ?_
          refine wp_getr coX11 31 (Nat.le_of_ble_eq_true rfl) fl_X11_89 rfl q11 dX11_dividend_79 ?_
          refine wp_iload rfl dX11_dividend_82 ?_
          obtain ⟨q23, H⟩ := H
          obtain ⟨q24, H⟩ := H
          refine wp_iaload q23 q24 dX11_dividend_84 ?_
          exact wp_iret trivial dX11_dividend_85 H
def p_M_dividend (l0 : xN) (l1 : Int32) (l2 : Int32) (l3 : Int32) (l4 : Int32) (h : xH) (Q : Int32 → xH → Prop) : Prop := (kd l0.1 = (1, 10)) ∧ p_M_isThere l0 l1 h (fun (v3 : Int32) (h2 : xH) => ((¬ v3 = 0 → p_M_barsRow l0 l1 l2 l3 l4 h2 (fun (v6 : Int32) (h5 : xH) => ((0 ≤ v6 → (kd (hR h5 l0 9).1 = (3, 0)) ∧ (vp_in l1 (hS h5 (hR h5 l0 9) - 1)) ∧ ((¬ (hI h5 (hR h5 l0 9) l1.toNatClampNeg) = 0 → (∃ f26, p_M_dividend_L45 l0 l1 l2 l3 l4 (fun (h25 : xH) => Q (0 : Int32) h25) Q f26 (0 : Int32) h5)) ∧ ((hI h5 (hR h5 l0 9) l1.toNatClampNeg) = 0 → Q (-6 : Int32) h5))) ∧ (¬ 0 ≤ v6 → Q v6 h5)))) ∧ (v3 = 0 → Q (-2 : Int32) h2)))
set_option maxRecDepth 100000 in
set_option maxHeartbeats 4000000 in
theorem t_M_dividend (l0 : xN) (l1 : Int32) (l2 : Int32) (l3 : Int32) (l4 : Int32) (h : xH) (Q : Int32 → xH → Prop) (H : p_M_dividend l0 l1 l2 l3 l4 h Q) : WP M_M_dividend 0 [(0, xr l0), (1, xi l1), (2, xi l2), (3, xi l3), (4, xi l4)] [] h 0 (qi Q) := by
  unfold p_M_dividend at H
  refine wp_aload_n 0 rfl rfl dX11_dividend_0 ?_
  refine wp_iload_n 1 rfl rfl dX11_dividend_1 ?_
  refine WP.at 2 rfl ?_
  obtain ⟨q1, H⟩ := H
  refine wp_cVi (M2 := M_M_isThere) coX11 l0 q1 [xi l1] rfl lv_X11_281 mo_M_isThere (Nat.le_of_ble_eq_true rfl) ⟨(Nat.le_of_ble_eq_true rfl), (Nat.le_of_ble_eq_true rfl)⟩ (Nat.le_of_ble_eq_true rfl) (Nat.le_of_ble_eq_true rfl) dX11_dividend_2 (t_M_isThere l0 l1 _ _ H) (fun v3 h2 H => ?_)
  refine WP.at 5 rfl ?_
  refine wp_if_ne 11 (by decide) dX11_dividend_5 (fun c4 => ?_) (fun c4 => ?_)
  · replace H := H.1 c4
    refine wp_aload_n 0 rfl rfl dX11_dividend_11 ?_
    refine wp_iload_n 1 rfl rfl dX11_dividend_12 ?_
    refine wp_iload_n 2 rfl rfl dX11_dividend_13 ?_
    refine wp_iload_n 3 rfl rfl dX11_dividend_14 ?_
    refine wp_iload rfl dX11_dividend_15 ?_
    refine WP.at 17 rfl ?_
    refine wp_cVi (M2 := M_M_barsRow) coX11 l0 q1 [xi l1, xi l2, xi l3, xi l4] rfl lv_X11_284 mo_M_barsRow (Nat.le_of_ble_eq_true rfl) ⟨(Nat.le_of_ble_eq_true rfl), (Nat.le_of_ble_eq_true rfl)⟩ (Nat.le_of_ble_eq_true rfl) (Nat.le_of_ble_eq_true rfl) dX11_dividend_17 (t_M_barsRow l0 l1 l2 l3 l4 _ _ H) (fun v6 h5 H => ?_)
    refine wp_istore (Nat.le_of_ble_eq_true rfl) dX11_dividend_20 (ls' := [(5, xi v6), (0, xr l0), (1, xi l1), (2, xi l2), (3, xi l3), (4, xi l4)]) rfl ?_
    refine WP.at 22 rfl ?_
    refine wp_iload rfl dX11_dividend_22 ?_
    refine WP.at 24 rfl ?_
    refine wp_if_ge 30 (by decide) dX11_dividend_24 (fun c7 => ?_) (fun c7 => ?_)
    · replace H := H.1 c7
      refine wp_aload_n 0 rfl rfl dX11_dividend_30 ?_
      refine wp_getr coX11 9 (Nat.le_of_ble_eq_true rfl) fl_X11_35 rfl q1 dX11_dividend_31 ?_
      refine wp_iload_n 1 rfl rfl dX11_dividend_34 ?_
      obtain ⟨q8, H⟩ := H
      obtain ⟨q9, H⟩ := H
      refine wp_baload q8 q9 dX11_dividend_35 ?_
      refine WP.at 36 rfl ?_
      refine wp_if_ne 42 (by decide) dX11_dividend_36 (fun c10 => ?_) (fun c10 => ?_)
      · replace H := H.1 c10
        refine wp_iconst (0 : Int32) (by decide) dX11_dividend_42 ?_
        refine wp_istore (Nat.le_of_ble_eq_true rfl) dX11_dividend_43 (ls' := [(6, xi (0 : Int32)), (5, xi v6), (0, xr l0), (1, xi l1), (2, xi l2), (3, xi l3), (4, xi l4)]) rfl ?_
        refine WP.at 45 rfl ?_
        obtain ⟨f26, H⟩ := H
        refine WP.pick [2, 3, 4, 5, 6, 0] rfl (t_M_dividend_L45 l0 l1 l2 l3 l4 _ Q ?_ f26 (0 : Int32) _ H)
        · intro h25 H
          refine wp_iconst (0 : Int32) (by decide) dX11_dividend_92 ?_
          exact wp_iret trivial dX11_dividend_93 H
      · replace H := H.2 c10
        refine wp_bipush (-6 : Int32) (by decide) dX11_dividend_39 ?_
        exact wp_iret trivial dX11_dividend_41 H
    · replace H := H.2 c7
      refine wp_iload rfl dX11_dividend_27 ?_
      exact wp_iret trivial dX11_dividend_29 H
  · replace H := H.2 c4
    refine wp_bipush (-2 : Int32) (by decide) dX11_dividend_8 ?_
    exact wp_iret trivial dX11_dividend_10 H
def p_R_areRow (l0 : xN) (l1 : Int32) (l2 : Int32) (l3 : Int32) (h : xH) (Q : Int32 → xH → Prop) : Prop := ((l1 = l2 → Q (0 : Int32) h) ∧ (¬ l1 = l2 → ((l1 = l3 → Q (0 : Int32) h) ∧ (¬ l1 = l3 → ((l2 = l3 → Q (0 : Int32) h) ∧ (¬ l2 = l3 → (kd l0.1 = (1, 4)) ∧ p_R_isOut l0 l1 h (fun (v6 : Int32) (h5 : xH) => ((¬ v6 = 0 → Q (0 : Int32) h5) ∧ (v6 = 0 → p_R_isOut l0 l2 h5 (fun (v9 : Int32) (h8 : xH) => ((¬ v9 = 0 → Q (0 : Int32) h8) ∧ (v9 = 0 → p_R_isOut l0 l3 h8 (fun (v12 : Int32) (h11 : xH) => ((¬ v12 = 0 → Q (0 : Int32) h11) ∧ (v12 = 0 → Q (1 : Int32) h11)))))))))))))))
set_option maxRecDepth 100000 in
set_option maxHeartbeats 4000000 in
theorem t_R_areRow (l0 : xN) (l1 : Int32) (l2 : Int32) (l3 : Int32) (h : xH) (Q : Int32 → xH → Prop) (H : p_R_areRow l0 l1 l2 l3 h Q) : WP M_R_areRow 0 [(0, xr l0), (1, xi l1), (2, xi l2), (3, xi l3)] [] h 0 (qi Q) := by
  unfold p_R_areRow at H
  refine wp_iload_n 1 rfl rfl dX5_areRow_0 ?_
  refine wp_iload_n 2 rfl rfl dX5_areRow_1 ?_
  refine WP.at 2 rfl ?_
  refine wp_icmp_eq 43 (by decide) dX5_areRow_2 (fun c1 => ?_) (fun c1 => ?_)
  · replace H := H.1 c1
    refine wp_iconst (0 : Int32) (by decide) dX5_areRow_43 ?_
    exact wp_iret (Or.inl rfl) dX5_areRow_44 H
  · replace H := H.2 c1
    refine wp_iload_n 1 rfl rfl dX5_areRow_5 ?_
    refine wp_iload_n 3 rfl rfl dX5_areRow_6 ?_
    refine WP.at 7 rfl ?_
    refine wp_icmp_eq 43 (by decide) dX5_areRow_7 (fun c2 => ?_) (fun c2 => ?_)
    · replace H := H.1 c2
      refine wp_iconst (0 : Int32) (by decide) dX5_areRow_43 ?_
      exact wp_iret (Or.inl rfl) dX5_areRow_44 H
    · replace H := H.2 c2
      refine wp_iload_n 2 rfl rfl dX5_areRow_10 ?_
      refine wp_iload_n 3 rfl rfl dX5_areRow_11 ?_
      refine WP.at 12 rfl ?_
      refine wp_icmp_eq 43 (by decide) dX5_areRow_12 (fun c3 => ?_) (fun c3 => ?_)
      · replace H := H.1 c3
        refine wp_iconst (0 : Int32) (by decide) dX5_areRow_43 ?_
        exact wp_iret (Or.inl rfl) dX5_areRow_44 H
      · replace H := H.2 c3
        refine wp_aload_n 0 rfl rfl dX5_areRow_15 ?_
        refine wp_iload_n 1 rfl rfl dX5_areRow_16 ?_
        refine WP.at 17 rfl ?_
        obtain ⟨q4, H⟩ := H
        refine wp_cVi (M2 := M_R_isOut) coX5 l0 q4 [xi l1] rfl lv_X5_43 mo_R_isOut (Nat.le_of_ble_eq_true rfl) ⟨(Nat.le_of_ble_eq_true rfl), (Nat.le_of_ble_eq_true rfl)⟩ (Nat.le_of_ble_eq_true rfl) (Nat.le_of_ble_eq_true rfl) dX5_areRow_17 (t_R_isOut l0 l1 _ _ H) (fun v6 h5 H => ?_)
        refine WP.at 20 rfl ?_
        refine wp_if_ne 43 (by decide) dX5_areRow_20 (fun c7 => ?_) (fun c7 => ?_)
        · replace H := H.1 c7
          refine wp_iconst (0 : Int32) (by decide) dX5_areRow_43 ?_
          exact wp_iret (Or.inl rfl) dX5_areRow_44 H
        · replace H := H.2 c7
          refine wp_aload_n 0 rfl rfl dX5_areRow_23 ?_
          refine wp_iload_n 2 rfl rfl dX5_areRow_24 ?_
          refine WP.at 25 rfl ?_
          refine wp_cVi (M2 := M_R_isOut) coX5 l0 q4 [xi l2] rfl lv_X5_43 mo_R_isOut (Nat.le_of_ble_eq_true rfl) ⟨(Nat.le_of_ble_eq_true rfl), (Nat.le_of_ble_eq_true rfl)⟩ (Nat.le_of_ble_eq_true rfl) (Nat.le_of_ble_eq_true rfl) dX5_areRow_25 (t_R_isOut l0 l2 _ _ H) (fun v9 h8 H => ?_)
          refine WP.at 28 rfl ?_
          refine wp_if_ne 43 (by decide) dX5_areRow_28 (fun c10 => ?_) (fun c10 => ?_)
          · replace H := H.1 c10
            refine wp_iconst (0 : Int32) (by decide) dX5_areRow_43 ?_
            exact wp_iret (Or.inl rfl) dX5_areRow_44 H
          · replace H := H.2 c10
            refine wp_aload_n 0 rfl rfl dX5_areRow_31 ?_
            refine wp_iload_n 3 rfl rfl dX5_areRow_32 ?_
            refine WP.at 33 rfl ?_
            refine wp_cVi (M2 := M_R_isOut) coX5 l0 q4 [xi l3] rfl lv_X5_43 mo_R_isOut (Nat.le_of_ble_eq_true rfl) ⟨(Nat.le_of_ble_eq_true rfl), (Nat.le_of_ble_eq_true rfl)⟩ (Nat.le_of_ble_eq_true rfl) (Nat.le_of_ble_eq_true rfl) dX5_areRow_33 (t_R_isOut l0 l3 _ _ H) (fun v12 h11 H => ?_)
            refine WP.at 36 rfl ?_
            refine wp_if_ne 43 (by decide) dX5_areRow_36 (fun c13 => ?_) (fun c13 => ?_)
            · replace H := H.1 c13
              refine wp_iconst (0 : Int32) (by decide) dX5_areRow_43 ?_
              exact wp_iret (Or.inl rfl) dX5_areRow_44 H
            · replace H := H.2 c13
              refine wp_iconst (1 : Int32) (by decide) dX5_areRow_39 ?_
              refine WP.at 40 rfl ?_
              refine wp_goto 44 (by decide) dX5_areRow_40 ?_
              exact wp_iret (Or.inr rfl) dX5_areRow_44 H
def p_T_suppose (l0 : xN) (l1 : xN) (l2 : Int32) (l3 : Int32) (l4 : Int32) (h : xH) (Q : xH → Prop) : Prop := (kd l0.1 = (1, 9)) ∧ (kd l1.1 = (1, 4)) ∧ (kd (hR h l0 6).1 = (1, 2)) ∧ p_F_begin (hR h l0 6) (hI h l1 6) h (fun h4 : xH => (kd (hR h4 l0 6).1 = (1, 2)) ∧ p_F_add (hR h4 l0 6) l2 (1 : Int32) h4 (fun h6 : xH => (kd (hR h6 l0 6).1 = (1, 2)) ∧ p_F_add (hR h6 l0 6) l3 (2 : Int32) h6 (fun h8 : xH => ((l4 = 0 → Q h8) ∧ (¬ l4 = 0 → (kd (hR h8 l0 6).1 = (1, 2)) ∧ p_F_add (hR h8 l0 6) l4 (3 : Int32) h8 (fun h11 : xH => Q h11))))))
set_option maxRecDepth 100000 in
set_option maxHeartbeats 4000000 in
theorem t_T_suppose (l0 : xN) (l1 : xN) (l2 : Int32) (l3 : Int32) (l4 : Int32) (h : xH) (Q : xH → Prop) (H : p_T_suppose l0 l1 l2 l3 l4 h Q) : WP M_T_suppose 0 [(0, xr l0), (1, xr l1), (2, xi l2), (3, xi l3), (4, xi l4)] [] h 0 (qv Q) := by
  unfold p_T_suppose at H
  refine wp_aload_n 0 rfl rfl dX10_suppose_0 ?_
  obtain ⟨q1, H⟩ := H
  refine wp_getr coX10 6 (Nat.le_of_ble_eq_true rfl) fl_X10_49 rfl q1 dX10_suppose_1 ?_
  refine wp_aload_n 1 rfl rfl dX10_suppose_4 ?_
  obtain ⟨q2, H⟩ := H
  refine wp_geti coX5 6 (Nat.le_of_ble_eq_true rfl) fl_X10_116 rfl q2 dX10_suppose_5 ?_
  refine WP.at 8 rfl ?_
  obtain ⟨q3, H⟩ := H
  refine wp_cVv (M2 := M_F_begin) coX2 (hR h l0 6) q3 [xi (hI h l1 6)] rfl lv_X10_434 mo_F_begin (Nat.le_of_ble_eq_true rfl) ⟨(Nat.le_of_ble_eq_true rfl), (Nat.le_of_ble_eq_true rfl)⟩ (Nat.le_of_ble_eq_true rfl) (Nat.le_of_ble_eq_true rfl) dX10_suppose_8 (t_F_begin (hR h l0 6) (hI h l1 6) _ _ H) (fun h4 H => ?_)
  refine wp_aload_n 0 rfl rfl dX10_suppose_11 ?_
  refine wp_getr coX10 6 (Nat.le_of_ble_eq_true rfl) fl_X10_49 rfl q1 dX10_suppose_12 ?_
  refine WP.at 15 rfl ?_
  refine wp_iload_n 2 rfl rfl dX10_suppose_15 ?_
  refine wp_iconst (1 : Int32) (by decide) dX10_suppose_16 ?_
  refine WP.at 17 rfl ?_
  obtain ⟨q5, H⟩ := H
  refine wp_cVv (M2 := M_F_add) coX2 (hR h4 l0 6) q5 [xi l2, xi (1 : Int32)] rfl lv_X10_436 mo_F_add (Nat.le_of_ble_eq_true rfl) ⟨(Nat.le_of_ble_eq_true rfl), (Nat.le_of_ble_eq_true rfl)⟩ (Nat.le_of_ble_eq_true rfl) (Nat.le_of_ble_eq_true rfl) dX10_suppose_17 (t_F_add (hR h4 l0 6) l2 (1 : Int32) _ _ H) (fun h6 H => ?_)
  refine wp_aload_n 0 rfl rfl dX10_suppose_20 ?_
  refine wp_getr coX10 6 (Nat.le_of_ble_eq_true rfl) fl_X10_49 rfl q1 dX10_suppose_21 ?_
  refine wp_iload_n 3 rfl rfl dX10_suppose_24 ?_
  refine wp_iconst (2 : Int32) (by decide) dX10_suppose_25 ?_
  refine WP.at 26 rfl ?_
  obtain ⟨q7, H⟩ := H
  refine wp_cVv (M2 := M_F_add) coX2 (hR h6 l0 6) q7 [xi l3, xi (2 : Int32)] rfl lv_X10_436 mo_F_add (Nat.le_of_ble_eq_true rfl) ⟨(Nat.le_of_ble_eq_true rfl), (Nat.le_of_ble_eq_true rfl)⟩ (Nat.le_of_ble_eq_true rfl) (Nat.le_of_ble_eq_true rfl) dX10_suppose_26 (t_F_add (hR h6 l0 6) l3 (2 : Int32) _ _ H) (fun h8 H => ?_)
  refine WP.at 29 rfl ?_
  refine wp_iload rfl dX10_suppose_29 ?_
  refine WP.at 31 rfl ?_
  refine wp_if_eq 44 (by decide) dX10_suppose_31 (fun c9 => ?_) (fun c9 => ?_)
  · replace H := H.1 c9
    exact wp_vret trivial dX10_suppose_44 H
  · replace H := H.2 c9
    refine wp_aload_n 0 rfl rfl dX10_suppose_34 ?_
    refine wp_getr coX10 6 (Nat.le_of_ble_eq_true rfl) fl_X10_49 rfl q1 dX10_suppose_35 ?_
    refine wp_iload rfl dX10_suppose_38 ?_
    refine wp_iconst (3 : Int32) (by decide) dX10_suppose_40 ?_
    refine WP.at 41 rfl ?_
    obtain ⟨q10, H⟩ := H
    refine wp_cVv (M2 := M_F_add) coX2 (hR h8 l0 6) q10 [xi l4, xi (3 : Int32)] rfl lv_X10_436 mo_F_add (Nat.le_of_ble_eq_true rfl) ⟨(Nat.le_of_ble_eq_true rfl), (Nat.le_of_ble_eq_true rfl)⟩ (Nat.le_of_ble_eq_true rfl) (Nat.le_of_ble_eq_true rfl) dX10_suppose_41 (t_F_add (hR h8 l0 6) l4 (3 : Int32) _ _ H) (fun h11 H => ?_)
    exact wp_vret trivial dX10_suppose_44 H
def p_Se_dividendOf_j16 (s0 : Int32) (l0 : xN) (h : xH) (Q : Int32 → xH → Prop) : Prop := ((¬ s0 = (-1 : Int32) → (kd l0.1 = (1, 6)) ∧ (kd (hR h l0 1).1 = (2, 0)) ∧ (vp_in s0 (hS h (hR h l0 1) - 1)) ∧ Q (hI h (hR h l0 1) s0.toNatClampNeg) h) ∧ (s0 = (-1 : Int32) → Q (0 : Int32) h))
set_option maxRecDepth 100000 in
set_option maxHeartbeats 4000000 in
theorem t_Se_dividendOf_j16 (s0 : Int32) (l0 : xN) (h : xH) (Q : Int32 → xH → Prop) (H : p_Se_dividendOf_j16 s0 l0 h Q) : WP M_Se_dividendOf 16 [(0, xr l0)] [xi s0] h 0 (qi Q) := by
  unfold p_Se_dividendOf_j16 at H
  refine wp_istore_n 2 rfl (Nat.le_of_ble_eq_true rfl) dX7_dividendOf_16 (ls' := [(2, xi s0), (0, xr l0)]) rfl ?_
  refine wp_iload_n 2 rfl rfl dX7_dividendOf_17 ?_
  refine wp_iconst (-1 : Int32) (by decide) dX7_dividendOf_18 ?_
  refine WP.at 19 rfl ?_
  refine wp_icmp_ne 26 (by decide) dX7_dividendOf_19 (fun c5 => ?_) (fun c5 => ?_)
  · replace H := H.1 c5
    refine wp_aload_n 0 rfl rfl dX7_dividendOf_26 ?_
    obtain ⟨q6, H⟩ := H
    refine wp_getr coX7 1 (Nat.le_of_ble_eq_true rfl) fl_X7_15 rfl q6 dX7_dividendOf_27 ?_
    refine wp_iload_n 2 rfl rfl dX7_dividendOf_30 ?_
    obtain ⟨q7, H⟩ := H
    obtain ⟨q8, H⟩ := H
    refine wp_iaload q7 q8 dX7_dividendOf_31 ?_
    exact wp_iret trivial dX7_dividendOf_32 H
  · replace H := H.2 c5
    refine wp_iconst (0 : Int32) (by decide) dX7_dividendOf_22 ?_
    refine WP.at 23 rfl ?_
    refine wp_goto 32 (by decide) dX7_dividendOf_23 ?_
    exact wp_iret trivial dX7_dividendOf_32 H
def p_Se_dividendOf (l0 : xN) (l1 : Int32) (h : xH) (Q : Int32 → xH → Prop) : Prop := (kd l0.1 = (1, 6)) ∧ (((hI h l0 3) = 0 → p_Se_indexOf l0 l1 h (fun (v4 : Int32) (h3 : xH) => p_Se_dividendOf_j16 v4 l0 h3 Q)) ∧ (¬ (hI h l0 3) = 0 → p_Se_dividendOf_j16 (-1 : Int32) l0 h Q))
set_option maxRecDepth 100000 in
set_option maxHeartbeats 4000000 in
theorem t_Se_dividendOf (l0 : xN) (l1 : Int32) (h : xH) (Q : Int32 → xH → Prop) (H : p_Se_dividendOf l0 l1 h Q) : WP M_Se_dividendOf 0 [(0, xr l0), (1, xi l1)] [] h 0 (qi Q) := by
  unfold p_Se_dividendOf at H
  refine wp_aload_n 0 rfl rfl dX7_dividendOf_0 ?_
  obtain ⟨q1, H⟩ := H
  refine wp_geti coX7 3 (Nat.le_of_ble_eq_true rfl) fl_X7_55 rfl q1 dX7_dividendOf_1 ?_
  refine WP.at 4 rfl ?_
  refine wp_if_eq 11 (by decide) dX7_dividendOf_4 (fun c2 => ?_) (fun c2 => ?_)
  · replace H := H.1 c2
    refine wp_aload_n 0 rfl rfl dX7_dividendOf_11 ?_
    refine wp_iload_n 1 rfl rfl dX7_dividendOf_12 ?_
    refine WP.at 13 rfl ?_
    refine wp_cVi (M2 := M_Se_indexOf) coX7 l0 q1 [xi l1] rfl lv_X7_111 mo_Se_indexOf (Nat.le_of_ble_eq_true rfl) ⟨(Nat.le_of_ble_eq_true rfl), (Nat.le_of_ble_eq_true rfl)⟩ (Nat.le_of_ble_eq_true rfl) (Nat.le_of_ble_eq_true rfl) dX7_dividendOf_13 (t_Se_indexOf l0 l1 _ _ H) (fun v4 h3 H => ?_)
    refine WP.at 16 rfl ?_
    exact WP.pick [0] rfl (t_Se_dividendOf_j16 v4 l0 _ _ H)
  · replace H := H.2 c2
    refine wp_iconst (-1 : Int32) (by decide) dX7_dividendOf_7 ?_
    refine WP.at 8 rfl ?_
    refine wp_goto 16 (by decide) dX7_dividendOf_8 ?_
    exact WP.pick [0] rfl (t_Se_dividendOf_j16 (-1 : Int32) l0 _ _ H)
def p_T_odds_j67 (l0 : xN) (l2 : Int32) (l3 : Int32) (l4 : Int32) (l5 : xN) (l6 : xN) (h : xH) (Q : Int32 → xH → Prop) : Prop := ((l2 = l3 → Q (-4 : Int32) h) ∧ (¬ l2 = l3 → ((l2 = l4 → Q (-4 : Int32) h) ∧ (¬ l2 = l4 → ((¬ l3 = l4 → (kd l6.1 = (1, 4)) ∧ p_R_areRow l6 l2 l3 l4 h (fun (v22 : Int32) (h21 : xH) => ((¬ v22 = 0 → ((¬ (hI h21 l6 7) = (2 : Int32) → (kd l0.1 = (1, 9)) ∧ p_T_suppose l0 l6 l2 l3 l4 h21 (fun h26 : xH => (kd (hR h26 l0 7).1 = (1, 6)) ∧ p_Se_reckon (hR h26 l0 7) l5 (hR h26 l0 6) (hR h26 l0 6) h26 (fun h28 : xH => (kd l5.1 = (1, 3)) ∧ p_Po_lineOf l5 l2 l3 l4 h28 (fun (v31 : Int32) (h30 : xH) => (kd (hR h28 l0 7).1 = (1, 6)) ∧ p_Se_dividendOf (hR h28 l0 7) v31 h30 (fun (v34 : Int32) (h33 : xH) => Q v34 h33))))) ∧ ((hI h21 l6 7) = (2 : Int32) → Q (-6 : Int32) h21))) ∧ (v22 = 0 → Q (-5 : Int32) h21)))) ∧ (l3 = l4 → Q (-4 : Int32) h))))))
set_option maxRecDepth 100000 in
set_option maxHeartbeats 4000000 in
theorem t_T_odds_j67 (l0 : xN) (l2 : Int32) (l3 : Int32) (l4 : Int32) (l5 : xN) (l6 : xN) (h : xH) (Q : Int32 → xH → Prop) (H : p_T_odds_j67 l0 l2 l3 l4 l5 l6 h Q) : WP M_T_odds 67 [(0, xr l0), (2, xi l2), (3, xi l3), (4, xi l4), (5, xr l5), (6, xr l6)] [] h 0 (qi Q) := by
  unfold p_T_odds_j67 at H
  refine wp_iload_n 2 rfl rfl dX10_odds_67 ?_
  refine wp_iload_n 3 rfl rfl dX10_odds_68 ?_
  refine WP.at 69 rfl ?_
  refine wp_icmp_eq 84 (by decide) dX10_odds_69 (fun c17 => ?_) (fun c17 => ?_)
  · replace H := H.1 c17
    refine wp_bipush (-4 : Int32) (by decide) dX10_odds_84 ?_
    exact wp_iret trivial dX10_odds_86 H
  · replace H := H.2 c17
    refine wp_iload_n 2 rfl rfl dX10_odds_72 ?_
    refine wp_iload rfl dX10_odds_73 ?_
    refine WP.at 75 rfl ?_
    refine wp_icmp_eq 84 (by decide) dX10_odds_75 (fun c18 => ?_) (fun c18 => ?_)
    · replace H := H.1 c18
      refine wp_bipush (-4 : Int32) (by decide) dX10_odds_84 ?_
      exact wp_iret trivial dX10_odds_86 H
    · replace H := H.2 c18
      refine wp_iload_n 3 rfl rfl dX10_odds_78 ?_
      refine wp_iload rfl dX10_odds_79 ?_
      refine WP.at 81 rfl ?_
      refine wp_icmp_ne 87 (by decide) dX10_odds_81 (fun c19 => ?_) (fun c19 => ?_)
      · replace H := H.1 c19
        refine wp_aload rfl dX10_odds_87 ?_
        refine wp_iload_n 2 rfl rfl dX10_odds_89 ?_
        refine wp_iload_n 3 rfl rfl dX10_odds_90 ?_
        refine wp_iload rfl dX10_odds_91 ?_
        refine WP.at 93 rfl ?_
        obtain ⟨q20, H⟩ := H
        refine wp_cVi (M2 := M_R_areRow) coX5 l6 q20 [xi l2, xi l3, xi l4] rfl lv_X10_245 mo_R_areRow (Nat.le_of_ble_eq_true rfl) ⟨(Nat.le_of_ble_eq_true rfl), (Nat.le_of_ble_eq_true rfl)⟩ (Nat.le_of_ble_eq_true rfl) (Nat.le_of_ble_eq_true rfl) dX10_odds_93 (t_R_areRow l6 l2 l3 l4 _ _ H) (fun v22 h21 H => ?_)
        refine WP.at 96 rfl ?_
        refine wp_if_ne 102 (by decide) dX10_odds_96 (fun c23 => ?_) (fun c23 => ?_)
        · replace H := H.1 c23
          refine wp_aload rfl dX10_odds_102 ?_
          refine wp_geti coX5 7 (Nat.le_of_ble_eq_true rfl) fl_X10_88 rfl q20 dX10_odds_104 ?_
          refine wp_iconst (2 : Int32) (by decide) dX10_odds_107 ?_
          refine WP.at 108 rfl ?_
          refine wp_icmp_ne 114 (by decide) dX10_odds_108 (fun c24 => ?_) (fun c24 => ?_)
          · replace H := H.1 c24
            refine wp_aload_n 0 rfl rfl dX10_odds_114 ?_
            refine wp_aload rfl dX10_odds_115 ?_
            refine wp_iload_n 2 rfl rfl dX10_odds_117 ?_
            refine wp_iload_n 3 rfl rfl dX10_odds_118 ?_
            refine wp_iload rfl dX10_odds_119 ?_
            refine WP.at 121 rfl ?_
            obtain ⟨q25, H⟩ := H
            refine wp_cVv (M2 := M_T_suppose) coX10 l0 q25 [xr l6, xi l2, xi l3, xi l4] rfl lv_X10_248 mo_T_suppose (Nat.le_of_ble_eq_true rfl) ⟨(Nat.le_of_ble_eq_true rfl), (Nat.le_of_ble_eq_true rfl)⟩ (Nat.le_of_ble_eq_true rfl) (Nat.le_of_ble_eq_true rfl) dX10_odds_121 (t_T_suppose l0 l6 l2 l3 l4 _ _ H) (fun h26 H => ?_)
            refine wp_aload_n 0 rfl rfl dX10_odds_124 ?_
            refine WP.at 125 rfl ?_
            refine wp_getr coX10 7 (Nat.le_of_ble_eq_true rfl) fl_X10_56 rfl q25 dX10_odds_125 ?_
            refine wp_aload rfl dX10_odds_128 ?_
            refine wp_aload_n 0 rfl rfl dX10_odds_130 ?_
            refine wp_getr coX10 6 (Nat.le_of_ble_eq_true rfl) fl_X10_49 rfl q25 dX10_odds_131 ?_
            refine wp_aload_n 0 rfl rfl dX10_odds_134 ?_
            refine wp_getr coX10 6 (Nat.le_of_ble_eq_true rfl) fl_X10_49 rfl q25 dX10_odds_135 ?_
            refine WP.at 138 rfl ?_
            obtain ⟨q27, H⟩ := H
            refine wp_cVv (M2 := M_Se_reckon) coX7 (hR h26 l0 7) q27 [xr l5, xr (hR h26 l0 6), xr (hR h26 l0 6)] rfl lv_X10_252 mo_Se_reckon (Nat.le_of_ble_eq_true rfl) ⟨(Nat.le_of_ble_eq_true rfl), (Nat.le_of_ble_eq_true rfl)⟩ (Nat.le_of_ble_eq_true rfl) (Nat.le_of_ble_eq_true rfl) dX10_odds_138 (t_Se_reckon (hR h26 l0 7) l5 (hR h26 l0 6) (hR h26 l0 6) _ _ H) (fun h28 H => ?_)
            refine wp_aload_n 0 rfl rfl dX10_odds_141 ?_
            refine WP.at 142 rfl ?_
            refine wp_getr coX10 7 (Nat.le_of_ble_eq_true rfl) fl_X10_56 rfl q25 dX10_odds_142 ?_
            refine wp_aload rfl dX10_odds_145 ?_
            refine wp_iload_n 2 rfl rfl dX10_odds_147 ?_
            refine wp_iload_n 3 rfl rfl dX10_odds_148 ?_
            refine wp_iload rfl dX10_odds_149 ?_
            refine WP.at 151 rfl ?_
            obtain ⟨q29, H⟩ := H
            refine wp_cVi (M2 := M_Po_lineOf) coX4 l5 q29 [xi l2, xi l3, xi l4] rfl lv_X10_233 mo_Po_lineOf (Nat.le_of_ble_eq_true rfl) ⟨(Nat.le_of_ble_eq_true rfl), (Nat.le_of_ble_eq_true rfl)⟩ (Nat.le_of_ble_eq_true rfl) (Nat.le_of_ble_eq_true rfl) dX10_odds_151 (t_Po_lineOf l5 l2 l3 l4 _ _ H) (fun v31 h30 H => ?_)
            refine WP.at 154 rfl ?_
            obtain ⟨q32, H⟩ := H
            refine wp_cVi (M2 := M_Se_dividendOf) coX7 (hR h28 l0 7) q32 [xi v31] rfl lv_X10_256 mo_Se_dividendOf (Nat.le_of_ble_eq_true rfl) ⟨(Nat.le_of_ble_eq_true rfl), (Nat.le_of_ble_eq_true rfl)⟩ (Nat.le_of_ble_eq_true rfl) (Nat.le_of_ble_eq_true rfl) dX10_odds_154 (t_Se_dividendOf (hR h28 l0 7) v31 _ _ H) (fun v34 h33 H => ?_)
            exact wp_iret trivial dX10_odds_157 H
          · replace H := H.2 c24
            refine wp_bipush (-6 : Int32) (by decide) dX10_odds_111 ?_
            exact wp_iret trivial dX10_odds_113 H
        · replace H := H.2 c23
          refine wp_bipush (-5 : Int32) (by decide) dX10_odds_99 ?_
          exact wp_iret trivial dX10_odds_101 H
      · replace H := H.2 c19
        refine wp_bipush (-4 : Int32) (by decide) dX10_odds_84 ?_
        exact wp_iret trivial dX10_odds_86 H
def p_T_odds (l0 : xN) (l1 : Int32) (l2 : Int32) (l3 : Int32) (l4 : Int32) (h : xH) (Q : Int32 → xH → Prop) : Prop := (kd l0.1 = (1, 9)) ∧ p_T_findPool l0 l1 h (fun (v3 : xN) (h2 : xH) => ((v3.1 = 0 → Q (-2 : Int32) h2) ∧ (¬ v3.1 = 0 → (kd v3.1 = (1, 3)) ∧ ((¬ (hI h2 v3 1) = (4 : Int32) → ∀ v7 : xN, v7 = hR h2 v3 2 → (kd v7.1 = (1, 4)) ∧ p_R_hasRunner v7 l2 h2 (fun (v11 : Int32) (h10 : xH) => ((v11 = 0 → Q (-3 : Int32) h10) ∧ (¬ v11 = 0 → p_R_hasRunner v7 l3 h10 (fun (v14 : Int32) (h13 : xH) => ((v14 = 0 → Q (-3 : Int32) h13) ∧ (¬ v14 = 0 → ((l4 = 0 → p_T_odds_j67 l0 l2 l3 l4 v3 v7 h13 Q) ∧ (¬ l4 = 0 → p_R_hasRunner v7 l4 h13 (fun (v36 : Int32) (h35 : xH) => ((¬ v36 = 0 → p_T_odds_j67 l0 l2 l3 l4 v3 v7 h35 Q) ∧ (v36 = 0 → Q (-3 : Int32) h35)))))))))))) ∧ ((hI h2 v3 1) = (4 : Int32) → Q (-2 : Int32) h2)))))
set_option maxRecDepth 100000 in
set_option maxHeartbeats 4000000 in
theorem t_T_odds (l0 : xN) (l1 : Int32) (l2 : Int32) (l3 : Int32) (l4 : Int32) (h : xH) (Q : Int32 → xH → Prop) (H : p_T_odds l0 l1 l2 l3 l4 h Q) : WP M_T_odds 0 [(0, xr l0), (1, xi l1), (2, xi l2), (3, xi l3), (4, xi l4)] [] h 0 (qi Q) := by
  unfold p_T_odds at H
  refine wp_aload_n 0 rfl rfl dX10_odds_0 ?_
  refine wp_iload_n 1 rfl rfl dX10_odds_1 ?_
  refine WP.at 2 rfl ?_
  obtain ⟨q1, H⟩ := H
  refine wp_cVr (M2 := M_T_findPool) coX10 l0 q1 [xi l1] rfl lv_X10_158 mo_T_findPool (Nat.le_of_ble_eq_true rfl) ⟨(Nat.le_of_ble_eq_true rfl), (Nat.le_of_ble_eq_true rfl)⟩ (Nat.le_of_ble_eq_true rfl) (Nat.le_of_ble_eq_true rfl) dX10_odds_2 (t_T_findPool l0 l1 _ _ H) (fun v3 h2 H => ?_)
  refine wp_astore (Nat.le_of_ble_eq_true rfl) dX10_odds_5 (ls' := [(5, xr v3), (0, xr l0), (1, xi l1), (2, xi l2), (3, xi l3), (4, xi l4)]) rfl ?_
  refine wp_aload rfl dX10_odds_7 ?_
  refine WP.at 9 rfl ?_
  refine wp_ifnull 21 (by decide) dX10_odds_9 (fun c4 => ?_) (fun c4 => ?_)
  · replace H := H.1 c4
    refine wp_bipush (-2 : Int32) (by decide) dX10_odds_21 ?_
    exact wp_iret trivial dX10_odds_23 H
  · replace H := H.2 c4
    refine wp_aload rfl dX10_odds_12 ?_
    obtain ⟨q5, H⟩ := H
    refine wp_geti coX4 1 (Nat.le_of_ble_eq_true rfl) fl_X10_242 rfl q5 dX10_odds_14 ?_
    refine wp_iconst (4 : Int32) (by decide) dX10_odds_17 ?_
    refine WP.at 18 rfl ?_
    refine wp_icmp_ne 24 (by decide) dX10_odds_18 (fun c6 => ?_) (fun c6 => ?_)
    · replace H := H.1 c6
      refine wp_aload rfl dX10_odds_24 ?_
      refine wp_getr coX4 2 (Nat.le_of_ble_eq_true rfl) fl_X10_173 rfl q5 dX10_odds_26 ?_
      refine wp_nmr (fun v7 e8 => ?_)
      replace H := H v7 e8
      refine wp_astore (Nat.le_of_ble_eq_true rfl) dX10_odds_29 (ls' := [(6, xr v7), (5, xr v3), (0, xr l0), (1, xi l1), (2, xi l2), (3, xi l3), (4, xi l4)]) rfl ?_
      refine wp_aload rfl dX10_odds_31 ?_
      refine wp_iload_n 2 rfl rfl dX10_odds_33 ?_
      refine WP.at 34 rfl ?_
      obtain ⟨q9, H⟩ := H
      refine wp_cVi (M2 := M_R_hasRunner) coX5 v7 q9 [xi l2] rfl lv_X10_151 mo_R_hasRunner (Nat.le_of_ble_eq_true rfl) ⟨(Nat.le_of_ble_eq_true rfl), (Nat.le_of_ble_eq_true rfl)⟩ (Nat.le_of_ble_eq_true rfl) (Nat.le_of_ble_eq_true rfl) dX10_odds_34 (t_R_hasRunner v7 l2 _ _ H) (fun v11 h10 H => ?_)
      refine WP.at 37 rfl ?_
      refine wp_if_eq 64 (by decide) dX10_odds_37 (fun c12 => ?_) (fun c12 => ?_)
      · replace H := H.1 c12
        refine wp_bipush (-3 : Int32) (by decide) dX10_odds_64 ?_
        exact wp_iret trivial dX10_odds_66 H
      · replace H := H.2 c12
        refine wp_aload rfl dX10_odds_40 ?_
        refine wp_iload_n 3 rfl rfl dX10_odds_42 ?_
        refine WP.at 43 rfl ?_
        refine wp_cVi (M2 := M_R_hasRunner) coX5 v7 q9 [xi l3] rfl lv_X10_151 mo_R_hasRunner (Nat.le_of_ble_eq_true rfl) ⟨(Nat.le_of_ble_eq_true rfl), (Nat.le_of_ble_eq_true rfl)⟩ (Nat.le_of_ble_eq_true rfl) (Nat.le_of_ble_eq_true rfl) dX10_odds_43 (t_R_hasRunner v7 l3 _ _ H) (fun v14 h13 H => ?_)
        refine WP.at 46 rfl ?_
        refine wp_if_eq 64 (by decide) dX10_odds_46 (fun c15 => ?_) (fun c15 => ?_)
        · replace H := H.1 c15
          refine wp_bipush (-3 : Int32) (by decide) dX10_odds_64 ?_
          exact wp_iret trivial dX10_odds_66 H
        · replace H := H.2 c15
          refine wp_iload rfl dX10_odds_49 ?_
          refine WP.at 51 rfl ?_
          refine wp_if_eq 67 (by decide) dX10_odds_51 (fun c16 => ?_) (fun c16 => ?_)
          · replace H := H.1 c16
            exact WP.pick [2, 4, 5, 6, 1, 0] rfl (t_T_odds_j67 l0 l2 l3 l4 v3 v7 _ _ H)
          · replace H := H.2 c16
            refine wp_aload rfl dX10_odds_54 ?_
            refine wp_iload rfl dX10_odds_56 ?_
            refine WP.at 58 rfl ?_
            refine wp_cVi (M2 := M_R_hasRunner) coX5 v7 q9 [xi l4] rfl lv_X10_151 mo_R_hasRunner (Nat.le_of_ble_eq_true rfl) ⟨(Nat.le_of_ble_eq_true rfl), (Nat.le_of_ble_eq_true rfl)⟩ (Nat.le_of_ble_eq_true rfl) (Nat.le_of_ble_eq_true rfl) dX10_odds_58 (t_R_hasRunner v7 l4 _ _ H) (fun v36 h35 H => ?_)
            refine WP.at 61 rfl ?_
            refine wp_if_ne 67 (by decide) dX10_odds_61 (fun c37 => ?_) (fun c37 => ?_)
            · replace H := H.1 c37
              exact WP.pick [2, 4, 5, 6, 1, 0] rfl (t_T_odds_j67 l0 l2 l3 l4 v3 v7 _ _ H)
            · replace H := H.2 c37
              refine wp_bipush (-3 : Int32) (by decide) dX10_odds_64 ?_
              exact wp_iret trivial dX10_odds_66 H
    · replace H := H.2 c6
      refine wp_bipush (-2 : Int32) (by decide) dX10_odds_21 ?_
      exact wp_iret trivial dX10_odds_23 H
def p_M_suppose_L3 (l0 : xN) (l1 : Int32) (l2 : Int32) (l3 : Int32) (K3_63 : xH → Prop) (Q : xH → Prop) : Nat → Int32 → xH → Prop
  | 0, _, _ => False
  | f + 1, l4, h => (((13 : Int32) ≤ l4 → K3_63 h) ∧ (¬ (13 : Int32) ≤ l4 → (kd l0.1 = (1, 10)) ∧ ((¬ l4 = 0 → ((¬ l4 = l1 → ((¬ l4 = l2 → ((¬ l4 = l3 → (kd (hR h l0 33).1 = (2, 0)) ∧ (vp_in l4 (hS h (hR h l0 33) - 1)) ∧ ∀ h9 : xH, h9 = sI h (hR h l0 33) l4.toNatClampNeg (0 : Int32) → ∀ v11 : Int32, v11 = l4 + (1 : Int32) → (p_M_suppose_L3 l0 l1 l2 l3 K3_63 Q f) v11 h9) ∧ (l4 = l3 → (kd (hR h l0 33).1 = (2, 0)) ∧ (vp_in l4 (hS h (hR h l0 33) - 1)) ∧ ∀ h15 : xH, h15 = sI h (hR h l0 33) l4.toNatClampNeg (3 : Int32) → ∀ v17 : Int32, v17 = l4 + (1 : Int32) → (p_M_suppose_L3 l0 l1 l2 l3 K3_63 Q f) v17 h15))) ∧ (l4 = l2 → (kd (hR h l0 33).1 = (2, 0)) ∧ (vp_in l4 (hS h (hR h l0 33) - 1)) ∧ ∀ h21 : xH, h21 = sI h (hR h l0 33) l4.toNatClampNeg (2 : Int32) → ∀ v23 : Int32, v23 = l4 + (1 : Int32) → (p_M_suppose_L3 l0 l1 l2 l3 K3_63 Q f) v23 h21))) ∧ (l4 = l1 → (kd (hR h l0 33).1 = (2, 0)) ∧ (vp_in l4 (hS h (hR h l0 33) - 1)) ∧ ∀ h27 : xH, h27 = sI h (hR h l0 33) l4.toNatClampNeg (1 : Int32) → ∀ v29 : Int32, v29 = l4 + (1 : Int32) → (p_M_suppose_L3 l0 l1 l2 l3 K3_63 Q f) v29 h27))) ∧ (l4 = 0 → (kd (hR h l0 33).1 = (2, 0)) ∧ (vp_in l4 (hS h (hR h l0 33) - 1)) ∧ ∀ h33 : xH, h33 = sI h (hR h l0 33) l4.toNatClampNeg (0 : Int32) → ∀ v35 : Int32, v35 = l4 + (1 : Int32) → (p_M_suppose_L3 l0 l1 l2 l3 K3_63 Q f) v35 h33))))
set_option maxRecDepth 100000 in
set_option maxHeartbeats 4000000 in
theorem t_M_suppose_L3 (l0 : xN) (l1 : Int32) (l2 : Int32) (l3 : Int32) (K3_63 : xH → Prop) (Q : xH → Prop) (hK3_63 : ∀ (h : xH), K3_63 h → WP M_M_suppose 63 [] [] h 0 (qv Q)) : ∀ (f : Nat) (l4 : Int32) (h : xH), p_M_suppose_L3 l0 l1 l2 l3 K3_63 Q f l4 h → WP M_M_suppose 3 [(0, xr l0), (1, xi l1), (2, xi l2), (3, xi l3), (4, xi l4)] [] h 0 (qv Q) := by
  intro f
  induction f with
  | zero => exact fun _ _ H => H.elim
  | succ f hB3 =>
    intro l4 h H
    unfold p_M_suppose_L3 at H
    refine wp_iload rfl dX11_suppose_3 ?_
    refine wp_bipush (13 : Int32) (by decide) dX11_suppose_5 ?_
    refine WP.at 7 rfl ?_
    refine wp_icmp_ge 63 (by decide) dX11_suppose_7 (fun c1 => ?_) (fun c1 => ?_)
    · replace H := H.1 c1
      exact WP.pick [] rfl (hK3_63 _ H)
    · replace H := H.2 c1
      refine wp_aload_n 0 rfl rfl dX11_suppose_10 ?_
      obtain ⟨q2, H⟩ := H
      refine wp_getr coX11 33 (Nat.le_of_ble_eq_true rfl) fl_X11_95 rfl q2 dX11_suppose_11 ?_
      refine wp_iload rfl dX11_suppose_14 ?_
      refine wp_iload rfl dX11_suppose_16 ?_
      refine WP.at 18 rfl ?_
      refine wp_if_ne 25 (by decide) dX11_suppose_18 (fun c3 => ?_) (fun c3 => ?_)
      · replace H := H.1 c3
        refine wp_iload rfl dX11_suppose_25 ?_
        refine wp_iload_n 1 rfl rfl dX11_suppose_27 ?_
        refine WP.at 28 rfl ?_
        refine wp_icmp_ne 35 (by decide) dX11_suppose_28 (fun c4 => ?_) (fun c4 => ?_)
        · replace H := H.1 c4
          refine wp_iload rfl dX11_suppose_35 ?_
          refine wp_iload_n 2 rfl rfl dX11_suppose_37 ?_
          refine WP.at 38 rfl ?_
          refine wp_icmp_ne 45 (by decide) dX11_suppose_38 (fun c5 => ?_) (fun c5 => ?_)
          · replace H := H.1 c5
            refine wp_iload rfl dX11_suppose_45 ?_
            refine wp_iload_n 3 rfl rfl dX11_suppose_47 ?_
            refine WP.at 48 rfl ?_
            refine wp_icmp_ne 55 (by decide) dX11_suppose_48 (fun c6 => ?_) (fun c6 => ?_)
            · replace H := H.1 c6
              refine wp_iconst (0 : Int32) (by decide) dX11_suppose_55 ?_
              obtain ⟨q7, H⟩ := H
              obtain ⟨q8, H⟩ := H
              refine wp_iastore q7 q8 dX11_suppose_56 ?_
              refine wp_nh (fun h9 e10 => ?_)
              replace H := H h9 e10
              refine wp_iincN (1 : Int32) (by decide) rfl (Nat.le_of_ble_eq_true rfl) dX11_suppose_57 (ls' := fun v11 => [(4, xi v11), (0, xr l0), (1, xi l1), (2, xi l2), (3, xi l3)]) (fun _ => rfl) (fun v11 e12 => ?_)
              replace H := H v11 e12
              refine WP.at 60 rfl ?_
              refine wp_goto 3 (by decide) dX11_suppose_60 ?_
              exact WP.pick [1, 2, 3, 4, 0] rfl (hB3 v11 _ H)
            · replace H := H.2 c6
              refine wp_iconst (3 : Int32) (by decide) dX11_suppose_51 ?_
              refine WP.at 52 rfl ?_
              refine wp_goto 56 (by decide) dX11_suppose_52 ?_
              obtain ⟨q13, H⟩ := H
              obtain ⟨q14, H⟩ := H
              refine wp_iastore q13 q14 dX11_suppose_56 ?_
              refine wp_nh (fun h15 e16 => ?_)
              replace H := H h15 e16
              refine wp_iincN (1 : Int32) (by decide) rfl (Nat.le_of_ble_eq_true rfl) dX11_suppose_57 (ls' := fun v17 => [(4, xi v17), (0, xr l0), (1, xi l1), (2, xi l2), (3, xi l3)]) (fun _ => rfl) (fun v17 e18 => ?_)
              replace H := H v17 e18
              refine WP.at 60 rfl ?_
              refine wp_goto 3 (by decide) dX11_suppose_60 ?_
              exact WP.pick [1, 2, 3, 4, 0] rfl (hB3 v17 _ H)
          · replace H := H.2 c5
            refine wp_iconst (2 : Int32) (by decide) dX11_suppose_41 ?_
            refine WP.at 42 rfl ?_
            refine wp_goto 56 (by decide) dX11_suppose_42 ?_
            obtain ⟨q19, H⟩ := H
            obtain ⟨q20, H⟩ := H
            refine wp_iastore q19 q20 dX11_suppose_56 ?_
            refine wp_nh (fun h21 e22 => ?_)
            replace H := H h21 e22
            refine wp_iincN (1 : Int32) (by decide) rfl (Nat.le_of_ble_eq_true rfl) dX11_suppose_57 (ls' := fun v23 => [(4, xi v23), (0, xr l0), (1, xi l1), (2, xi l2), (3, xi l3)]) (fun _ => rfl) (fun v23 e24 => ?_)
            replace H := H v23 e24
            refine WP.at 60 rfl ?_
            refine wp_goto 3 (by decide) dX11_suppose_60 ?_
            exact WP.pick [1, 2, 3, 4, 0] rfl (hB3 v23 _ H)
        · replace H := H.2 c4
          refine wp_iconst (1 : Int32) (by decide) dX11_suppose_31 ?_
          refine WP.at 32 rfl ?_
          refine wp_goto 56 (by decide) dX11_suppose_32 ?_
          obtain ⟨q25, H⟩ := H
          obtain ⟨q26, H⟩ := H
          refine wp_iastore q25 q26 dX11_suppose_56 ?_
          refine wp_nh (fun h27 e28 => ?_)
          replace H := H h27 e28
          refine wp_iincN (1 : Int32) (by decide) rfl (Nat.le_of_ble_eq_true rfl) dX11_suppose_57 (ls' := fun v29 => [(4, xi v29), (0, xr l0), (1, xi l1), (2, xi l2), (3, xi l3)]) (fun _ => rfl) (fun v29 e30 => ?_)
          replace H := H v29 e30
          refine WP.at 60 rfl ?_
          refine wp_goto 3 (by decide) dX11_suppose_60 ?_
          exact WP.pick [1, 2, 3, 4, 0] rfl (hB3 v29 _ H)
      · replace H := H.2 c3
        refine wp_iconst (0 : Int32) (by decide) dX11_suppose_21 ?_
        refine WP.at 22 rfl ?_
        refine wp_goto 56 (by decide) dX11_suppose_22 ?_
        obtain ⟨q31, H⟩ := H
        obtain ⟨q32, H⟩ := H
        refine wp_iastore q31 q32 dX11_suppose_56 ?_
        refine wp_nh (fun h33 e34 => ?_)
        replace H := H h33 e34
        refine wp_iincN (1 : Int32) (by decide) rfl (Nat.le_of_ble_eq_true rfl) dX11_suppose_57 (ls' := fun v35 => [(4, xi v35), (0, xr l0), (1, xi l1), (2, xi l2), (3, xi l3)]) (fun _ => rfl) (fun v35 e36 => ?_)
        replace H := H v35 e36
        refine WP.at 60 rfl ?_
        refine wp_goto 3 (by decide) dX11_suppose_60 ?_
        exact WP.pick [1, 2, 3, 4, 0] rfl (hB3 v35 _ H)
def p_M_suppose (l0 : xN) (l1 : Int32) (l2 : Int32) (l3 : Int32) (h : xH) (Q : xH → Prop) : Prop := (∃ f38, p_M_suppose_L3 l0 l1 l2 l3 (fun (h37 : xH) => Q h37) Q f38 (0 : Int32) h)
set_option maxRecDepth 100000 in
set_option maxHeartbeats 4000000 in
theorem t_M_suppose (l0 : xN) (l1 : Int32) (l2 : Int32) (l3 : Int32) (h : xH) (Q : xH → Prop) (H : p_M_suppose l0 l1 l2 l3 h Q) : WP M_M_suppose 0 [(0, xr l0), (1, xi l1), (2, xi l2), (3, xi l3)] [] h 0 (qv Q) := by
  unfold p_M_suppose at H
  refine wp_iconst (0 : Int32) (by decide) dX11_suppose_0 ?_
  refine wp_istore (Nat.le_of_ble_eq_true rfl) dX11_suppose_1 (ls' := [(4, xi (0 : Int32)), (0, xr l0), (1, xi l1), (2, xi l2), (3, xi l3)]) rfl ?_
  refine WP.at 3 rfl ?_
  obtain ⟨f38, H⟩ := H
  refine WP.pick [1, 2, 3, 4, 0] rfl (t_M_suppose_L3 l0 l1 l2 l3 _ Q ?_ f38 (0 : Int32) _ H)
  · intro h37 H
    exact wp_vret trivial dX11_suppose_63 H
def p_M_odds_L232 (l0 : xN) (l8 : Int32) (l9 : Int32) (l10 : Int32) (K232_298 : xH → Prop) (Q : Int32 → xH → Prop) : Nat → Int32 → xH → Prop
  | 0, _, _ => False
  | f + 1, l11, h => (kd l0.1 = (1, 10)) ∧ (((hI h l0 35) ≤ l11 → K232_298 h) ∧ (¬ (hI h l0 35) ≤ l11 → (((hI h l0 41) ≤ 0 → K232_298 h) ∧ (¬ (hI h l0 41) ≤ 0 → (kd (hR h l0 36).1 = (2, 0)) ∧ (vp_in l11 (hS h (hR h l0 36) - 1)) ∧ ((¬ (hI h (hR h l0 36) l11.toNatClampNeg) = l8 → ∀ v49 : Int32, v49 = l11 + (1 : Int32) → (p_M_odds_L232 l0 l8 l9 l10 K232_298 Q f) v49 h) ∧ ((hI h (hR h l0 36) l11.toNatClampNeg) = l8 → (kd (hR h l0 37).1 = (2, 0)) ∧ (vp_in l11 (hS h (hR h l0 37) - 1)) ∧ ((¬ (hI h (hR h l0 37) l11.toNatClampNeg) = l9 → ∀ v54 : Int32, v54 = l11 + (1 : Int32) → (p_M_odds_L232 l0 l8 l9 l10 K232_298 Q f) v54 h) ∧ ((hI h (hR h l0 37) l11.toNatClampNeg) = l9 → (kd (hR h l0 38).1 = (2, 0)) ∧ (vp_in l11 (hS h (hR h l0 38) - 1)) ∧ ((¬ (hI h (hR h l0 38) l11.toNatClampNeg) = l10 → ∀ v59 : Int32, v59 = l11 + (1 : Int32) → (p_M_odds_L232 l0 l8 l9 l10 K232_298 Q f) v59 h) ∧ ((hI h (hR h l0 38) l11.toNatClampNeg) = l10 → (kd (hR h l0 40).1 = (2, 0)) ∧ (vp_in l11 (hS h (hR h l0 40) - 1)) ∧ Q (hI h (hR h l0 40) l11.toNatClampNeg) h))))))))))
set_option maxRecDepth 100000 in
set_option maxHeartbeats 4000000 in
theorem t_M_odds_L232 (l0 : xN) (l8 : Int32) (l9 : Int32) (l10 : Int32) (K232_298 : xH → Prop) (Q : Int32 → xH → Prop) (hK232_298 : ∀ (h : xH), K232_298 h → WP M_M_odds 298 [] [] h 0 (qi Q)) : ∀ (f : Nat) (l11 : Int32) (h : xH), p_M_odds_L232 l0 l8 l9 l10 K232_298 Q f l11 h → WP M_M_odds 232 [(0, xr l0), (8, xi l8), (9, xi l9), (10, xi l10), (11, xi l11)] [] h 0 (qi Q) := by
  intro f
  induction f with
  | zero => exact fun _ _ H => H.elim
  | succ f hB232 =>
    intro l11 h H
    unfold p_M_odds_L232 at H
    refine wp_iload rfl dX11_odds_232 ?_
    refine wp_aload_n 0 rfl rfl dX11_odds_234 ?_
    obtain ⟨q43, H⟩ := H
    refine wp_geti coX11 35 (Nat.le_of_ble_eq_true rfl) fl_X11_215 rfl q43 dX11_odds_235 ?_
    refine WP.at 238 rfl ?_
    refine wp_icmp_ge 298 (by decide) dX11_odds_238 (fun c44 => ?_) (fun c44 => ?_)
    · replace H := H.1 c44
      exact WP.pick [] rfl (hK232_298 _ H)
    · replace H := H.2 c44
      refine wp_aload_n 0 rfl rfl dX11_odds_241 ?_
      refine wp_geti coX11 41 (Nat.le_of_ble_eq_true rfl) fl_X11_225 rfl q43 dX11_odds_242 ?_
      refine WP.at 245 rfl ?_
      refine wp_if_le 298 (by decide) dX11_odds_245 (fun c45 => ?_) (fun c45 => ?_)
      · replace H := H.1 c45
        exact WP.pick [] rfl (hK232_298 _ H)
      · replace H := H.2 c45
        refine wp_aload_n 0 rfl rfl dX11_odds_248 ?_
        refine wp_getr coX11 36 (Nat.le_of_ble_eq_true rfl) fl_X11_101 rfl q43 dX11_odds_249 ?_
        refine wp_iload rfl dX11_odds_252 ?_
        obtain ⟨q46, H⟩ := H
        obtain ⟨q47, H⟩ := H
        refine wp_iaload q46 q47 dX11_odds_254 ?_
        refine wp_iload rfl dX11_odds_255 ?_
        refine WP.at 257 rfl ?_
        refine wp_icmp_ne 292 (by decide) dX11_odds_257 (fun c48 => ?_) (fun c48 => ?_)
        · replace H := H.1 c48
          refine wp_iincN (1 : Int32) (by decide) rfl (Nat.le_of_ble_eq_true rfl) dX11_odds_292 (ls' := fun v49 => [(11, xi v49), (0, xr l0), (8, xi l8), (9, xi l9), (10, xi l10)]) (fun _ => rfl) (fun v49 e50 => ?_)
          replace H := H v49 e50
          refine WP.at 295 rfl ?_
          refine wp_goto 232 (by decide) dX11_odds_295 ?_
          exact WP.pick [1, 2, 3, 4, 0] rfl (hB232 v49 _ H)
        · replace H := H.2 c48
          refine wp_aload_n 0 rfl rfl dX11_odds_260 ?_
          refine wp_getr coX11 37 (Nat.le_of_ble_eq_true rfl) fl_X11_104 rfl q43 dX11_odds_261 ?_
          refine wp_iload rfl dX11_odds_264 ?_
          obtain ⟨q51, H⟩ := H
          obtain ⟨q52, H⟩ := H
          refine wp_iaload q51 q52 dX11_odds_266 ?_
          refine wp_iload rfl dX11_odds_267 ?_
          refine WP.at 269 rfl ?_
          refine wp_icmp_ne 292 (by decide) dX11_odds_269 (fun c53 => ?_) (fun c53 => ?_)
          · replace H := H.1 c53
            refine wp_iincN (1 : Int32) (by decide) rfl (Nat.le_of_ble_eq_true rfl) dX11_odds_292 (ls' := fun v54 => [(11, xi v54), (0, xr l0), (8, xi l8), (9, xi l9), (10, xi l10)]) (fun _ => rfl) (fun v54 e55 => ?_)
            replace H := H v54 e55
            refine WP.at 295 rfl ?_
            refine wp_goto 232 (by decide) dX11_odds_295 ?_
            exact WP.pick [1, 2, 3, 4, 0] rfl (hB232 v54 _ H)
          · replace H := H.2 c53
            refine wp_aload_n 0 rfl rfl dX11_odds_272 ?_
            refine wp_getr coX11 38 (Nat.le_of_ble_eq_true rfl) fl_X11_107 rfl q43 dX11_odds_273 ?_
            refine wp_iload rfl dX11_odds_276 ?_
            obtain ⟨q56, H⟩ := H
            obtain ⟨q57, H⟩ := H
            refine wp_iaload q56 q57 dX11_odds_278 ?_
            refine wp_iload rfl dX11_odds_279 ?_
            refine WP.at 281 rfl ?_
            refine wp_icmp_ne 292 (by decide) dX11_odds_281 (fun c58 => ?_) (fun c58 => ?_)
            · replace H := H.1 c58
              refine wp_iincN (1 : Int32) (by decide) rfl (Nat.le_of_ble_eq_true rfl) dX11_odds_292 (ls' := fun v59 => [(11, xi v59), (0, xr l0), (8, xi l8), (9, xi l9), (10, xi l10)]) (fun _ => rfl) (fun v59 e60 => ?_)
              replace H := H v59 e60
              refine WP.at 295 rfl ?_
              refine wp_goto 232 (by decide) dX11_odds_295 ?_
              exact WP.pick [1, 2, 3, 4, 0] rfl (hB232 v59 _ H)
            · replace H := H.2 c58
              refine wp_aload_n 0 rfl rfl dX11_odds_284 ?_
              refine wp_getr coX11 40 (Nat.le_of_ble_eq_true rfl) fl_X11_113 rfl q43 dX11_odds_285 ?_
              refine wp_iload rfl dX11_odds_288 ?_
              obtain ⟨q61, H⟩ := H
              obtain ⟨q62, H⟩ := H
              refine wp_iaload q61 q62 dX11_odds_290 ?_
              exact wp_iret trivial dX11_odds_291 H
def p_M_odds_j213 (s0 : Int32) (l0 : xN) (l4 : Int32) (l6 : Int32) (l8 : Int32) (h : xH) (Q : Int32 → xH → Prop) : Prop := ((¬ l6 = (3 : Int32) → (∃ f64, p_M_odds_L232 l0 l8 s0 (0 : Int32) (fun (h63 : xH) => Q (0 : Int32) h63) Q f64 (0 : Int32) h)) ∧ (l6 = (3 : Int32) → (∃ f66, p_M_odds_L232 l0 l8 s0 l4 (fun (h65 : xH) => Q (0 : Int32) h65) Q f66 (0 : Int32) h)))
set_option maxRecDepth 100000 in
set_option maxHeartbeats 4000000 in
theorem t_M_odds_j213 (s0 : Int32) (l0 : xN) (l4 : Int32) (l6 : Int32) (l8 : Int32) (h : xH) (Q : Int32 → xH → Prop) (H : p_M_odds_j213 s0 l0 l4 l6 l8 h Q) : WP M_M_odds 213 [(0, xr l0), (4, xi l4), (6, xi l6), (8, xi l8)] [xi s0] h 0 (qi Q) := by
  unfold p_M_odds_j213 at H
  refine wp_istore (Nat.le_of_ble_eq_true rfl) dX11_odds_213 (ls' := [(9, xi s0), (0, xr l0), (4, xi l4), (6, xi l6), (8, xi l8)]) rfl ?_
  refine wp_iload rfl dX11_odds_215 ?_
  refine wp_iconst (3 : Int32) (by decide) dX11_odds_217 ?_
  refine WP.at 218 rfl ?_
  refine wp_icmp_ne 226 (by decide) dX11_odds_218 (fun c42 => ?_) (fun c42 => ?_)
  · replace H := H.1 c42
    refine wp_iconst (0 : Int32) (by decide) dX11_odds_226 ?_
    refine wp_istore (Nat.le_of_ble_eq_true rfl) dX11_odds_227 (ls' := [(10, xi (0 : Int32)), (9, xi s0), (0, xr l0), (4, xi l4), (6, xi l6), (8, xi l8)]) rfl ?_
    refine wp_iconst (0 : Int32) (by decide) dX11_odds_229 ?_
    refine wp_istore (Nat.le_of_ble_eq_true rfl) dX11_odds_230 (ls' := [(11, xi (0 : Int32)), (10, xi (0 : Int32)), (9, xi s0), (0, xr l0), (4, xi l4), (6, xi l6), (8, xi l8)]) rfl ?_
    refine WP.at 232 rfl ?_
    obtain ⟨f64, H⟩ := H
    refine WP.pick [3, 6, 2, 1, 0] rfl (t_M_odds_L232 l0 l8 s0 (0 : Int32) _ Q ?_ f64 (0 : Int32) _ H)
    · intro h63 H
      refine wp_iconst (0 : Int32) (by decide) dX11_odds_298 ?_
      exact wp_iret trivial dX11_odds_299 H
  · replace H := H.2 c42
    refine wp_iload rfl dX11_odds_221 ?_
    refine WP.at 223 rfl ?_
    refine wp_goto 227 (by decide) dX11_odds_223 ?_
    refine wp_istore (Nat.le_of_ble_eq_true rfl) dX11_odds_227 (ls' := [(10, xi l4), (9, xi s0), (0, xr l0), (4, xi l4), (6, xi l6), (8, xi l8)]) rfl ?_
    refine wp_iconst (0 : Int32) (by decide) dX11_odds_229 ?_
    refine wp_istore (Nat.le_of_ble_eq_true rfl) dX11_odds_230 (ls' := [(11, xi (0 : Int32)), (10, xi l4), (9, xi s0), (0, xr l0), (4, xi l4), (6, xi l6), (8, xi l8)]) rfl ?_
    refine WP.at 232 rfl ?_
    obtain ⟨f66, H⟩ := H
    refine WP.pick [3, 6, 2, 1, 0] rfl (t_M_odds_L232 l0 l8 s0 l4 _ Q ?_ f66 (0 : Int32) _ H)
    · intro h65 H
      refine wp_iconst (0 : Int32) (by decide) dX11_odds_298 ?_
      exact wp_iret trivial dX11_odds_299 H
def p_M_odds_j191 (s0 : Int32) (l0 : xN) (l2 : Int32) (l3 : Int32) (l4 : Int32) (l6 : Int32) (l7 : Int32) (h : xH) (Q : Int32 → xH → Prop) : Prop := (((2 : Int32) ≤ l6 → ((l7 = 0 → p_M_odds_j213 l3 l0 l4 l6 s0 h Q) ∧ (¬ l7 = 0 → p_M_odds_j213 l2 l0 l4 l6 s0 h Q))) ∧ (¬ (2 : Int32) ≤ l6 → p_M_odds_j213 (0 : Int32) l0 l4 l6 s0 h Q))
set_option maxRecDepth 100000 in
set_option maxHeartbeats 4000000 in
theorem t_M_odds_j191 (s0 : Int32) (l0 : xN) (l2 : Int32) (l3 : Int32) (l4 : Int32) (l6 : Int32) (l7 : Int32) (h : xH) (Q : Int32 → xH → Prop) (H : p_M_odds_j191 s0 l0 l2 l3 l4 l6 l7 h Q) : WP M_M_odds 191 [(0, xr l0), (2, xi l2), (3, xi l3), (4, xi l4), (6, xi l6), (7, xi l7)] [xi s0] h 0 (qi Q) := by
  unfold p_M_odds_j191 at H
  refine wp_istore (Nat.le_of_ble_eq_true rfl) dX11_odds_191 (ls' := [(8, xi s0), (0, xr l0), (2, xi l2), (3, xi l3), (4, xi l4), (6, xi l6), (7, xi l7)]) rfl ?_
  refine wp_iload rfl dX11_odds_193 ?_
  refine wp_iconst (2 : Int32) (by decide) dX11_odds_195 ?_
  refine WP.at 196 rfl ?_
  refine wp_icmp_ge 203 (by decide) dX11_odds_196 (fun c40 => ?_) (fun c40 => ?_)
  · replace H := H.1 c40
    refine wp_iload rfl dX11_odds_203 ?_
    refine WP.at 205 rfl ?_
    refine wp_if_eq 212 (by decide) dX11_odds_205 (fun c41 => ?_) (fun c41 => ?_)
    · replace H := H.1 c41
      refine wp_iload_n 3 rfl rfl dX11_odds_212 ?_
      refine WP.at 213 rfl ?_
      exact WP.pick [1, 4, 5, 0] rfl (t_M_odds_j213 l3 l0 l4 l6 s0 _ _ H)
    · replace H := H.2 c41
      refine wp_iload_n 2 rfl rfl dX11_odds_208 ?_
      refine WP.at 209 rfl ?_
      refine wp_goto 213 (by decide) dX11_odds_209 ?_
      exact WP.pick [1, 4, 5, 0] rfl (t_M_odds_j213 l2 l0 l4 l6 s0 _ _ H)
  · replace H := H.2 c40
    refine wp_iconst (0 : Int32) (by decide) dX11_odds_199 ?_
    refine WP.at 200 rfl ?_
    refine wp_goto 213 (by decide) dX11_odds_200 ?_
    exact WP.pick [1, 4, 5, 0] rfl (t_M_odds_j213 (0 : Int32) l0 l4 l6 s0 _ _ H)
def p_M_odds_j179 (s0 : Int32) (l0 : xN) (l2 : Int32) (l3 : Int32) (l4 : Int32) (l6 : Int32) (h : xH) (Q : Int32 → xH → Prop) : Prop := ((s0 = 0 → p_M_odds_j191 l2 l0 l2 l3 l4 l6 s0 h Q) ∧ (¬ s0 = 0 → p_M_odds_j191 l3 l0 l2 l3 l4 l6 s0 h Q))
set_option maxRecDepth 100000 in
set_option maxHeartbeats 4000000 in
theorem t_M_odds_j179 (s0 : Int32) (l0 : xN) (l2 : Int32) (l3 : Int32) (l4 : Int32) (l6 : Int32) (h : xH) (Q : Int32 → xH → Prop) (H : p_M_odds_j179 s0 l0 l2 l3 l4 l6 h Q) : WP M_M_odds 179 [(0, xr l0), (2, xi l2), (3, xi l3), (4, xi l4), (6, xi l6)] [xi s0] h 0 (qi Q) := by
  unfold p_M_odds_j179 at H
  refine wp_istore (Nat.le_of_ble_eq_true rfl) dX11_odds_179 (ls' := [(7, xi s0), (0, xr l0), (2, xi l2), (3, xi l3), (4, xi l4), (6, xi l6)]) rfl ?_
  refine wp_iload rfl dX11_odds_181 ?_
  refine WP.at 183 rfl ?_
  refine wp_if_eq 190 (by decide) dX11_odds_183 (fun c39 => ?_) (fun c39 => ?_)
  · replace H := H.1 c39
    refine wp_iload_n 2 rfl rfl dX11_odds_190 ?_
    refine WP.at 191 rfl ?_
    exact WP.pick [1, 2, 3, 4, 5, 0] rfl (t_M_odds_j191 l2 l0 l2 l3 l4 l6 s0 _ _ H)
  · replace H := H.2 c39
    refine wp_iload_n 3 rfl rfl dX11_odds_186 ?_
    refine WP.at 187 rfl ?_
    refine wp_goto 191 (by decide) dX11_odds_187 ?_
    exact WP.pick [1, 2, 3, 4, 5, 0] rfl (t_M_odds_j191 l3 l0 l2 l3 l4 l6 s0 _ _ H)
def p_M_odds_j61 (l0 : xN) (l1 : Int32) (l2 : Int32) (l3 : Int32) (l4 : Int32) (l5 : Int32) (h : xH) (Q : Int32 → xH → Prop) : Prop := ((l2 = l3 → Q (-4 : Int32) h) ∧ (¬ l2 = l3 → ((l2 = l4 → Q (-4 : Int32) h) ∧ (¬ l2 = l4 → ((¬ l3 = l4 → (kd l0.1 = (1, 10)) ∧ p_M_isGone l0 l5 l2 h (fun (v20 : Int32) (h19 : xH) => ((¬ v20 = 0 → Q (-5 : Int32) h19) ∧ (v20 = 0 → p_M_isGone l0 l5 l3 h19 (fun (v23 : Int32) (h22 : xH) => ((¬ v23 = 0 → Q (-5 : Int32) h22) ∧ (v23 = 0 → p_M_isGone l0 l5 l4 h22 (fun (v26 : Int32) (h25 : xH) => ((v26 = 0 → (kd (hR h25 l0 1).1 = (2, 0)) ∧ (vp_in l5 (hS h25 (hR h25 l0 1) - 1)) ∧ ((¬ (hI h25 (hR h25 l0 1) l5.toNatClampNeg) = (2 : Int32) → p_M_suppose l0 l2 l3 l4 h25 (fun h31 : xH => ∀ h32 : xH, h32 = sI h31 l0 35 (0 : Int32) → p_M_group l0 l1 h32 (fun h34 : xH => p_M_figure l0 l1 (0 : Int32) (hI h34 l0 35) h34 (fun h35 : xH => p_M_kindOf l1 h35 (fun (v37 : Int32) (h36 : xH) => ((¬ v37 = (2 : Int32) → p_M_odds_j179 (0 : Int32) l0 l2 l3 l4 v37 h36 Q) ∧ (v37 = (2 : Int32) → ((l2 ≤ l3 → p_M_odds_j179 (0 : Int32) l0 l2 l3 l4 v37 h36 Q) ∧ (¬ l2 ≤ l3 → p_M_odds_j179 (1 : Int32) l0 l2 l3 l4 v37 h36 Q))))))))) ∧ ((hI h25 (hR h25 l0 1) l5.toNatClampNeg) = (2 : Int32) → Q (-6 : Int32) h25))) ∧ (¬ v26 = 0 → Q (-5 : Int32) h25)))))))))) ∧ (l3 = l4 → Q (-4 : Int32) h))))))
set_option maxRecDepth 100000 in
set_option maxHeartbeats 4000000 in
theorem t_M_odds_j61 (l0 : xN) (l1 : Int32) (l2 : Int32) (l3 : Int32) (l4 : Int32) (l5 : Int32) (h : xH) (Q : Int32 → xH → Prop) (H : p_M_odds_j61 l0 l1 l2 l3 l4 l5 h Q) : WP M_M_odds 61 [(0, xr l0), (1, xi l1), (2, xi l2), (3, xi l3), (4, xi l4), (5, xi l5)] [] h 0 (qi Q) := by
  unfold p_M_odds_j61 at H
  refine wp_iload_n 2 rfl rfl dX11_odds_61 ?_
  refine wp_iload_n 3 rfl rfl dX11_odds_62 ?_
  refine WP.at 63 rfl ?_
  refine wp_icmp_eq 78 (by decide) dX11_odds_63 (fun c15 => ?_) (fun c15 => ?_)
  · replace H := H.1 c15
    refine wp_bipush (-4 : Int32) (by decide) dX11_odds_78 ?_
    exact wp_iret trivial dX11_odds_80 H
  · replace H := H.2 c15
    refine wp_iload_n 2 rfl rfl dX11_odds_66 ?_
    refine wp_iload rfl dX11_odds_67 ?_
    refine WP.at 69 rfl ?_
    refine wp_icmp_eq 78 (by decide) dX11_odds_69 (fun c16 => ?_) (fun c16 => ?_)
    · replace H := H.1 c16
      refine wp_bipush (-4 : Int32) (by decide) dX11_odds_78 ?_
      exact wp_iret trivial dX11_odds_80 H
    · replace H := H.2 c16
      refine wp_iload_n 3 rfl rfl dX11_odds_72 ?_
      refine wp_iload rfl dX11_odds_73 ?_
      refine WP.at 75 rfl ?_
      refine wp_icmp_ne 81 (by decide) dX11_odds_75 (fun c17 => ?_) (fun c17 => ?_)
      · replace H := H.1 c17
        refine wp_aload_n 0 rfl rfl dX11_odds_81 ?_
        refine wp_iload rfl dX11_odds_82 ?_
        refine wp_iload_n 2 rfl rfl dX11_odds_84 ?_
        refine WP.at 85 rfl ?_
        obtain ⟨q18, H⟩ := H
        refine wp_cVi (M2 := M_M_isGone) coX11 l0 q18 [xi l5, xi l2] rfl lv_X11_288 mo_M_isGone (Nat.le_of_ble_eq_true rfl) ⟨(Nat.le_of_ble_eq_true rfl), (Nat.le_of_ble_eq_true rfl)⟩ (Nat.le_of_ble_eq_true rfl) (Nat.le_of_ble_eq_true rfl) dX11_odds_85 (t_M_isGone l0 l5 l2 _ _ H) (fun v20 h19 H => ?_)
        refine WP.at 88 rfl ?_
        refine wp_if_ne 112 (by decide) dX11_odds_88 (fun c21 => ?_) (fun c21 => ?_)
        · replace H := H.1 c21
          refine wp_bipush (-5 : Int32) (by decide) dX11_odds_112 ?_
          exact wp_iret trivial dX11_odds_114 H
        · replace H := H.2 c21
          refine wp_aload_n 0 rfl rfl dX11_odds_91 ?_
          refine wp_iload rfl dX11_odds_92 ?_
          refine wp_iload_n 3 rfl rfl dX11_odds_94 ?_
          refine WP.at 95 rfl ?_
          refine wp_cVi (M2 := M_M_isGone) coX11 l0 q18 [xi l5, xi l3] rfl lv_X11_288 mo_M_isGone (Nat.le_of_ble_eq_true rfl) ⟨(Nat.le_of_ble_eq_true rfl), (Nat.le_of_ble_eq_true rfl)⟩ (Nat.le_of_ble_eq_true rfl) (Nat.le_of_ble_eq_true rfl) dX11_odds_95 (t_M_isGone l0 l5 l3 _ _ H) (fun v23 h22 H => ?_)
          refine WP.at 98 rfl ?_
          refine wp_if_ne 112 (by decide) dX11_odds_98 (fun c24 => ?_) (fun c24 => ?_)
          · replace H := H.1 c24
            refine wp_bipush (-5 : Int32) (by decide) dX11_odds_112 ?_
            exact wp_iret trivial dX11_odds_114 H
          · replace H := H.2 c24
            refine wp_aload_n 0 rfl rfl dX11_odds_101 ?_
            refine wp_iload rfl dX11_odds_102 ?_
            refine wp_iload rfl dX11_odds_104 ?_
            refine WP.at 106 rfl ?_
            refine wp_cVi (M2 := M_M_isGone) coX11 l0 q18 [xi l5, xi l4] rfl lv_X11_288 mo_M_isGone (Nat.le_of_ble_eq_true rfl) ⟨(Nat.le_of_ble_eq_true rfl), (Nat.le_of_ble_eq_true rfl)⟩ (Nat.le_of_ble_eq_true rfl) (Nat.le_of_ble_eq_true rfl) dX11_odds_106 (t_M_isGone l0 l5 l4 _ _ H) (fun v26 h25 H => ?_)
            refine WP.at 109 rfl ?_
            refine wp_if_eq 115 (by decide) dX11_odds_109 (fun c27 => ?_) (fun c27 => ?_)
            · replace H := H.1 c27
              refine wp_aload_n 0 rfl rfl dX11_odds_115 ?_
              refine wp_getr coX11 1 (Nat.le_of_ble_eq_true rfl) fl_X11_7 rfl q18 dX11_odds_116 ?_
              refine wp_iload rfl dX11_odds_119 ?_
              obtain ⟨q28, H⟩ := H
              obtain ⟨q29, H⟩ := H
              refine wp_iaload q28 q29 dX11_odds_121 ?_
              refine wp_iconst (2 : Int32) (by decide) dX11_odds_122 ?_
              refine WP.at 123 rfl ?_
              refine wp_icmp_ne 129 (by decide) dX11_odds_123 (fun c30 => ?_) (fun c30 => ?_)
              · replace H := H.1 c30
                refine wp_aload_n 0 rfl rfl dX11_odds_129 ?_
                refine wp_iload_n 2 rfl rfl dX11_odds_130 ?_
                refine wp_iload_n 3 rfl rfl dX11_odds_131 ?_
                refine wp_iload rfl dX11_odds_132 ?_
                refine WP.at 134 rfl ?_
                refine wp_cVv (M2 := M_M_suppose) coX11 l0 q18 [xi l2, xi l3, xi l4] rfl lv_X11_307 mo_M_suppose (Nat.le_of_ble_eq_true rfl) ⟨(Nat.le_of_ble_eq_true rfl), (Nat.le_of_ble_eq_true rfl)⟩ (Nat.le_of_ble_eq_true rfl) (Nat.le_of_ble_eq_true rfl) dX11_odds_134 (t_M_suppose l0 l2 l3 l4 _ _ H) (fun h31 H => ?_)
                refine wp_aload_n 0 rfl rfl dX11_odds_137 ?_
                refine wp_iconst (0 : Int32) (by decide) dX11_odds_138 ?_
                refine WP.at 139 rfl ?_
                refine wp_puti coX11 35 (Nat.le_of_ble_eq_true rfl) fl_X11_215 rfl rfl ⟨rfl, rfl⟩ q18 dX11_odds_139 ?_
                refine wp_nh (fun h32 e33 => ?_)
                replace H := H h32 e33
                refine wp_aload_n 0 rfl rfl dX11_odds_142 ?_
                refine wp_iload_n 1 rfl rfl dX11_odds_143 ?_
                refine WP.at 144 rfl ?_
                refine wp_cVv (M2 := M_M_group) coX11 l0 q18 [xi l1] rfl lv_X11_255 mo_M_group (Nat.le_of_ble_eq_true rfl) ⟨(Nat.le_of_ble_eq_true rfl), (Nat.le_of_ble_eq_true rfl)⟩ (Nat.le_of_ble_eq_true rfl) (Nat.le_of_ble_eq_true rfl) dX11_odds_144 (t_M_group l0 l1 _ _ H) (fun h34 H => ?_)
                refine wp_aload_n 0 rfl rfl dX11_odds_147 ?_
                refine wp_iload_n 1 rfl rfl dX11_odds_148 ?_
                refine wp_iconst (0 : Int32) (by decide) dX11_odds_149 ?_
                refine wp_aload_n 0 rfl rfl dX11_odds_150 ?_
                refine WP.at 151 rfl ?_
                refine wp_geti coX11 35 (Nat.le_of_ble_eq_true rfl) fl_X11_215 rfl q18 dX11_odds_151 ?_
                refine WP.at 154 rfl ?_
                refine wp_cVv (M2 := M_M_figure) coX11 l0 q18 [xi l1, xi (0 : Int32), xi (hI h34 l0 35)] rfl lv_X11_258 mo_M_figure (Nat.le_of_ble_eq_true rfl) ⟨(Nat.le_of_ble_eq_true rfl), (Nat.le_of_ble_eq_true rfl)⟩ (Nat.le_of_ble_eq_true rfl) (Nat.le_of_ble_eq_true rfl) dX11_odds_154 (t_M_figure l0 l1 (0 : Int32) (hI h34 l0 35) _ _ H) (fun h35 H => ?_)
                refine wp_iload_n 1 rfl rfl dX11_odds_157 ?_
                refine WP.at 158 rfl ?_
                refine wp_cSi (M2 := M_M_kindOf) [xi l1] rfl ls_X11_218 mo_M_kindOf (Nat.le_of_ble_eq_true rfl) ⟨(Nat.le_of_ble_eq_true rfl), (Nat.le_of_ble_eq_true rfl)⟩ (Nat.le_of_ble_eq_true rfl) (Nat.le_of_ble_eq_true rfl) dX11_odds_158 (t_M_kindOf l1 _ _ H) (fun v37 h36 H => ?_)
                refine wp_istore (Nat.le_of_ble_eq_true rfl) dX11_odds_161 (ls' := [(6, xi v37), (0, xr l0), (1, xi l1), (2, xi l2), (3, xi l3), (4, xi l4), (5, xi l5)]) rfl ?_
                refine wp_iload rfl dX11_odds_163 ?_
                refine wp_iconst (2 : Int32) (by decide) dX11_odds_165 ?_
                refine WP.at 166 rfl ?_
                refine wp_icmp_ne 178 (by decide) dX11_odds_166 (fun c38 => ?_) (fun c38 => ?_)
                · replace H := H.1 c38
                  refine wp_iconst (0 : Int32) (by decide) dX11_odds_178 ?_
                  refine WP.at 179 rfl ?_
                  exact WP.pick [1, 3, 4, 5, 0] rfl (t_M_odds_j179 (0 : Int32) l0 l2 l3 l4 v37 _ _ H)
                · replace H := H.2 c38
                  refine wp_iload_n 3 rfl rfl dX11_odds_169 ?_
                  refine wp_iload_n 2 rfl rfl dX11_odds_170 ?_
                  refine WP.at 171 rfl ?_
                  refine wp_icmp_ge 178 (by decide) dX11_odds_171 (fun c67 => ?_) (fun c67 => ?_)
                  · replace H := H.1 c67
                    refine wp_iconst (0 : Int32) (by decide) dX11_odds_178 ?_
                    refine WP.at 179 rfl ?_
                    exact WP.pick [1, 3, 4, 5, 0] rfl (t_M_odds_j179 (0 : Int32) l0 l2 l3 l4 v37 _ _ H)
                  · replace H := H.2 c67
                    refine wp_iconst (1 : Int32) (by decide) dX11_odds_174 ?_
                    refine WP.at 175 rfl ?_
                    refine wp_goto 179 (by decide) dX11_odds_175 ?_
                    exact WP.pick [1, 3, 4, 5, 0] rfl (t_M_odds_j179 (1 : Int32) l0 l2 l3 l4 v37 _ _ H)
              · replace H := H.2 c30
                refine wp_bipush (-6 : Int32) (by decide) dX11_odds_126 ?_
                exact wp_iret trivial dX11_odds_128 H
            · replace H := H.2 c27
              refine wp_bipush (-5 : Int32) (by decide) dX11_odds_112 ?_
              exact wp_iret trivial dX11_odds_114 H
      · replace H := H.2 c17
        refine wp_bipush (-4 : Int32) (by decide) dX11_odds_78 ?_
        exact wp_iret trivial dX11_odds_80 H
def p_M_odds (l0 : xN) (l1 : Int32) (l2 : Int32) (l3 : Int32) (l4 : Int32) (h : xH) (Q : Int32 → xH → Prop) : Prop := (kd l0.1 = (1, 10)) ∧ p_M_isThere l0 l1 h (fun (v3 : Int32) (h2 : xH) => ((v3 = 0 → Q (-2 : Int32) h2) ∧ (¬ v3 = 0 → ((¬ l1 = (48 : Int32) → ∀ v6 : Int32, v6 = l1 / (4 : Int32) → p_M_isRunner l0 v6 l2 h2 (fun (v9 : Int32) (h8 : xH) => ((v9 = 0 → Q (-3 : Int32) h8) ∧ (¬ v9 = 0 → p_M_isRunner l0 v6 l3 h8 (fun (v12 : Int32) (h11 : xH) => ((v12 = 0 → Q (-3 : Int32) h11) ∧ (¬ v12 = 0 → ((l4 = 0 → p_M_odds_j61 l0 l1 l2 l3 l4 v6 h11 Q) ∧ (¬ l4 = 0 → p_M_isRunner l0 v6 l4 h11 (fun (v69 : Int32) (h68 : xH) => ((¬ v69 = 0 → p_M_odds_j61 l0 l1 l2 l3 l4 v6 h68 Q) ∧ (v69 = 0 → Q (-3 : Int32) h68)))))))))))) ∧ (l1 = (48 : Int32) → Q (-2 : Int32) h2)))))
set_option maxRecDepth 100000 in
set_option maxHeartbeats 4000000 in
theorem t_M_odds (l0 : xN) (l1 : Int32) (l2 : Int32) (l3 : Int32) (l4 : Int32) (h : xH) (Q : Int32 → xH → Prop) (H : p_M_odds l0 l1 l2 l3 l4 h Q) : WP M_M_odds 0 [(0, xr l0), (1, xi l1), (2, xi l2), (3, xi l3), (4, xi l4)] [] h 0 (qi Q) := by
  unfold p_M_odds at H
  refine wp_aload_n 0 rfl rfl dX11_odds_0 ?_
  refine wp_iload_n 1 rfl rfl dX11_odds_1 ?_
  refine WP.at 2 rfl ?_
  obtain ⟨q1, H⟩ := H
  refine wp_cVi (M2 := M_M_isThere) coX11 l0 q1 [xi l1] rfl lv_X11_281 mo_M_isThere (Nat.le_of_ble_eq_true rfl) ⟨(Nat.le_of_ble_eq_true rfl), (Nat.le_of_ble_eq_true rfl)⟩ (Nat.le_of_ble_eq_true rfl) (Nat.le_of_ble_eq_true rfl) dX11_odds_2 (t_M_isThere l0 l1 _ _ H) (fun v3 h2 H => ?_)
  refine WP.at 5 rfl ?_
  refine wp_if_eq 14 (by decide) dX11_odds_5 (fun c4 => ?_) (fun c4 => ?_)
  · replace H := H.1 c4
    refine wp_bipush (-2 : Int32) (by decide) dX11_odds_14 ?_
    exact wp_iret trivial dX11_odds_16 H
  · replace H := H.2 c4
    refine wp_iload_n 1 rfl rfl dX11_odds_8 ?_
    refine wp_bipush (48 : Int32) (by decide) dX11_odds_9 ?_
    refine WP.at 11 rfl ?_
    refine wp_icmp_ne 17 (by decide) dX11_odds_11 (fun c5 => ?_) (fun c5 => ?_)
    · replace H := H.1 c5
      refine wp_iload_n 1 rfl rfl dX11_odds_17 ?_
      refine wp_iconst (4 : Int32) (by decide) dX11_odds_18 ?_
      refine wp_idiv (by decide) dX11_odds_19 ?_
      refine wp_nm (fun v6 e7 => ?_)
      replace H := H v6 e7
      refine wp_istore (Nat.le_of_ble_eq_true rfl) dX11_odds_20 (ls' := [(5, xi v6), (0, xr l0), (1, xi l1), (2, xi l2), (3, xi l3), (4, xi l4)]) rfl ?_
      refine wp_aload_n 0 rfl rfl dX11_odds_22 ?_
      refine wp_iload rfl dX11_odds_23 ?_
      refine wp_iload_n 2 rfl rfl dX11_odds_25 ?_
      refine WP.at 26 rfl ?_
      refine WP.at 26 rfl ?_
      refine wp_cVi (M2 := M_M_isRunner) coX11 l0 q1 [xi v6, xi l2] rfl lv_X11_194 mo_M_isRunner (Nat.le_of_ble_eq_true rfl) ⟨(Nat.le_of_ble_eq_true rfl), (Nat.le_of_ble_eq_true rfl)⟩ (Nat.le_of_ble_eq_true rfl) (Nat.le_of_ble_eq_true rfl) dX11_odds_26 (t_M_isRunner l0 v6 l2 _ _ H) (fun v9 h8 H => ?_)
      refine WP.at 29 rfl ?_
      refine wp_if_eq 58 (by decide) dX11_odds_29 (fun c10 => ?_) (fun c10 => ?_)
      · replace H := H.1 c10
        refine wp_bipush (-3 : Int32) (by decide) dX11_odds_58 ?_
        exact wp_iret trivial dX11_odds_60 H
      · replace H := H.2 c10
        refine wp_aload_n 0 rfl rfl dX11_odds_32 ?_
        refine wp_iload rfl dX11_odds_33 ?_
        refine wp_iload_n 3 rfl rfl dX11_odds_35 ?_
        refine WP.at 36 rfl ?_
        refine wp_cVi (M2 := M_M_isRunner) coX11 l0 q1 [xi v6, xi l3] rfl lv_X11_194 mo_M_isRunner (Nat.le_of_ble_eq_true rfl) ⟨(Nat.le_of_ble_eq_true rfl), (Nat.le_of_ble_eq_true rfl)⟩ (Nat.le_of_ble_eq_true rfl) (Nat.le_of_ble_eq_true rfl) dX11_odds_36 (t_M_isRunner l0 v6 l3 _ _ H) (fun v12 h11 H => ?_)
        refine WP.at 39 rfl ?_
        refine wp_if_eq 58 (by decide) dX11_odds_39 (fun c13 => ?_) (fun c13 => ?_)
        · replace H := H.1 c13
          refine wp_bipush (-3 : Int32) (by decide) dX11_odds_58 ?_
          exact wp_iret trivial dX11_odds_60 H
        · replace H := H.2 c13
          refine wp_iload rfl dX11_odds_42 ?_
          refine WP.at 44 rfl ?_
          refine wp_if_eq 61 (by decide) dX11_odds_44 (fun c14 => ?_) (fun c14 => ?_)
          · replace H := H.1 c14
            exact WP.pick [1, 2, 3, 4, 5, 0] rfl (t_M_odds_j61 l0 l1 l2 l3 l4 v6 _ _ H)
          · replace H := H.2 c14
            refine wp_aload_n 0 rfl rfl dX11_odds_47 ?_
            refine wp_iload rfl dX11_odds_48 ?_
            refine wp_iload rfl dX11_odds_50 ?_
            refine WP.at 52 rfl ?_
            refine wp_cVi (M2 := M_M_isRunner) coX11 l0 q1 [xi v6, xi l4] rfl lv_X11_194 mo_M_isRunner (Nat.le_of_ble_eq_true rfl) ⟨(Nat.le_of_ble_eq_true rfl), (Nat.le_of_ble_eq_true rfl)⟩ (Nat.le_of_ble_eq_true rfl) (Nat.le_of_ble_eq_true rfl) dX11_odds_52 (t_M_isRunner l0 v6 l4 _ _ H) (fun v69 h68 H => ?_)
            refine WP.at 55 rfl ?_
            refine wp_if_ne 61 (by decide) dX11_odds_55 (fun c70 => ?_) (fun c70 => ?_)
            · replace H := H.1 c70
              exact WP.pick [1, 2, 3, 4, 5, 0] rfl (t_M_odds_j61 l0 l1 l2 l3 l4 v6 _ _ H)
            · replace H := H.2 c70
              refine wp_bipush (-3 : Int32) (by decide) dX11_odds_58 ?_
              exact wp_iret trivial dX11_odds_60 H
    · replace H := H.2 c5
      refine wp_bipush (-2 : Int32) (by decide) dX11_odds_14 ?_
      exact wp_iret trivial dX11_odds_16 H
def p_T_book (l0 : xN) (l1 : Int32) (l2 : Int32) (h : xH) (Q : Int32 → xH → Prop) : Prop := (kd l0.1 = (1, 9)) ∧ p_T_findPool l0 l1 h (fun (v3 : xN) (h2 : xH) => ((¬ v3.1 = 0 → ((l2 < 0 → Q (-3 : Int32) h2) ∧ (¬ l2 < 0 → ((l2 < (11 : Int32) → (kd v3.1 = (1, 3)) ∧ (kd (hR h2 v3 8).1 = (2, 0)) ∧ (vp_in l2 (hS h2 (hR h2 v3 8) - 1)) ∧ Q (hI h2 (hR h2 v3 8) l2.toNatClampNeg) h2) ∧ (¬ l2 < (11 : Int32) → Q (-3 : Int32) h2))))) ∧ (v3.1 = 0 → Q (-2 : Int32) h2)))
set_option maxRecDepth 100000 in
set_option maxHeartbeats 4000000 in
theorem t_T_book (l0 : xN) (l1 : Int32) (l2 : Int32) (h : xH) (Q : Int32 → xH → Prop) (H : p_T_book l0 l1 l2 h Q) : WP M_T_book 0 [(0, xr l0), (1, xi l1), (2, xi l2)] [] h 0 (qi Q) := by
  unfold p_T_book at H
  refine wp_aload_n 0 rfl rfl dX10_book_0 ?_
  refine wp_iload_n 1 rfl rfl dX10_book_1 ?_
  refine WP.at 2 rfl ?_
  obtain ⟨q1, H⟩ := H
  refine wp_cVr (M2 := M_T_findPool) coX10 l0 q1 [xi l1] rfl lv_X10_158 mo_T_findPool (Nat.le_of_ble_eq_true rfl) ⟨(Nat.le_of_ble_eq_true rfl), (Nat.le_of_ble_eq_true rfl)⟩ (Nat.le_of_ble_eq_true rfl) (Nat.le_of_ble_eq_true rfl) dX10_book_2 (t_T_findPool l0 l1 _ _ H) (fun v3 h2 H => ?_)
  refine wp_astore_n 3 rfl (Nat.le_of_ble_eq_true rfl) dX10_book_5 (ls' := [(3, xr v3), (0, xr l0), (1, xi l1), (2, xi l2)]) rfl ?_
  refine wp_aload_n 3 rfl rfl dX10_book_6 ?_
  refine WP.at 7 rfl ?_
  refine wp_ifnonnull 13 (by decide) dX10_book_7 (fun c4 => ?_) (fun c4 => ?_)
  · replace H := H.1 c4
    refine wp_iload_n 2 rfl rfl dX10_book_13 ?_
    refine WP.at 14 rfl ?_
    refine wp_if_lt 23 (by decide) dX10_book_14 (fun c5 => ?_) (fun c5 => ?_)
    · replace H := H.1 c5
      refine wp_bipush (-3 : Int32) (by decide) dX10_book_23 ?_
      refine WP.at 25 rfl ?_
      refine wp_goto 34 (by decide) dX10_book_25 ?_
      exact wp_iret trivial dX10_book_34 H
    · replace H := H.2 c5
      refine wp_iload_n 2 rfl rfl dX10_book_17 ?_
      refine wp_bipush (11 : Int32) (by decide) dX10_book_18 ?_
      refine WP.at 20 rfl ?_
      refine wp_icmp_lt 28 (by decide) dX10_book_20 (fun c6 => ?_) (fun c6 => ?_)
      · replace H := H.1 c6
        refine wp_aload_n 3 rfl rfl dX10_book_28 ?_
        obtain ⟨q7, H⟩ := H
        refine wp_getr coX4 8 (Nat.le_of_ble_eq_true rfl) fl_X10_259 rfl q7 dX10_book_29 ?_
        refine wp_iload_n 2 rfl rfl dX10_book_32 ?_
        obtain ⟨q8, H⟩ := H
        obtain ⟨q9, H⟩ := H
        refine wp_iaload q8 q9 dX10_book_33 ?_
        exact wp_iret trivial dX10_book_34 H
      · replace H := H.2 c6
        refine wp_bipush (-3 : Int32) (by decide) dX10_book_23 ?_
        refine WP.at 25 rfl ?_
        refine wp_goto 34 (by decide) dX10_book_25 ?_
        exact wp_iret trivial dX10_book_34 H
  · replace H := H.2 c4
    refine wp_bipush (-2 : Int32) (by decide) dX10_book_10 ?_
    exact wp_iret trivial dX10_book_12 H
def p_M_book (l0 : xN) (l1 : Int32) (l2 : Int32) (h : xH) (Q : Int32 → xH → Prop) : Prop := (kd l0.1 = (1, 10)) ∧ p_M_isThere l0 l1 h (fun (v3 : Int32) (h2 : xH) => ((¬ v3 = 0 → ((l2 = (0 : Int32) → (kd (hR h2 l0 12).1 = (2, 0)) ∧ (vp_in l1 (hS h2 (hR h2 l0 12) - 1)) ∧ Q (hI h2 (hR h2 l0 12) l1.toNatClampNeg) h2) ∧ (l2 = (1 : Int32) → (kd (hR h2 l0 13).1 = (2, 0)) ∧ (vp_in l1 (hS h2 (hR h2 l0 13) - 1)) ∧ Q (hI h2 (hR h2 l0 13) l1.toNatClampNeg) h2) ∧ (l2 = (2 : Int32) → (kd (hR h2 l0 14).1 = (2, 0)) ∧ (vp_in l1 (hS h2 (hR h2 l0 14) - 1)) ∧ Q (hI h2 (hR h2 l0 14) l1.toNatClampNeg) h2) ∧ (l2 = (3 : Int32) → (kd (hR h2 l0 15).1 = (2, 0)) ∧ (vp_in l1 (hS h2 (hR h2 l0 15) - 1)) ∧ Q (hI h2 (hR h2 l0 15) l1.toNatClampNeg) h2) ∧ (l2 = (4 : Int32) → (kd (hR h2 l0 16).1 = (2, 0)) ∧ (vp_in l1 (hS h2 (hR h2 l0 16) - 1)) ∧ Q (hI h2 (hR h2 l0 16) l1.toNatClampNeg) h2) ∧ (l2 = (5 : Int32) → (kd (hR h2 l0 17).1 = (2, 0)) ∧ (vp_in l1 (hS h2 (hR h2 l0 17) - 1)) ∧ Q (hI h2 (hR h2 l0 17) l1.toNatClampNeg) h2) ∧ (l2 = (6 : Int32) → (kd (hR h2 l0 18).1 = (2, 0)) ∧ (vp_in l1 (hS h2 (hR h2 l0 18) - 1)) ∧ Q (hI h2 (hR h2 l0 18) l1.toNatClampNeg) h2) ∧ (l2 = (7 : Int32) → (kd (hR h2 l0 19).1 = (2, 0)) ∧ (vp_in l1 (hS h2 (hR h2 l0 19) - 1)) ∧ Q (hI h2 (hR h2 l0 19) l1.toNatClampNeg) h2) ∧ (l2 = (8 : Int32) → (kd (hR h2 l0 20).1 = (2, 0)) ∧ (vp_in l1 (hS h2 (hR h2 l0 20) - 1)) ∧ Q (hI h2 (hR h2 l0 20) l1.toNatClampNeg) h2) ∧ (l2 = (9 : Int32) → (kd (hR h2 l0 21).1 = (2, 0)) ∧ (vp_in l1 (hS h2 (hR h2 l0 21) - 1)) ∧ Q (hI h2 (hR h2 l0 21) l1.toNatClampNeg) h2) ∧ (l2 = (10 : Int32) → (kd (hR h2 l0 9).1 = (3, 0)) ∧ (vp_in l1 (hS h2 (hR h2 l0 9) - 1)) ∧ (((hI h2 (hR h2 l0 9) l1.toNatClampNeg) = 0 → Q (0 : Int32) h2) ∧ (¬ (hI h2 (hR h2 l0 9) l1.toNatClampNeg) = 0 → Q (1 : Int32) h2))) ∧ ((∀ q ∈ ([(0 : Int32), (1 : Int32), (2 : Int32), (3 : Int32), (4 : Int32), (5 : Int32), (6 : Int32), (7 : Int32), (8 : Int32), (9 : Int32), (10 : Int32)] : List Int32), l2 ≠ q) → Q (-3 : Int32) h2))) ∧ (v3 = 0 → Q (-2 : Int32) h2)))
set_option maxRecDepth 100000 in
set_option maxHeartbeats 4000000 in
theorem t_M_book (l0 : xN) (l1 : Int32) (l2 : Int32) (h : xH) (Q : Int32 → xH → Prop) (H : p_M_book l0 l1 l2 h Q) : WP M_M_book 0 [(0, xr l0), (1, xi l1), (2, xi l2)] [] h 0 (qi Q) := by
  unfold p_M_book at H
  refine wp_aload_n 0 rfl rfl dX11_book_0 ?_
  refine wp_iload_n 1 rfl rfl dX11_book_1 ?_
  refine WP.at 2 rfl ?_
  obtain ⟨q1, H⟩ := H
  refine wp_cVi (M2 := M_M_isThere) coX11 l0 q1 [xi l1] rfl lv_X11_281 mo_M_isThere (Nat.le_of_ble_eq_true rfl) ⟨(Nat.le_of_ble_eq_true rfl), (Nat.le_of_ble_eq_true rfl)⟩ (Nat.le_of_ble_eq_true rfl) (Nat.le_of_ble_eq_true rfl) dX11_book_2 (t_M_isThere l0 l1 _ _ H) (fun v3 h2 H => ?_)
  refine WP.at 5 rfl ?_
  refine wp_if_ne 11 (by decide) dX11_book_5 (fun c4 => ?_) (fun c4 => ?_)
  · replace H := H.1 c4
    refine wp_iload_n 2 rfl rfl dX11_book_11 ?_
    refine WP.at 12 rfl ?_
    refine wp_tsw dX11_book_12 [((0 : Int32), 72), ((1 : Int32), 79), ((2 : Int32), 86), ((3 : Int32), 93), ((4 : Int32), 100), ((5 : Int32), 107), ((6 : Int32), 114), ((7 : Int32), 121), ((8 : Int32), 128), ((9 : Int32), 135), ((10 : Int32), 142)] 157 (by decide) (by decide +kernel) (by decide +kernel) ?_ ?_
    · refine List.forall_mem_cons.mpr ⟨fun c0 => ?_, List.forall_mem_cons.mpr ⟨fun c0 => ?_, List.forall_mem_cons.mpr ⟨fun c0 => ?_, List.forall_mem_cons.mpr ⟨fun c0 => ?_, List.forall_mem_cons.mpr ⟨fun c0 => ?_, List.forall_mem_cons.mpr ⟨fun c0 => ?_, List.forall_mem_cons.mpr ⟨fun c0 => ?_, List.forall_mem_cons.mpr ⟨fun c0 => ?_, List.forall_mem_cons.mpr ⟨fun c0 => ?_, List.forall_mem_cons.mpr ⟨fun c0 => ?_, List.forall_mem_cons.mpr ⟨fun c0 => ?_, fun _ z => absurd z List.not_mem_nil⟩⟩⟩⟩⟩⟩⟩⟩⟩⟩⟩
      · replace H := H.1 c0
        refine wp_aload_n 0 rfl rfl dX11_book_72 ?_
        refine wp_getr coX11 12 (Nat.le_of_ble_eq_true rfl) fl_X11_38 rfl q1 dX11_book_73 ?_
        refine wp_iload_n 1 rfl rfl dX11_book_76 ?_
        obtain ⟨q5, H⟩ := H
        obtain ⟨q6, H⟩ := H
        refine wp_iaload q5 q6 dX11_book_77 ?_
        exact wp_iret trivial dX11_book_78 H
      · replace H := H.2.1 c0
        refine wp_aload_n 0 rfl rfl dX11_book_79 ?_
        refine wp_getr coX11 13 (Nat.le_of_ble_eq_true rfl) fl_X11_41 rfl q1 dX11_book_80 ?_
        refine wp_iload_n 1 rfl rfl dX11_book_83 ?_
        obtain ⟨q7, H⟩ := H
        obtain ⟨q8, H⟩ := H
        refine wp_iaload q7 q8 dX11_book_84 ?_
        exact wp_iret trivial dX11_book_85 H
      · replace H := H.2.2.1 c0
        refine wp_aload_n 0 rfl rfl dX11_book_86 ?_
        refine wp_getr coX11 14 (Nat.le_of_ble_eq_true rfl) fl_X11_44 rfl q1 dX11_book_87 ?_
        refine wp_iload_n 1 rfl rfl dX11_book_90 ?_
        obtain ⟨q9, H⟩ := H
        obtain ⟨q10, H⟩ := H
        refine wp_iaload q9 q10 dX11_book_91 ?_
        exact wp_iret trivial dX11_book_92 H
      · replace H := H.2.2.2.1 c0
        refine wp_aload_n 0 rfl rfl dX11_book_93 ?_
        refine wp_getr coX11 15 (Nat.le_of_ble_eq_true rfl) fl_X11_47 rfl q1 dX11_book_94 ?_
        refine wp_iload_n 1 rfl rfl dX11_book_97 ?_
        obtain ⟨q11, H⟩ := H
        obtain ⟨q12, H⟩ := H
        refine wp_iaload q11 q12 dX11_book_98 ?_
        exact wp_iret trivial dX11_book_99 H
      · replace H := H.2.2.2.2.1 c0
        refine wp_aload_n 0 rfl rfl dX11_book_100 ?_
        refine wp_getr coX11 16 (Nat.le_of_ble_eq_true rfl) fl_X11_50 rfl q1 dX11_book_101 ?_
        refine wp_iload_n 1 rfl rfl dX11_book_104 ?_
        obtain ⟨q13, H⟩ := H
        obtain ⟨q14, H⟩ := H
        refine wp_iaload q13 q14 dX11_book_105 ?_
        exact wp_iret trivial dX11_book_106 H
      · replace H := H.2.2.2.2.2.1 c0
        refine wp_aload_n 0 rfl rfl dX11_book_107 ?_
        refine wp_getr coX11 17 (Nat.le_of_ble_eq_true rfl) fl_X11_53 rfl q1 dX11_book_108 ?_
        refine wp_iload_n 1 rfl rfl dX11_book_111 ?_
        obtain ⟨q15, H⟩ := H
        obtain ⟨q16, H⟩ := H
        refine wp_iaload q15 q16 dX11_book_112 ?_
        exact wp_iret trivial dX11_book_113 H
      · replace H := H.2.2.2.2.2.2.1 c0
        refine wp_aload_n 0 rfl rfl dX11_book_114 ?_
        refine wp_getr coX11 18 (Nat.le_of_ble_eq_true rfl) fl_X11_56 rfl q1 dX11_book_115 ?_
        refine wp_iload_n 1 rfl rfl dX11_book_118 ?_
        obtain ⟨q17, H⟩ := H
        obtain ⟨q18, H⟩ := H
        refine wp_iaload q17 q18 dX11_book_119 ?_
        exact wp_iret trivial dX11_book_120 H
      · replace H := H.2.2.2.2.2.2.2.1 c0
        refine wp_aload_n 0 rfl rfl dX11_book_121 ?_
        refine wp_getr coX11 19 (Nat.le_of_ble_eq_true rfl) fl_X11_59 rfl q1 dX11_book_122 ?_
        refine wp_iload_n 1 rfl rfl dX11_book_125 ?_
        obtain ⟨q19, H⟩ := H
        obtain ⟨q20, H⟩ := H
        refine wp_iaload q19 q20 dX11_book_126 ?_
        exact wp_iret trivial dX11_book_127 H
      · replace H := H.2.2.2.2.2.2.2.2.1 c0
        refine wp_aload_n 0 rfl rfl dX11_book_128 ?_
        refine wp_getr coX11 20 (Nat.le_of_ble_eq_true rfl) fl_X11_62 rfl q1 dX11_book_129 ?_
        refine wp_iload_n 1 rfl rfl dX11_book_132 ?_
        obtain ⟨q21, H⟩ := H
        obtain ⟨q22, H⟩ := H
        refine wp_iaload q21 q22 dX11_book_133 ?_
        exact wp_iret trivial dX11_book_134 H
      · replace H := H.2.2.2.2.2.2.2.2.2.1 c0
        refine wp_aload_n 0 rfl rfl dX11_book_135 ?_
        refine wp_getr coX11 21 (Nat.le_of_ble_eq_true rfl) fl_X11_65 rfl q1 dX11_book_136 ?_
        refine wp_iload_n 1 rfl rfl dX11_book_139 ?_
        obtain ⟨q23, H⟩ := H
        obtain ⟨q24, H⟩ := H
        refine wp_iaload q23 q24 dX11_book_140 ?_
        exact wp_iret trivial dX11_book_141 H
      · replace H := H.2.2.2.2.2.2.2.2.2.2.1 c0
        refine wp_aload_n 0 rfl rfl dX11_book_142 ?_
        refine wp_getr coX11 9 (Nat.le_of_ble_eq_true rfl) fl_X11_35 rfl q1 dX11_book_143 ?_
        refine wp_iload_n 1 rfl rfl dX11_book_146 ?_
        obtain ⟨q25, H⟩ := H
        obtain ⟨q26, H⟩ := H
        refine wp_baload q25 q26 dX11_book_147 ?_
        refine WP.at 148 rfl ?_
        refine wp_if_eq 155 (by decide) dX11_book_148 (fun c27 => ?_) (fun c27 => ?_)
        · replace H := H.1 c27
          refine wp_iconst (0 : Int32) (by decide) dX11_book_155 ?_
          exact wp_iret trivial dX11_book_156 H
        · replace H := H.2 c27
          refine wp_iconst (1 : Int32) (by decide) dX11_book_151 ?_
          refine WP.at 152 rfl ?_
          refine wp_goto 156 (by decide) dX11_book_152 ?_
          exact wp_iret trivial dX11_book_156 H
    · intro c0
      replace H := H.2.2.2.2.2.2.2.2.2.2.2 c0
      refine wp_bipush (-3 : Int32) (by decide) dX11_book_157 ?_
      exact wp_iret trivial dX11_book_159 H
  · replace H := H.2 c4
    refine wp_bipush (-2 : Int32) (by decide) dX11_book_8 ?_
    exact wp_iret trivial dX11_book_10 H
def p_T_rest (l0 : xN) (h : xH) (Q : Int32 → xH → Prop) : Prop := (kd l0.1 = (1, 9)) ∧ Q (hI h l0 12) h
set_option maxRecDepth 100000 in
set_option maxHeartbeats 4000000 in
theorem t_T_rest (l0 : xN) (h : xH) (Q : Int32 → xH → Prop) (H : p_T_rest l0 h Q) : WP M_T_rest 0 [(0, xr l0)] [] h 0 (qi Q) := by
  unfold p_T_rest at H
  refine wp_aload_n 0 rfl rfl dX10_rest_0 ?_
  obtain ⟨q1, H⟩ := H
  refine wp_geti coX10 12 (Nat.le_of_ble_eq_true rfl) fl_X10_262 rfl q1 dX10_rest_1 ?_
  exact wp_iret trivial dX10_rest_4 H
def p_M_rest (l0 : xN) (h : xH) (Q : Int32 → xH → Prop) : Prop := (kd l0.1 = (1, 10)) ∧ Q (hI h l0 22) h
set_option maxRecDepth 100000 in
set_option maxHeartbeats 4000000 in
theorem t_M_rest (l0 : xN) (h : xH) (Q : Int32 → xH → Prop) (H : p_M_rest l0 h Q) : WP M_M_rest 0 [(0, xr l0)] [] h 0 (qi Q) := by
  unfold p_M_rest at H
  refine wp_aload_n 0 rfl rfl dX11_rest_0 ?_
  obtain ⟨q1, H⟩ := H
  refine wp_geti coX11 22 (Nat.le_of_ble_eq_true rfl) fl_X11_252 rfl q1 dX11_rest_1 ?_
  exact wp_iret trivial dX11_rest_4 H
def p_T_unclaimed_L4 (l0 : xN) (K4_42 : Int32 → xH → Prop) (Q : Int32 → xH → Prop) : Nat → Int32 → Int32 → xH → Prop
  | 0, _, _, _ => False
  | f + 1, l1, l2, h => (kd l0.1 = (1, 9)) ∧ (((hI h l0 11) ≤ l2 → K4_42 l1 h) ∧ (¬ (hI h l0 11) ≤ l2 → (kd (hR h l0 2).1 = (5, 8)) ∧ (vp_in l2 (hS h (hR h l0 2) - 1)) ∧ (kd (hR h (hR h l0 2) l2.toNatClampNeg).1 = (1, 8)) ∧ p_Ti_isPayable (hR h (hR h l0 2) l2.toNatClampNeg) h (fun (v7 : Int32) (h6 : xH) => ((v7 = 0 → ∀ v9 : Int32, v9 = l2 + (1 : Int32) → (p_T_unclaimed_L4 l0 K4_42 Q f) l1 v9 h6) ∧ (¬ v7 = 0 → (kd (hR h6 l0 2).1 = (5, 8)) ∧ (vp_in l2 (hS h6 (hR h6 l0 2) - 1)) ∧ (kd (hR h6 (hR h6 l0 2) l2.toNatClampNeg).1 = (1, 8)) ∧ p_Ti_due (hR h6 (hR h6 l0 2) l2.toNatClampNeg) h6 (fun (v15 : Int32) (h14 : xH) => ∀ v16 : Int32, v16 = l1 + v15 → ∀ v18 : Int32, v18 = l2 + (1 : Int32) → (p_T_unclaimed_L4 l0 K4_42 Q f) v16 v18 h14))))))
set_option maxRecDepth 100000 in
set_option maxHeartbeats 4000000 in
theorem t_T_unclaimed_L4 (l0 : xN) (K4_42 : Int32 → xH → Prop) (Q : Int32 → xH → Prop) (hK4_42 : ∀ (x1 : Int32) (h : xH), K4_42 x1 h → WP M_T_unclaimed 42 [(1, xi x1)] [] h 0 (qi Q)) : ∀ (f : Nat) (l1 : Int32) (l2 : Int32) (h : xH), p_T_unclaimed_L4 l0 K4_42 Q f l1 l2 h → WP M_T_unclaimed 4 [(0, xr l0), (1, xi l1), (2, xi l2)] [] h 0 (qi Q) := by
  intro f
  induction f with
  | zero => exact fun _ _ _ H => H.elim
  | succ f hB4 =>
    intro l1 l2 h H
    unfold p_T_unclaimed_L4 at H
    refine wp_iload_n 2 rfl rfl dX10_unclaimed_4 ?_
    refine wp_aload_n 0 rfl rfl dX10_unclaimed_5 ?_
    obtain ⟨q1, H⟩ := H
    refine wp_geti coX10 11 (Nat.le_of_ble_eq_true rfl) fl_X10_104 rfl q1 dX10_unclaimed_6 ?_
    refine WP.at 9 rfl ?_
    refine wp_icmp_ge 42 (by decide) dX10_unclaimed_9 (fun c2 => ?_) (fun c2 => ?_)
    · replace H := H.1 c2
      exact WP.pick [1] rfl (hK4_42 l1 _ H)
    · replace H := H.2 c2
      refine wp_aload_n 0 rfl rfl dX10_unclaimed_12 ?_
      refine wp_getr coX10 2 (Nat.le_of_ble_eq_true rfl) fl_X10_23 rfl q1 dX10_unclaimed_13 ?_
      refine wp_iload_n 2 rfl rfl dX10_unclaimed_16 ?_
      obtain ⟨q3, H⟩ := H
      obtain ⟨q4, H⟩ := H
      refine wp_aaload q3 q4 dX10_unclaimed_17 ?_
      refine WP.at 18 rfl ?_
      obtain ⟨q5, H⟩ := H
      refine wp_cVi (M2 := M_Ti_isPayable) coX9 (hR h (hR h l0 2) l2.toNatClampNeg) q5 [] rfl lv_X10_202 mo_Ti_isPayable (Nat.le_of_ble_eq_true rfl) ⟨(Nat.le_of_ble_eq_true rfl), (Nat.le_of_ble_eq_true rfl)⟩ (Nat.le_of_ble_eq_true rfl) (Nat.le_of_ble_eq_true rfl) dX10_unclaimed_18 (t_Ti_isPayable (hR h (hR h l0 2) l2.toNatClampNeg) _ _ H) (fun v7 h6 H => ?_)
      refine WP.at 21 rfl ?_
      refine wp_if_eq 36 (by decide) dX10_unclaimed_21 (fun c8 => ?_) (fun c8 => ?_)
      · replace H := H.1 c8
        refine wp_iincN (1 : Int32) (by decide) rfl (Nat.le_of_ble_eq_true rfl) dX10_unclaimed_36 (ls' := fun v9 => [(2, xi v9), (0, xr l0), (1, xi l1)]) (fun _ => rfl) (fun v9 e10 => ?_)
        replace H := H v9 e10
        refine WP.at 39 rfl ?_
        refine wp_goto 4 (by decide) dX10_unclaimed_39 ?_
        exact WP.pick [1, 2, 0] rfl (hB4 l1 v9 _ H)
      · replace H := H.2 c8
        refine wp_iload_n 1 rfl rfl dX10_unclaimed_24 ?_
        refine wp_aload_n 0 rfl rfl dX10_unclaimed_25 ?_
        refine wp_getr coX10 2 (Nat.le_of_ble_eq_true rfl) fl_X10_23 rfl q1 dX10_unclaimed_26 ?_
        refine wp_iload_n 2 rfl rfl dX10_unclaimed_29 ?_
        obtain ⟨q11, H⟩ := H
        obtain ⟨q12, H⟩ := H
        refine wp_aaload q11 q12 dX10_unclaimed_30 ?_
        refine WP.at 31 rfl ?_
        obtain ⟨q13, H⟩ := H
        refine wp_cVi (M2 := M_Ti_due) coX9 (hR h6 (hR h6 l0 2) l2.toNatClampNeg) q13 [] rfl lv_X10_227 mo_Ti_due (Nat.le_of_ble_eq_true rfl) ⟨(Nat.le_of_ble_eq_true rfl), (Nat.le_of_ble_eq_true rfl)⟩ (Nat.le_of_ble_eq_true rfl) (Nat.le_of_ble_eq_true rfl) dX10_unclaimed_31 (t_Ti_due (hR h6 (hR h6 l0 2) l2.toNatClampNeg) _ _ H) (fun v15 h14 H => ?_)
        refine wp_iadd dX10_unclaimed_34 ?_
        refine WP.at 35 rfl ?_
        refine wp_nm (fun v16 e17 => ?_)
        replace H := H v16 e17
        refine wp_istore_n 1 rfl (Nat.le_of_ble_eq_true rfl) dX10_unclaimed_35 (ls' := [(1, xi v16), (0, xr l0), (2, xi l2)]) rfl ?_
        refine wp_iincN (1 : Int32) (by decide) rfl (Nat.le_of_ble_eq_true rfl) dX10_unclaimed_36 (ls' := fun v18 => [(2, xi v18), (1, xi v16), (0, xr l0)]) (fun _ => rfl) (fun v18 e19 => ?_)
        replace H := H v18 e19
        refine WP.at 39 rfl ?_
        refine wp_goto 4 (by decide) dX10_unclaimed_39 ?_
        exact WP.pick [2, 1, 0] rfl (hB4 v16 v18 _ H)
def p_T_unclaimed (l0 : xN) (h : xH) (Q : Int32 → xH → Prop) : Prop := (∃ f22, p_T_unclaimed_L4 l0 (fun (x20 : Int32) (h21 : xH) => Q x20 h21) Q f22 (0 : Int32) (0 : Int32) h)
set_option maxRecDepth 100000 in
set_option maxHeartbeats 4000000 in
theorem t_T_unclaimed (l0 : xN) (h : xH) (Q : Int32 → xH → Prop) (H : p_T_unclaimed l0 h Q) : WP M_T_unclaimed 0 [(0, xr l0)] [] h 0 (qi Q) := by
  unfold p_T_unclaimed at H
  refine wp_iconst (0 : Int32) (by decide) dX10_unclaimed_0 ?_
  refine wp_istore_n 1 rfl (Nat.le_of_ble_eq_true rfl) dX10_unclaimed_1 (ls' := [(1, xi (0 : Int32)), (0, xr l0)]) rfl ?_
  refine wp_iconst (0 : Int32) (by decide) dX10_unclaimed_2 ?_
  refine wp_istore_n 2 rfl (Nat.le_of_ble_eq_true rfl) dX10_unclaimed_3 (ls' := [(2, xi (0 : Int32)), (1, xi (0 : Int32)), (0, xr l0)]) rfl ?_
  refine WP.at 4 rfl ?_
  obtain ⟨f22, H⟩ := H
  refine WP.pick [2, 1, 0] rfl (t_T_unclaimed_L4 l0 _ Q ?_ f22 (0 : Int32) (0 : Int32) _ H)
  · intro x20 h21 H
    refine wp_iload_n 1 rfl rfl dX10_unclaimed_42 ?_
    exact wp_iret trivial dX10_unclaimed_43 H
def p_M_unclaimed_L4 (l0 : xN) (K4_38 : Int32 → xH → Prop) (Q : Int32 → xH → Prop) : Nat → Int32 → Int32 → xH → Prop
  | 0, _, _, _ => False
  | f + 1, l1, l2, h => (kd l0.1 = (1, 10)) ∧ (((hI h l0 23) ≤ l2 → K4_38 l1 h) ∧ (¬ (hI h l0 23) ≤ l2 → p_M_mayPay l0 l2 h (fun (v4 : Int32) (h3 : xH) => ((v4 = 0 → ∀ v6 : Int32, v6 = l1 + (0 : Int32) → ∀ v8 : Int32, v8 = l2 + (1 : Int32) → (p_M_unclaimed_L4 l0 K4_38 Q f) v6 v8 h3) ∧ (¬ v4 = 0 → p_M_dueTo l0 l2 h3 (fun (v11 : Int32) (h10 : xH) => ∀ v12 : Int32, v12 = l1 + v11 → ∀ v14 : Int32, v14 = l2 + (1 : Int32) → (p_M_unclaimed_L4 l0 K4_38 Q f) v12 v14 h10))))))
set_option maxRecDepth 100000 in
set_option maxHeartbeats 4000000 in
theorem t_M_unclaimed_L4 (l0 : xN) (K4_38 : Int32 → xH → Prop) (Q : Int32 → xH → Prop) (hK4_38 : ∀ (x1 : Int32) (h : xH), K4_38 x1 h → WP M_M_unclaimed 38 [(1, xi x1)] [] h 0 (qi Q)) : ∀ (f : Nat) (l1 : Int32) (l2 : Int32) (h : xH), p_M_unclaimed_L4 l0 K4_38 Q f l1 l2 h → WP M_M_unclaimed 4 [(0, xr l0), (1, xi l1), (2, xi l2)] [] h 0 (qi Q) := by
  intro f
  induction f with
  | zero => exact fun _ _ _ H => H.elim
  | succ f hB4 =>
    intro l1 l2 h H
    unfold p_M_unclaimed_L4 at H
    refine wp_iload_n 2 rfl rfl dX11_unclaimed_4 ?_
    refine wp_aload_n 0 rfl rfl dX11_unclaimed_5 ?_
    obtain ⟨q1, H⟩ := H
    refine wp_geti coX11 23 (Nat.le_of_ble_eq_true rfl) fl_X11_205 rfl q1 dX11_unclaimed_6 ?_
    refine WP.at 9 rfl ?_
    refine wp_icmp_ge 38 (by decide) dX11_unclaimed_9 (fun c2 => ?_) (fun c2 => ?_)
    · replace H := H.1 c2
      exact WP.pick [1] rfl (hK4_38 l1 _ H)
    · replace H := H.2 c2
      refine wp_iload_n 1 rfl rfl dX11_unclaimed_12 ?_
      refine wp_aload_n 0 rfl rfl dX11_unclaimed_13 ?_
      refine wp_iload_n 2 rfl rfl dX11_unclaimed_14 ?_
      refine WP.at 15 rfl ?_
      refine wp_cVi (M2 := M_M_mayPay) coX11 l0 q1 [xi l2] rfl lv_X11_297 mo_M_mayPay (Nat.le_of_ble_eq_true rfl) ⟨(Nat.le_of_ble_eq_true rfl), (Nat.le_of_ble_eq_true rfl)⟩ (Nat.le_of_ble_eq_true rfl) (Nat.le_of_ble_eq_true rfl) dX11_unclaimed_15 (t_M_mayPay l0 l2 _ _ H) (fun v4 h3 H => ?_)
      refine WP.at 18 rfl ?_
      refine wp_if_eq 29 (by decide) dX11_unclaimed_18 (fun c5 => ?_) (fun c5 => ?_)
      · replace H := H.1 c5
        refine wp_iconst (0 : Int32) (by decide) dX11_unclaimed_29 ?_
        refine wp_iadd dX11_unclaimed_30 ?_
        refine wp_nm (fun v6 e7 => ?_)
        replace H := H v6 e7
        refine wp_istore_n 1 rfl (Nat.le_of_ble_eq_true rfl) dX11_unclaimed_31 (ls' := [(1, xi v6), (0, xr l0), (2, xi l2)]) rfl ?_
        refine wp_iincN (1 : Int32) (by decide) rfl (Nat.le_of_ble_eq_true rfl) dX11_unclaimed_32 (ls' := fun v8 => [(2, xi v8), (1, xi v6), (0, xr l0)]) (fun _ => rfl) (fun v8 e9 => ?_)
        replace H := H v8 e9
        refine WP.at 35 rfl ?_
        refine wp_goto 4 (by decide) dX11_unclaimed_35 ?_
        exact WP.pick [2, 1, 0] rfl (hB4 v6 v8 _ H)
      · replace H := H.2 c5
        refine wp_aload_n 0 rfl rfl dX11_unclaimed_21 ?_
        refine wp_iload_n 2 rfl rfl dX11_unclaimed_22 ?_
        refine WP.at 23 rfl ?_
        refine wp_cVi (M2 := M_M_dueTo) coX11 l0 q1 [xi l2] rfl lv_X11_294 mo_M_dueTo (Nat.le_of_ble_eq_true rfl) ⟨(Nat.le_of_ble_eq_true rfl), (Nat.le_of_ble_eq_true rfl)⟩ (Nat.le_of_ble_eq_true rfl) (Nat.le_of_ble_eq_true rfl) dX11_unclaimed_23 (t_M_dueTo l0 l2 _ _ H) (fun v11 h10 H => ?_)
        refine WP.at 26 rfl ?_
        refine wp_goto 30 (by decide) dX11_unclaimed_26 ?_
        refine wp_iadd dX11_unclaimed_30 ?_
        refine wp_nm (fun v12 e13 => ?_)
        replace H := H v12 e13
        refine wp_istore_n 1 rfl (Nat.le_of_ble_eq_true rfl) dX11_unclaimed_31 (ls' := [(1, xi v12), (0, xr l0), (2, xi l2)]) rfl ?_
        refine wp_iincN (1 : Int32) (by decide) rfl (Nat.le_of_ble_eq_true rfl) dX11_unclaimed_32 (ls' := fun v14 => [(2, xi v14), (1, xi v12), (0, xr l0)]) (fun _ => rfl) (fun v14 e15 => ?_)
        replace H := H v14 e15
        refine WP.at 35 rfl ?_
        refine wp_goto 4 (by decide) dX11_unclaimed_35 ?_
        exact WP.pick [2, 1, 0] rfl (hB4 v12 v14 _ H)
def p_M_unclaimed (l0 : xN) (h : xH) (Q : Int32 → xH → Prop) : Prop := (∃ f18, p_M_unclaimed_L4 l0 (fun (x16 : Int32) (h17 : xH) => Q x16 h17) Q f18 (0 : Int32) (0 : Int32) h)
set_option maxRecDepth 100000 in
set_option maxHeartbeats 4000000 in
theorem t_M_unclaimed (l0 : xN) (h : xH) (Q : Int32 → xH → Prop) (H : p_M_unclaimed l0 h Q) : WP M_M_unclaimed 0 [(0, xr l0)] [] h 0 (qi Q) := by
  unfold p_M_unclaimed at H
  refine wp_iconst (0 : Int32) (by decide) dX11_unclaimed_0 ?_
  refine wp_istore_n 1 rfl (Nat.le_of_ble_eq_true rfl) dX11_unclaimed_1 (ls' := [(1, xi (0 : Int32)), (0, xr l0)]) rfl ?_
  refine wp_iconst (0 : Int32) (by decide) dX11_unclaimed_2 ?_
  refine wp_istore_n 2 rfl (Nat.le_of_ble_eq_true rfl) dX11_unclaimed_3 (ls' := [(2, xi (0 : Int32)), (1, xi (0 : Int32)), (0, xr l0)]) rfl ?_
  refine WP.at 4 rfl ?_
  obtain ⟨f18, H⟩ := H
  refine WP.pick [2, 1, 0] rfl (t_M_unclaimed_L4 l0 _ Q ?_ f18 (0 : Int32) (0 : Int32) _ H)
  · intro x16 h17 H
    refine wp_iload_n 1 rfl rfl dX11_unclaimed_38 ?_
    exact wp_iret trivial dX11_unclaimed_39 H
def p_T_dueIf_L16 (l0 : xN) (l1 : Int32) (K16_75 : Int32 → xH → Prop) (Q : Int32 → xH → Prop) : Nat → Int32 → Int32 → xH → Prop
  | 0, _, _, _ => False
  | f + 1, l6, l7, h => (((3 : Int32) < l7 → K16_75 l6 h) ∧ (¬ (3 : Int32) < l7 → (kd l0.1 = (1, 9)) ∧ p_T_poolNumber l1 l7 h (fun (v6 : Int32) (h5 : xH) => (kd (hR h l0 1).1 = (5, 3)) ∧ (vp_in v6 (hS h5 (hR h l0 1) - 1)) ∧ ∀ v9 : xN, v9 = hR h5 (hR h l0 1) v6.toNatClampNeg → ((v9.1 = 0 → ∀ v12 : Int32, v12 = l7 + (1 : Int32) → (p_T_dueIf_L16 l0 l1 K16_75 Q f) l6 v12 h5) ∧ (¬ v9.1 = 0 → (kd (hR h5 l0 7).1 = (1, 6)) ∧ p_Se_reckon (hR h5 l0 7) v9 (hR h5 l0 6) (hR h5 l0 6) h5 (fun h15 : xH => (kd (hR h15 l0 7).1 = (1, 6)) ∧ ∀ v17 : Int32, v17 = l6 + (hI h15 (hR h15 l0 7) 8) → ∀ v19 : Int32, v19 = l7 + (1 : Int32) → (p_T_dueIf_L16 l0 l1 K16_75 Q f) v17 v19 h15))))))
set_option maxRecDepth 100000 in
set_option maxHeartbeats 4000000 in
theorem t_T_dueIf_L16 (l0 : xN) (l1 : Int32) (K16_75 : Int32 → xH → Prop) (Q : Int32 → xH → Prop) (hK16_75 : ∀ (x6 : Int32) (h : xH), K16_75 x6 h → WP M_T_dueIf 75 [(6, xi x6)] [] h 0 (qi Q)) : ∀ (f : Nat) (l6 : Int32) (l7 : Int32) (h : xH), p_T_dueIf_L16 l0 l1 K16_75 Q f l6 l7 h → WP M_T_dueIf 16 [(0, xr l0), (1, xi l1), (6, xi l6), (7, xi l7)] [] h 0 (qi Q) := by
  intro f
  induction f with
  | zero => exact fun _ _ _ H => H.elim
  | succ f hB16 =>
    intro l6 l7 h H
    unfold p_T_dueIf_L16 at H
    refine wp_iload rfl dX10_dueIf_16 ?_
    refine wp_iconst (3 : Int32) (by decide) dX10_dueIf_18 ?_
    refine WP.at 19 rfl ?_
    refine wp_icmp_gt 75 (by decide) dX10_dueIf_19 (fun c3 => ?_) (fun c3 => ?_)
    · replace H := H.1 c3
      exact WP.pick [2] rfl (hK16_75 l6 _ H)
    · replace H := H.2 c3
      refine wp_aload_n 0 rfl rfl dX10_dueIf_22 ?_
      obtain ⟨q4, H⟩ := H
      refine wp_getr coX10 1 (Nat.le_of_ble_eq_true rfl) fl_X10_17 rfl q4 dX10_dueIf_23 ?_
      refine wp_iload_n 1 rfl rfl dX10_dueIf_26 ?_
      refine wp_iload rfl dX10_dueIf_27 ?_
      refine WP.at 29 rfl ?_
      refine wp_cSi (M2 := M_T_poolNumber) [xi l1, xi l7] rfl ls_X10_84 mo_T_poolNumber (Nat.le_of_ble_eq_true rfl) ⟨(Nat.le_of_ble_eq_true rfl), (Nat.le_of_ble_eq_true rfl)⟩ (Nat.le_of_ble_eq_true rfl) (Nat.le_of_ble_eq_true rfl) dX10_dueIf_29 (t_T_poolNumber l1 l7 _ _ H) (fun v6 h5 H => ?_)
      obtain ⟨q7, H⟩ := H
      obtain ⟨q8, H⟩ := H
      refine wp_aaload q7 q8 dX10_dueIf_32 ?_
      refine wp_nmr (fun v9 e10 => ?_)
      replace H := H v9 e10
      refine wp_astore (Nat.le_of_ble_eq_true rfl) dX10_dueIf_33 (ls' := [(8, xr v9), (0, xr l0), (1, xi l1), (6, xi l6), (7, xi l7)]) rfl ?_
      refine WP.at 35 rfl ?_
      refine wp_aload rfl dX10_dueIf_35 ?_
      refine WP.at 37 rfl ?_
      refine wp_ifnull 69 (by decide) dX10_dueIf_37 (fun c11 => ?_) (fun c11 => ?_)
      · replace H := H.1 c11
        refine wp_iincN (1 : Int32) (by decide) rfl (Nat.le_of_ble_eq_true rfl) dX10_dueIf_69 (ls' := fun v12 => [(7, xi v12), (8, xr v9), (0, xr l0), (1, xi l1), (6, xi l6)]) (fun _ => rfl) (fun v12 e13 => ?_)
        replace H := H v12 e13
        refine WP.at 72 rfl ?_
        refine wp_goto 16 (by decide) dX10_dueIf_72 ?_
        exact WP.pick [2, 3, 4, 0] rfl (hB16 l6 v12 _ H)
      · replace H := H.2 c11
        refine wp_aload_n 0 rfl rfl dX10_dueIf_40 ?_
        refine wp_getr coX10 7 (Nat.le_of_ble_eq_true rfl) fl_X10_56 rfl q4 dX10_dueIf_41 ?_
        refine wp_aload rfl dX10_dueIf_44 ?_
        refine wp_aload_n 0 rfl rfl dX10_dueIf_46 ?_
        refine wp_getr coX10 6 (Nat.le_of_ble_eq_true rfl) fl_X10_49 rfl q4 dX10_dueIf_47 ?_
        refine wp_aload_n 0 rfl rfl dX10_dueIf_50 ?_
        refine wp_getr coX10 6 (Nat.le_of_ble_eq_true rfl) fl_X10_49 rfl q4 dX10_dueIf_51 ?_
        refine WP.at 54 rfl ?_
        refine WP.at 54 rfl ?_
        obtain ⟨q14, H⟩ := H
        refine wp_cVv (M2 := M_Se_reckon) coX7 (hR h5 l0 7) q14 [xr v9, xr (hR h5 l0 6), xr (hR h5 l0 6)] rfl lv_X10_252 mo_Se_reckon (Nat.le_of_ble_eq_true rfl) ⟨(Nat.le_of_ble_eq_true rfl), (Nat.le_of_ble_eq_true rfl)⟩ (Nat.le_of_ble_eq_true rfl) (Nat.le_of_ble_eq_true rfl) dX10_dueIf_54 (t_Se_reckon (hR h5 l0 7) v9 (hR h5 l0 6) (hR h5 l0 6) _ _ H) (fun h15 H => ?_)
        refine wp_iload rfl dX10_dueIf_57 ?_
        refine wp_aload_n 0 rfl rfl dX10_dueIf_59 ?_
        refine wp_getr coX10 7 (Nat.le_of_ble_eq_true rfl) fl_X10_56 rfl q4 dX10_dueIf_60 ?_
        obtain ⟨q16, H⟩ := H
        refine wp_geti coX7 8 (Nat.le_of_ble_eq_true rfl) fl_X10_439 rfl q16 dX10_dueIf_63 ?_
        refine wp_iadd dX10_dueIf_66 ?_
        refine wp_nm (fun v17 e18 => ?_)
        replace H := H v17 e18
        refine wp_istore (Nat.le_of_ble_eq_true rfl) dX10_dueIf_67 (ls' := [(6, xi v17), (8, xr v9), (0, xr l0), (1, xi l1), (7, xi l7)]) rfl ?_
        refine wp_iincN (1 : Int32) (by decide) rfl (Nat.le_of_ble_eq_true rfl) dX10_dueIf_69 (ls' := fun v19 => [(7, xi v19), (6, xi v17), (8, xr v9), (0, xr l0), (1, xi l1)]) (fun _ => rfl) (fun v19 e20 => ?_)
        replace H := H v19 e20
        refine WP.at 72 rfl ?_
        refine WP.at 72 rfl ?_
        refine wp_goto 16 (by decide) dX10_dueIf_72 ?_
        exact WP.pick [3, 4, 1, 0] rfl (hB16 v17 v19 _ H)
def p_T_dueIf (l0 : xN) (l1 : Int32) (l2 : xN) (l3 : Int32) (l4 : Int32) (l5 : Int32) (h : xH) (Q : Int32 → xH → Prop) : Prop := (kd l0.1 = (1, 9)) ∧ p_T_suppose l0 l2 l3 l4 l5 h (fun h2 : xH => (∃ f23, p_T_dueIf_L16 l0 l1 (fun (x21 : Int32) (h22 : xH) => Q x21 h22) Q f23 (0 : Int32) (0 : Int32) h2))
set_option maxRecDepth 100000 in
set_option maxHeartbeats 4000000 in
theorem t_T_dueIf (l0 : xN) (l1 : Int32) (l2 : xN) (l3 : Int32) (l4 : Int32) (l5 : Int32) (h : xH) (Q : Int32 → xH → Prop) (H : p_T_dueIf l0 l1 l2 l3 l4 l5 h Q) : WP M_T_dueIf 0 [(0, xr l0), (1, xi l1), (2, xr l2), (3, xi l3), (4, xi l4), (5, xi l5)] [] h 0 (qi Q) := by
  unfold p_T_dueIf at H
  refine wp_aload_n 0 rfl rfl dX10_dueIf_0 ?_
  refine wp_aload_n 2 rfl rfl dX10_dueIf_1 ?_
  refine wp_iload_n 3 rfl rfl dX10_dueIf_2 ?_
  refine wp_iload rfl dX10_dueIf_3 ?_
  refine wp_iload rfl dX10_dueIf_5 ?_
  refine WP.at 7 rfl ?_
  obtain ⟨q1, H⟩ := H
  refine wp_cVv (M2 := M_T_suppose) coX10 l0 q1 [xr l2, xi l3, xi l4, xi l5] rfl lv_X10_248 mo_T_suppose (Nat.le_of_ble_eq_true rfl) ⟨(Nat.le_of_ble_eq_true rfl), (Nat.le_of_ble_eq_true rfl)⟩ (Nat.le_of_ble_eq_true rfl) (Nat.le_of_ble_eq_true rfl) dX10_dueIf_7 (t_T_suppose l0 l2 l3 l4 l5 _ _ H) (fun h2 H => ?_)
  refine wp_iconst (0 : Int32) (by decide) dX10_dueIf_10 ?_
  refine WP.at 11 rfl ?_
  refine wp_istore (Nat.le_of_ble_eq_true rfl) dX10_dueIf_11 (ls' := [(6, xi (0 : Int32)), (0, xr l0), (1, xi l1), (2, xr l2), (3, xi l3), (4, xi l4), (5, xi l5)]) rfl ?_
  refine wp_iconst (0 : Int32) (by decide) dX10_dueIf_13 ?_
  refine wp_istore (Nat.le_of_ble_eq_true rfl) dX10_dueIf_14 (ls' := [(7, xi (0 : Int32)), (6, xi (0 : Int32)), (0, xr l0), (1, xi l1), (2, xr l2), (3, xi l3), (4, xi l4), (5, xi l5)]) rfl ?_
  refine WP.at 16 rfl ?_
  obtain ⟨f23, H⟩ := H
  refine WP.pick [2, 3, 1, 0] rfl (t_T_dueIf_L16 l0 l1 _ Q ?_ f23 (0 : Int32) (0 : Int32) _ H)
  · intro x21 h22 H
    refine wp_iload rfl dX10_dueIf_75 ?_
    exact wp_iret trivial dX10_dueIf_77 H
def p_T_worst_j134 (l0 : xN) (l1 : Int32) (l2 : xN) (l3 : Int32) (l5 : Int32) (l6 : Int32) (l7 : Int32) (l8 : Int32) (B86 : Int32 → Int32 → xH → Prop) (h : xH) (Q : Int32 → xH → Prop) : Prop := (kd l0.1 = (1, 9)) ∧ ∀ h27 : xH, h27 = sI h l0 13 l8 → ∀ v29 : Int32, v29 = (((10000 : Int32) * l5) + ((100 : Int32) * l6)) + l7 → ∀ v31 : Int32, v31 = l7 + (1 : Int32) → B86 v29 v31 h27
set_option maxRecDepth 100000 in
set_option maxHeartbeats 4000000 in
theorem t_T_worst_j134 (l0 : xN) (l1 : Int32) (l2 : xN) (l3 : Int32) (l5 : Int32) (l6 : Int32) (l7 : Int32) (l8 : Int32) (B86 : Int32 → Int32 → xH → Prop) (h : xH) (Q : Int32 → xH → Prop) (hB86 : ∀ (x4 : Int32) (x7 : Int32) (h : xH), B86 x4 x7 h → WP M_T_worst 86 [(0, xr l0), (1, xi l1), (2, xr l2), (3, xi l3), (4, xi x4), (5, xi l5), (6, xi l6), (7, xi x7)] [] h 0 (qi Q)) (H : p_T_worst_j134 l0 l1 l2 l3 l5 l6 l7 l8 B86 h Q) : WP M_T_worst 134 [(0, xr l0), (1, xi l1), (2, xr l2), (3, xi l3), (5, xi l5), (6, xi l6), (7, xi l7), (8, xi l8)] [] h 0 (qi Q) := by
  unfold p_T_worst_j134 at H
  refine wp_aload_n 0 rfl rfl dX10_worst_134 ?_
  refine wp_iload rfl dX10_worst_135 ?_
  obtain ⟨q26, H⟩ := H
  refine wp_puti coX10 13 (Nat.le_of_ble_eq_true rfl) fl_X10_269 rfl rfl ⟨rfl, rfl⟩ q26 dX10_worst_137 ?_
  refine wp_nh (fun h27 e28 => ?_)
  replace H := H h27 e28
  refine wp_sipush (10000 : Int32) (by decide) dX10_worst_140 ?_
  refine wp_iload rfl dX10_worst_143 ?_
  refine wp_imul dX10_worst_145 ?_
  refine wp_bipush (100 : Int32) (by decide) dX10_worst_146 ?_
  refine WP.at 148 rfl ?_
  refine wp_iload rfl dX10_worst_148 ?_
  refine wp_imul dX10_worst_150 ?_
  refine wp_iadd dX10_worst_151 ?_
  refine wp_iload rfl dX10_worst_152 ?_
  refine wp_iadd dX10_worst_154 ?_
  refine wp_nm (fun v29 e30 => ?_)
  replace H := H v29 e30
  refine wp_istore (Nat.le_of_ble_eq_true rfl) dX10_worst_155 (ls' := [(4, xi v29), (0, xr l0), (1, xi l1), (2, xr l2), (3, xi l3), (5, xi l5), (6, xi l6), (7, xi l7), (8, xi l8)]) rfl ?_
  refine wp_iincN (1 : Int32) (by decide) rfl (Nat.le_of_ble_eq_true rfl) dX10_worst_157 (ls' := fun v31 => [(7, xi v31), (4, xi v29), (0, xr l0), (1, xi l1), (2, xr l2), (3, xi l3), (5, xi l5), (6, xi l6), (8, xi l8)]) (fun _ => rfl) (fun v31 e32 => ?_)
  replace H := H v31 e32
  refine WP.at 160 rfl ?_
  refine wp_goto 86 (by decide) dX10_worst_160 ?_
  exact WP.pick [2, 3, 4, 5, 1, 6, 7, 0] rfl (hB86 v29 v31 _ H)
def p_T_worst_L86 (l0 : xN) (l1 : Int32) (l2 : xN) (l3 : Int32) (l5 : Int32) (l6 : Int32) (K86_163 : Int32 → xH → Prop) (Q : Int32 → xH → Prop) : Nat → Int32 → Int32 → xH → Prop
  | 0, _, _, _ => False
  | f + 1, l4, l7, h => ((l3 < l7 → K86_163 l4 h) ∧ (¬ l3 < l7 → (kd l2.1 = (1, 4)) ∧ p_R_areRow l2 l5 l6 l7 h (fun (v18 : Int32) (h17 : xH) => ((v18 = 0 → ∀ v20 : Int32, v20 = l7 + (1 : Int32) → (p_T_worst_L86 l0 l1 l2 l3 l5 l6 K86_163 Q f) l4 v20 h17) ∧ (¬ v18 = 0 → (kd l0.1 = (1, 9)) ∧ p_T_dueIf l0 l1 l2 l5 l6 l7 h17 (fun (v24 : Int32) (h23 : xH) => ((l4 = (-1 : Int32) → p_T_worst_j134 l0 l1 l2 l3 l5 l6 l7 v24 (p_T_worst_L86 l0 l1 l2 l3 l5 l6 K86_163 Q f) h23 Q) ∧ (¬ l4 = (-1 : Int32) → ((v24 ≤ (hI h23 l0 13) → ∀ v34 : Int32, v34 = l7 + (1 : Int32) → (p_T_worst_L86 l0 l1 l2 l3 l5 l6 K86_163 Q f) l4 v34 h23) ∧ (¬ v24 ≤ (hI h23 l0 13) → p_T_worst_j134 l0 l1 l2 l3 l5 l6 l7 v24 (p_T_worst_L86 l0 l1 l2 l3 l5 l6 K86_163 Q f) h23 Q))))))))))
set_option maxRecDepth 100000 in
set_option maxHeartbeats 4000000 in
theorem t_T_worst_L86 (l0 : xN) (l1 : Int32) (l2 : xN) (l3 : Int32) (l5 : Int32) (l6 : Int32) (K86_163 : Int32 → xH → Prop) (Q : Int32 → xH → Prop) (hK86_163 : ∀ (x4 : Int32) (h : xH), K86_163 x4 h → WP M_T_worst 163 [(0, xr l0), (1, xi l1), (2, xr l2), (3, xi l3), (4, xi x4), (5, xi l5), (6, xi l6)] [] h 0 (qi Q)) : ∀ (f : Nat) (l4 : Int32) (l7 : Int32) (h : xH), p_T_worst_L86 l0 l1 l2 l3 l5 l6 K86_163 Q f l4 l7 h → WP M_T_worst 86 [(0, xr l0), (1, xi l1), (2, xr l2), (3, xi l3), (4, xi l4), (5, xi l5), (6, xi l6), (7, xi l7)] [] h 0 (qi Q) := by
  intro f
  induction f with
  | zero => exact fun _ _ _ H => H.elim
  | succ f hB86 =>
    intro l4 l7 h H
    unfold p_T_worst_L86 at H
    refine wp_iload rfl dX10_worst_86 ?_
    refine wp_iload_n 3 rfl rfl dX10_worst_88 ?_
    refine WP.at 89 rfl ?_
    refine wp_icmp_gt 163 (by decide) dX10_worst_89 (fun c15 => ?_) (fun c15 => ?_)
    · replace H := H.1 c15
      exact WP.pick [0, 1, 2, 3, 4, 5, 6] rfl (hK86_163 l4 _ H)
    · replace H := H.2 c15
      refine wp_aload_n 2 rfl rfl dX10_worst_92 ?_
      refine wp_iload rfl dX10_worst_93 ?_
      refine wp_iload rfl dX10_worst_95 ?_
      refine wp_iload rfl dX10_worst_97 ?_
      refine WP.at 99 rfl ?_
      obtain ⟨q16, H⟩ := H
      refine wp_cVi (M2 := M_R_areRow) coX5 l2 q16 [xi l5, xi l6, xi l7] rfl lv_X10_245 mo_R_areRow (Nat.le_of_ble_eq_true rfl) ⟨(Nat.le_of_ble_eq_true rfl), (Nat.le_of_ble_eq_true rfl)⟩ (Nat.le_of_ble_eq_true rfl) (Nat.le_of_ble_eq_true rfl) dX10_worst_99 (t_R_areRow l2 l5 l6 l7 _ _ H) (fun v18 h17 H => ?_)
      refine WP.at 102 rfl ?_
      refine wp_if_eq 157 (by decide) dX10_worst_102 (fun c19 => ?_) (fun c19 => ?_)
      · replace H := H.1 c19
        refine wp_iincN (1 : Int32) (by decide) rfl (Nat.le_of_ble_eq_true rfl) dX10_worst_157 (ls' := fun v20 => [(7, xi v20), (0, xr l0), (1, xi l1), (2, xr l2), (3, xi l3), (4, xi l4), (5, xi l5), (6, xi l6)]) (fun _ => rfl) (fun v20 e21 => ?_)
        replace H := H v20 e21
        refine WP.at 160 rfl ?_
        refine wp_goto 86 (by decide) dX10_worst_160 ?_
        exact WP.pick [1, 2, 3, 4, 5, 6, 7, 0] rfl (hB86 l4 v20 _ H)
      · replace H := H.2 c19
        refine wp_aload_n 0 rfl rfl dX10_worst_105 ?_
        refine wp_iload_n 1 rfl rfl dX10_worst_106 ?_
        refine wp_aload_n 2 rfl rfl dX10_worst_107 ?_
        refine wp_iload rfl dX10_worst_108 ?_
        refine wp_iload rfl dX10_worst_110 ?_
        refine wp_iload rfl dX10_worst_112 ?_
        refine WP.at 114 rfl ?_
        obtain ⟨q22, H⟩ := H
        refine wp_cVi (M2 := M_T_dueIf) coX10 l0 q22 [xi l1, xr l2, xi l5, xi l6, xi l7] rfl lv_X10_265 mo_T_dueIf (Nat.le_of_ble_eq_true rfl) ⟨(Nat.le_of_ble_eq_true rfl), (Nat.le_of_ble_eq_true rfl)⟩ (Nat.le_of_ble_eq_true rfl) (Nat.le_of_ble_eq_true rfl) dX10_worst_114 (t_T_dueIf l0 l1 l2 l5 l6 l7 _ _ H) (fun v24 h23 H => ?_)
        refine WP.at 117 rfl ?_
        refine wp_istore (Nat.le_of_ble_eq_true rfl) dX10_worst_117 (ls' := [(8, xi v24), (0, xr l0), (1, xi l1), (2, xr l2), (3, xi l3), (4, xi l4), (5, xi l5), (6, xi l6), (7, xi l7)]) rfl ?_
        refine wp_iload rfl dX10_worst_119 ?_
        refine wp_iconst (-1 : Int32) (by decide) dX10_worst_121 ?_
        refine WP.at 122 rfl ?_
        refine wp_icmp_eq 134 (by decide) dX10_worst_122 (fun c25 => ?_) (fun c25 => ?_)
        · replace H := H.1 c25
          exact WP.pick [1, 2, 3, 4, 6, 7, 8, 0] rfl (t_T_worst_j134 l0 l1 l2 l3 l5 l6 l7 v24 _ _ _ hB86 H)
        · replace H := H.2 c25
          refine wp_iload rfl dX10_worst_125 ?_
          refine wp_aload_n 0 rfl rfl dX10_worst_127 ?_
          refine wp_geti coX10 13 (Nat.le_of_ble_eq_true rfl) fl_X10_269 rfl q22 dX10_worst_128 ?_
          refine WP.at 131 rfl ?_
          refine wp_icmp_le 157 (by decide) dX10_worst_131 (fun c33 => ?_) (fun c33 => ?_)
          · replace H := H.1 c33
            refine wp_iincN (1 : Int32) (by decide) rfl (Nat.le_of_ble_eq_true rfl) dX10_worst_157 (ls' := fun v34 => [(7, xi v34), (8, xi v24), (0, xr l0), (1, xi l1), (2, xr l2), (3, xi l3), (4, xi l4), (5, xi l5), (6, xi l6)]) (fun _ => rfl) (fun v34 e35 => ?_)
            replace H := H v34 e35
            refine WP.at 160 rfl ?_
            refine wp_goto 86 (by decide) dX10_worst_160 ?_
            exact WP.pick [2, 3, 4, 5, 6, 7, 8, 0] rfl (hB86 l4 v34 _ H)
          · replace H := H.2 c33
            exact WP.pick [1, 2, 3, 4, 6, 7, 8, 0] rfl (t_T_worst_j134 l0 l1 l2 l3 l5 l6 l7 v24 _ _ _ hB86 H)
def p_T_worst_L70 (l0 : xN) (l1 : Int32) (l2 : xN) (l3 : Int32) (l5 : Int32) (K70_169 : Int32 → xH → Prop) (Q : Int32 → xH → Prop) : Nat → Int32 → Int32 → xH → Prop
  | 0, _, _, _ => False
  | f + 1, l4, l6, h => (kd l2.1 = (1, 4)) ∧ (((hI h l2 0) < l6 → K70_169 l4 h) ∧ (¬ (hI h l2 0) < l6 → p_Jm_min (1 : Int32) l3 h (fun (v14 : Int32) (h13 : xH) => (∃ f40, p_T_worst_L86 l0 l1 l2 l3 l5 l6 (fun (x36 : Int32) (h37 : xH) => ∀ v38 : Int32, v38 = l6 + (1 : Int32) → (p_T_worst_L70 l0 l1 l2 l3 l5 K70_169 Q f) x36 v38 h37) Q f40 l4 v14 h13))))
set_option maxRecDepth 100000 in
set_option maxHeartbeats 4000000 in
theorem t_T_worst_L70 (l0 : xN) (l1 : Int32) (l2 : xN) (l3 : Int32) (l5 : Int32) (K70_169 : Int32 → xH → Prop) (Q : Int32 → xH → Prop) (hK70_169 : ∀ (x4 : Int32) (h : xH), K70_169 x4 h → WP M_T_worst 169 [(0, xr l0), (1, xi l1), (2, xr l2), (3, xi l3), (4, xi x4), (5, xi l5)] [] h 0 (qi Q)) : ∀ (f : Nat) (l4 : Int32) (l6 : Int32) (h : xH), p_T_worst_L70 l0 l1 l2 l3 l5 K70_169 Q f l4 l6 h → WP M_T_worst 70 [(0, xr l0), (1, xi l1), (2, xr l2), (3, xi l3), (4, xi l4), (5, xi l5), (6, xi l6)] [] h 0 (qi Q) := by
  intro f
  induction f with
  | zero => exact fun _ _ _ H => H.elim
  | succ f hB70 =>
    intro l4 l6 h H
    unfold p_T_worst_L70 at H
    refine wp_iload rfl dX10_worst_70 ?_
    refine wp_aload_n 2 rfl rfl dX10_worst_72 ?_
    obtain ⟨q11, H⟩ := H
    refine wp_geti coX5 0 (Nat.le_of_ble_eq_true rfl) fl_X10_144 rfl q11 dX10_worst_73 ?_
    refine WP.at 76 rfl ?_
    refine wp_icmp_gt 169 (by decide) dX10_worst_76 (fun c12 => ?_) (fun c12 => ?_)
    · replace H := H.1 c12
      exact WP.pick [0, 1, 2, 3, 4, 5] rfl (hK70_169 l4 _ H)
    · replace H := H.2 c12
      refine wp_iconst (1 : Int32) (by decide) dX10_worst_79 ?_
      refine wp_iload_n 3 rfl rfl dX10_worst_80 ?_
      refine WP.at 81 rfl ?_
      refine wp_cSi (M2 := M_Jm_min) [xi (1 : Int32), xi l3] rfl ls_X10_135 mo_Jm_min (Nat.le_of_ble_eq_true rfl) ⟨(Nat.le_of_ble_eq_true rfl), (Nat.le_of_ble_eq_true rfl)⟩ (Nat.le_of_ble_eq_true rfl) (Nat.le_of_ble_eq_true rfl) dX10_worst_81 (t_Jm_min (1 : Int32) l3 _ _ H) (fun v14 h13 H => ?_)
      refine wp_istore (Nat.le_of_ble_eq_true rfl) dX10_worst_84 (ls' := [(7, xi v14), (0, xr l0), (1, xi l1), (2, xr l2), (3, xi l3), (4, xi l4), (5, xi l5), (6, xi l6)]) rfl ?_
      refine WP.at 86 rfl ?_
      obtain ⟨f40, H⟩ := H
      refine WP.pick [1, 2, 3, 4, 5, 6, 7, 0] rfl (t_T_worst_L86 l0 l1 l2 l3 l5 l6 _ Q ?_ f40 l4 v14 _ H)
      · intro x36 h37 H
        refine wp_iincN (1 : Int32) (by decide) rfl (Nat.le_of_ble_eq_true rfl) dX10_worst_163 (ls' := fun v38 => [(6, xi v38), (0, xr l0), (1, xi l1), (2, xr l2), (3, xi l3), (4, xi x36), (5, xi l5)]) (fun _ => rfl) (fun v38 e39 => ?_)
        replace H := H v38 e39
        refine WP.at 166 rfl ?_
        refine wp_goto 70 (by decide) dX10_worst_166 ?_
        exact WP.pick [1, 2, 3, 4, 5, 6, 0] rfl (hB70 x36 v38 _ H)
def p_T_worst_L58 (l0 : xN) (l1 : Int32) (l2 : xN) (l3 : Int32) (K58_175 : Int32 → xH → Prop) (Q : Int32 → xH → Prop) : Nat → Int32 → Int32 → xH → Prop
  | 0, _, _, _ => False
  | f + 1, l4, l5, h => (kd l2.1 = (1, 4)) ∧ (((hI h l2 0) < l5 → K58_175 l4 h) ∧ (¬ (hI h l2 0) < l5 → (∃ f45, p_T_worst_L70 l0 l1 l2 l3 l5 (fun (x41 : Int32) (h42 : xH) => ∀ v43 : Int32, v43 = l5 + (1 : Int32) → (p_T_worst_L58 l0 l1 l2 l3 K58_175 Q f) x41 v43 h42) Q f45 l4 (1 : Int32) h)))
set_option maxRecDepth 100000 in
set_option maxHeartbeats 4000000 in
theorem t_T_worst_L58 (l0 : xN) (l1 : Int32) (l2 : xN) (l3 : Int32) (K58_175 : Int32 → xH → Prop) (Q : Int32 → xH → Prop) (hK58_175 : ∀ (x4 : Int32) (h : xH), K58_175 x4 h → WP M_T_worst 175 [(4, xi x4)] [] h 0 (qi Q)) : ∀ (f : Nat) (l4 : Int32) (l5 : Int32) (h : xH), p_T_worst_L58 l0 l1 l2 l3 K58_175 Q f l4 l5 h → WP M_T_worst 58 [(0, xr l0), (1, xi l1), (2, xr l2), (3, xi l3), (4, xi l4), (5, xi l5)] [] h 0 (qi Q) := by
  intro f
  induction f with
  | zero => exact fun _ _ _ H => H.elim
  | succ f hB58 =>
    intro l4 l5 h H
    unfold p_T_worst_L58 at H
    refine wp_iload rfl dX10_worst_58 ?_
    refine wp_aload_n 2 rfl rfl dX10_worst_60 ?_
    obtain ⟨q9, H⟩ := H
    refine wp_geti coX5 0 (Nat.le_of_ble_eq_true rfl) fl_X10_144 rfl q9 dX10_worst_61 ?_
    refine WP.at 64 rfl ?_
    refine wp_icmp_gt 175 (by decide) dX10_worst_64 (fun c10 => ?_) (fun c10 => ?_)
    · replace H := H.1 c10
      exact WP.pick [4] rfl (hK58_175 l4 _ H)
    · replace H := H.2 c10
      refine wp_iconst (1 : Int32) (by decide) dX10_worst_67 ?_
      refine wp_istore (Nat.le_of_ble_eq_true rfl) dX10_worst_68 (ls' := [(6, xi (1 : Int32)), (0, xr l0), (1, xi l1), (2, xr l2), (3, xi l3), (4, xi l4), (5, xi l5)]) rfl ?_
      refine WP.at 70 rfl ?_
      obtain ⟨f45, H⟩ := H
      refine WP.pick [1, 2, 3, 4, 5, 6, 0] rfl (t_T_worst_L70 l0 l1 l2 l3 l5 _ Q ?_ f45 l4 (1 : Int32) _ H)
      · intro x41 h42 H
        refine wp_iincN (1 : Int32) (by decide) rfl (Nat.le_of_ble_eq_true rfl) dX10_worst_169 (ls' := fun v43 => [(5, xi v43), (0, xr l0), (1, xi l1), (2, xr l2), (3, xi l3), (4, xi x41)]) (fun _ => rfl) (fun v43 e44 => ?_)
        replace H := H v43 e44
        refine WP.at 172 rfl ?_
        refine wp_goto 58 (by decide) dX10_worst_172 ?_
        exact WP.pick [1, 2, 3, 4, 5, 0] rfl (hB58 x41 v43 _ H)
def p_T_worst (l0 : xN) (l1 : Int32) (h : xH) (Q : Int32 → xH → Prop) : Prop := (kd l0.1 = (1, 9)) ∧ p_T_findRace l0 l1 h (fun (v3 : xN) (h2 : xH) => ((¬ v3.1 = 0 → (kd v3.1 = (1, 4)) ∧ ((¬ (hI h2 v3 7) = (2 : Int32) → (((2 : Int32) ≤ (hI h2 v3 6) → (((hI h2 v3 6) ≤ (2 : Int32) → (∃ f48, p_T_worst_L58 l0 l1 v3 (0 : Int32) (fun (x46 : Int32) (h47 : xH) => Q x46 h47) Q f48 (-1 : Int32) (1 : Int32) h2)) ∧ (¬ (hI h2 v3 6) ≤ (2 : Int32) → ∀ v49 : Int32, v49 = hI h2 v3 0 → (∃ f53, p_T_worst_L58 l0 l1 v3 v49 (fun (x51 : Int32) (h52 : xH) => Q x51 h52) Q f53 (-1 : Int32) (1 : Int32) h2)))) ∧ (¬ (2 : Int32) ≤ (hI h2 v3 6) → Q (-5 : Int32) h2))) ∧ ((hI h2 v3 7) = (2 : Int32) → Q (-6 : Int32) h2))) ∧ (v3.1 = 0 → Q (-2 : Int32) h2)))
set_option maxRecDepth 100000 in
set_option maxHeartbeats 4000000 in
theorem t_T_worst (l0 : xN) (l1 : Int32) (h : xH) (Q : Int32 → xH → Prop) (H : p_T_worst l0 l1 h Q) : WP M_T_worst 0 [(0, xr l0), (1, xi l1)] [] h 0 (qi Q) := by
  unfold p_T_worst at H
  refine wp_aload_n 0 rfl rfl dX10_worst_0 ?_
  refine wp_iload_n 1 rfl rfl dX10_worst_1 ?_
  refine WP.at 2 rfl ?_
  obtain ⟨q1, H⟩ := H
  refine wp_cVr (M2 := M_T_findRace) coX10 l0 q1 [xi l1] rfl lv_X10_76 mo_T_findRace (Nat.le_of_ble_eq_true rfl) ⟨(Nat.le_of_ble_eq_true rfl), (Nat.le_of_ble_eq_true rfl)⟩ (Nat.le_of_ble_eq_true rfl) (Nat.le_of_ble_eq_true rfl) dX10_worst_2 (t_T_findRace l0 l1 _ _ H) (fun v3 h2 H => ?_)
  refine wp_astore_n 2 rfl (Nat.le_of_ble_eq_true rfl) dX10_worst_5 (ls' := [(2, xr v3), (0, xr l0), (1, xi l1)]) rfl ?_
  refine wp_aload_n 2 rfl rfl dX10_worst_6 ?_
  refine WP.at 7 rfl ?_
  refine wp_ifnonnull 13 (by decide) dX10_worst_7 (fun c4 => ?_) (fun c4 => ?_)
  · replace H := H.1 c4
    refine wp_aload_n 2 rfl rfl dX10_worst_13 ?_
    obtain ⟨q5, H⟩ := H
    refine wp_geti coX5 7 (Nat.le_of_ble_eq_true rfl) fl_X10_88 rfl q5 dX10_worst_14 ?_
    refine wp_iconst (2 : Int32) (by decide) dX10_worst_17 ?_
    refine WP.at 18 rfl ?_
    refine wp_icmp_ne 24 (by decide) dX10_worst_18 (fun c6 => ?_) (fun c6 => ?_)
    · replace H := H.1 c6
      refine wp_aload_n 2 rfl rfl dX10_worst_24 ?_
      refine wp_geti coX5 6 (Nat.le_of_ble_eq_true rfl) fl_X10_116 rfl q5 dX10_worst_25 ?_
      refine wp_iconst (2 : Int32) (by decide) dX10_worst_28 ?_
      refine WP.at 29 rfl ?_
      refine wp_icmp_ge 35 (by decide) dX10_worst_29 (fun c7 => ?_) (fun c7 => ?_)
      · replace H := H.1 c7
        refine wp_aload_n 2 rfl rfl dX10_worst_35 ?_
        refine wp_geti coX5 6 (Nat.le_of_ble_eq_true rfl) fl_X10_116 rfl q5 dX10_worst_36 ?_
        refine wp_iconst (2 : Int32) (by decide) dX10_worst_39 ?_
        refine WP.at 40 rfl ?_
        refine wp_icmp_le 50 (by decide) dX10_worst_40 (fun c8 => ?_) (fun c8 => ?_)
        · replace H := H.1 c8
          refine wp_iconst (0 : Int32) (by decide) dX10_worst_50 ?_
          refine wp_istore_n 3 rfl (Nat.le_of_ble_eq_true rfl) dX10_worst_51 (ls' := [(3, xi (0 : Int32)), (2, xr v3), (0, xr l0), (1, xi l1)]) rfl ?_
          refine wp_iconst (-1 : Int32) (by decide) dX10_worst_52 ?_
          refine wp_istore (Nat.le_of_ble_eq_true rfl) dX10_worst_53 (ls' := [(4, xi (-1 : Int32)), (3, xi (0 : Int32)), (2, xr v3), (0, xr l0), (1, xi l1)]) rfl ?_
          refine wp_iconst (1 : Int32) (by decide) dX10_worst_55 ?_
          refine wp_istore (Nat.le_of_ble_eq_true rfl) dX10_worst_56 (ls' := [(5, xi (1 : Int32)), (4, xi (-1 : Int32)), (3, xi (0 : Int32)), (2, xr v3), (0, xr l0), (1, xi l1)]) rfl ?_
          refine WP.at 58 rfl ?_
          obtain ⟨f48, H⟩ := H
          refine WP.pick [4, 5, 3, 2, 1, 0] rfl (t_T_worst_L58 l0 l1 v3 (0 : Int32) _ Q ?_ f48 (-1 : Int32) (1 : Int32) _ H)
          · intro x46 h47 H
            refine wp_iload rfl dX10_worst_175 ?_
            exact wp_iret trivial dX10_worst_177 H
        · replace H := H.2 c8
          refine wp_aload_n 2 rfl rfl dX10_worst_43 ?_
          refine wp_geti coX5 0 (Nat.le_of_ble_eq_true rfl) fl_X10_144 rfl q5 dX10_worst_44 ?_
          refine WP.at 47 rfl ?_
          refine wp_goto 51 (by decide) dX10_worst_47 ?_
          refine wp_nm (fun v49 e50 => ?_)
          replace H := H v49 e50
          refine wp_istore_n 3 rfl (Nat.le_of_ble_eq_true rfl) dX10_worst_51 (ls' := [(3, xi v49), (2, xr v3), (0, xr l0), (1, xi l1)]) rfl ?_
          refine wp_iconst (-1 : Int32) (by decide) dX10_worst_52 ?_
          refine wp_istore (Nat.le_of_ble_eq_true rfl) dX10_worst_53 (ls' := [(4, xi (-1 : Int32)), (3, xi v49), (2, xr v3), (0, xr l0), (1, xi l1)]) rfl ?_
          refine wp_iconst (1 : Int32) (by decide) dX10_worst_55 ?_
          refine wp_istore (Nat.le_of_ble_eq_true rfl) dX10_worst_56 (ls' := [(5, xi (1 : Int32)), (4, xi (-1 : Int32)), (3, xi v49), (2, xr v3), (0, xr l0), (1, xi l1)]) rfl ?_
          refine WP.at 58 rfl ?_
          obtain ⟨f53, H⟩ := H
          refine WP.pick [4, 5, 3, 2, 1, 0] rfl (t_T_worst_L58 l0 l1 v3 v49 _ Q ?_ f53 (-1 : Int32) (1 : Int32) _ H)
          · intro x51 h52 H
            refine wp_iload rfl dX10_worst_175 ?_
            exact wp_iret trivial dX10_worst_177 H
      · replace H := H.2 c7
        refine wp_bipush (-5 : Int32) (by decide) dX10_worst_32 ?_
        exact wp_iret trivial dX10_worst_34 H
    · replace H := H.2 c6
      refine wp_bipush (-6 : Int32) (by decide) dX10_worst_21 ?_
      exact wp_iret trivial dX10_worst_23 H
  · replace H := H.2 c4
    refine wp_bipush (-2 : Int32) (by decide) dX10_worst_10 ?_
    exact wp_iret trivial dX10_worst_12 H
def p_M_dueNow_L4 (l0 : xN) (l1 : Int32) (K4_58 : Int32 → xH → Prop) (Q : Int32 → xH → Prop) : Nat → Int32 → Int32 → xH → Prop
  | 0, _, _, _ => False
  | f + 1, l2, l3, h => (((4 : Int32) ≤ l3 → K4_58 l2 h) ∧ (¬ (4 : Int32) ≤ l3 → (kd l0.1 = (1, 10)) ∧ (kd (hR h l0 6).1 = (3, 0)) ∧ (vp_in (((4 : Int32) * l1) + l3) (hS h (hR h l0 6) - 1)) ∧ (((hI h (hR h l0 6) (((4 : Int32) * l1) + l3).toNatClampNeg) = 0 → ∀ v6 : Int32, v6 = l3 + (1 : Int32) → (p_M_dueNow_L4 l0 l1 K4_58 Q f) l2 v6 h) ∧ (¬ (hI h (hR h l0 6) (((4 : Int32) * l1) + l3).toNatClampNeg) = 0 → (kd (hR h l0 48).1 = (2, 0)) ∧ (vp_in l3 (hS h (hR h l0 48) - 1)) ∧ (vp_in (l3 + (1 : Int32)) (hS h (hR h l0 48) - 1)) ∧ p_M_figure l0 (((4 : Int32) * l1) + l3) (hI h (hR h l0 48) l3.toNatClampNeg) (hI h (hR h l0 48) (l3 + (1 : Int32)).toNatClampNeg) h (fun h11 : xH => ∀ v12 : Int32, v12 = l2 + (hI h11 l0 45) → ∀ v14 : Int32, v14 = l3 + (1 : Int32) → (p_M_dueNow_L4 l0 l1 K4_58 Q f) v12 v14 h11)))))
set_option maxRecDepth 100000 in
set_option maxHeartbeats 4000000 in
theorem t_M_dueNow_L4 (l0 : xN) (l1 : Int32) (K4_58 : Int32 → xH → Prop) (Q : Int32 → xH → Prop) (hK4_58 : ∀ (x2 : Int32) (h : xH), K4_58 x2 h → WP M_M_dueNow 58 [(2, xi x2)] [] h 0 (qi Q)) : ∀ (f : Nat) (l2 : Int32) (l3 : Int32) (h : xH), p_M_dueNow_L4 l0 l1 K4_58 Q f l2 l3 h → WP M_M_dueNow 4 [(0, xr l0), (1, xi l1), (2, xi l2), (3, xi l3)] [] h 0 (qi Q) := by
  intro f
  induction f with
  | zero => exact fun _ _ _ H => H.elim
  | succ f hB4 =>
    intro l2 l3 h H
    unfold p_M_dueNow_L4 at H
    refine wp_iload_n 3 rfl rfl dX11_dueNow_4 ?_
    refine wp_iconst (4 : Int32) (by decide) dX11_dueNow_5 ?_
    refine WP.at 6 rfl ?_
    refine wp_icmp_ge 58 (by decide) dX11_dueNow_6 (fun c1 => ?_) (fun c1 => ?_)
    · replace H := H.1 c1
      exact WP.pick [2] rfl (hK4_58 l2 _ H)
    · replace H := H.2 c1
      refine wp_aload_n 0 rfl rfl dX11_dueNow_9 ?_
      obtain ⟨q2, H⟩ := H
      refine wp_getr coX11 6 (Nat.le_of_ble_eq_true rfl) fl_X11_26 rfl q2 dX11_dueNow_10 ?_
      refine wp_iconst (4 : Int32) (by decide) dX11_dueNow_13 ?_
      refine wp_iload_n 1 rfl rfl dX11_dueNow_14 ?_
      refine wp_imul dX11_dueNow_15 ?_
      refine wp_iload_n 3 rfl rfl dX11_dueNow_16 ?_
      refine wp_iadd dX11_dueNow_17 ?_
      refine WP.at 18 rfl ?_
      obtain ⟨q3, H⟩ := H
      obtain ⟨q4, H⟩ := H
      refine wp_baload q3 q4 dX11_dueNow_18 ?_
      refine WP.at 19 rfl ?_
      refine wp_if_eq 52 (by decide) dX11_dueNow_19 (fun c5 => ?_) (fun c5 => ?_)
      · replace H := H.1 c5
        refine wp_iincN (1 : Int32) (by decide) rfl (Nat.le_of_ble_eq_true rfl) dX11_dueNow_52 (ls' := fun v6 => [(3, xi v6), (0, xr l0), (1, xi l1), (2, xi l2)]) (fun _ => rfl) (fun v6 e7 => ?_)
        replace H := H v6 e7
        refine WP.at 55 rfl ?_
        refine wp_goto 4 (by decide) dX11_dueNow_55 ?_
        exact WP.pick [1, 2, 3, 0] rfl (hB4 l2 v6 _ H)
      · replace H := H.2 c5
        refine wp_aload_n 0 rfl rfl dX11_dueNow_22 ?_
        refine wp_iconst (4 : Int32) (by decide) dX11_dueNow_23 ?_
        refine wp_iload_n 1 rfl rfl dX11_dueNow_24 ?_
        refine wp_imul dX11_dueNow_25 ?_
        refine wp_iload_n 3 rfl rfl dX11_dueNow_26 ?_
        refine wp_iadd dX11_dueNow_27 ?_
        refine wp_aload_n 0 rfl rfl dX11_dueNow_28 ?_
        refine WP.at 29 rfl ?_
        refine wp_getr coX11 48 (Nat.le_of_ble_eq_true rfl) fl_X11_116 rfl q2 dX11_dueNow_29 ?_
        refine wp_iload_n 3 rfl rfl dX11_dueNow_32 ?_
        obtain ⟨q8, H⟩ := H
        obtain ⟨q9, H⟩ := H
        refine wp_iaload q8 q9 dX11_dueNow_33 ?_
        refine wp_aload_n 0 rfl rfl dX11_dueNow_34 ?_
        refine wp_getr coX11 48 (Nat.le_of_ble_eq_true rfl) fl_X11_116 rfl q2 dX11_dueNow_35 ?_
        refine wp_iload_n 3 rfl rfl dX11_dueNow_38 ?_
        refine wp_iconst (1 : Int32) (by decide) dX11_dueNow_39 ?_
        refine wp_iadd dX11_dueNow_40 ?_
        refine WP.at 41 rfl ?_
        obtain ⟨q10, H⟩ := H
        refine wp_iaload q8 q10 dX11_dueNow_41 ?_
        refine WP.at 42 rfl ?_
        refine wp_cVv (M2 := M_M_figure) coX11 l0 q2 [xi (((4 : Int32) * l1) + l3), xi (hI h (hR h l0 48) l3.toNatClampNeg), xi (hI h (hR h l0 48) (l3 + (1 : Int32)).toNatClampNeg)] rfl lv_X11_258 mo_M_figure (Nat.le_of_ble_eq_true rfl) ⟨(Nat.le_of_ble_eq_true rfl), (Nat.le_of_ble_eq_true rfl)⟩ (Nat.le_of_ble_eq_true rfl) (Nat.le_of_ble_eq_true rfl) dX11_dueNow_42 (t_M_figure l0 (((4 : Int32) * l1) + l3) (hI h (hR h l0 48) l3.toNatClampNeg) (hI h (hR h l0 48) (l3 + (1 : Int32)).toNatClampNeg) _ _ H) (fun h11 H => ?_)
        refine wp_iload_n 2 rfl rfl dX11_dueNow_45 ?_
        refine wp_aload_n 0 rfl rfl dX11_dueNow_46 ?_
        refine wp_geti coX11 45 (Nat.le_of_ble_eq_true rfl) fl_X11_246 rfl q2 dX11_dueNow_47 ?_
        refine wp_iadd dX11_dueNow_50 ?_
        refine wp_nm (fun v12 e13 => ?_)
        replace H := H v12 e13
        refine wp_istore_n 2 rfl (Nat.le_of_ble_eq_true rfl) dX11_dueNow_51 (ls' := [(2, xi v12), (0, xr l0), (1, xi l1), (3, xi l3)]) rfl ?_
        refine wp_iincN (1 : Int32) (by decide) rfl (Nat.le_of_ble_eq_true rfl) dX11_dueNow_52 (ls' := fun v14 => [(3, xi v14), (2, xi v12), (0, xr l0), (1, xi l1)]) (fun _ => rfl) (fun v14 e15 => ?_)
        replace H := H v14 e15
        refine WP.at 55 rfl ?_
        refine WP.at 55 rfl ?_
        refine wp_goto 4 (by decide) dX11_dueNow_55 ?_
        exact WP.pick [2, 3, 1, 0] rfl (hB4 v12 v14 _ H)
def p_M_dueNow (l0 : xN) (l1 : Int32) (h : xH) (Q : Int32 → xH → Prop) : Prop := (∃ f18, p_M_dueNow_L4 l0 l1 (fun (x16 : Int32) (h17 : xH) => Q x16 h17) Q f18 (0 : Int32) (0 : Int32) h)
set_option maxRecDepth 100000 in
set_option maxHeartbeats 4000000 in
theorem t_M_dueNow (l0 : xN) (l1 : Int32) (h : xH) (Q : Int32 → xH → Prop) (H : p_M_dueNow l0 l1 h Q) : WP M_M_dueNow 0 [(0, xr l0), (1, xi l1)] [] h 0 (qi Q) := by
  unfold p_M_dueNow at H
  refine wp_iconst (0 : Int32) (by decide) dX11_dueNow_0 ?_
  refine wp_istore_n 2 rfl (Nat.le_of_ble_eq_true rfl) dX11_dueNow_1 (ls' := [(2, xi (0 : Int32)), (0, xr l0), (1, xi l1)]) rfl ?_
  refine wp_iconst (0 : Int32) (by decide) dX11_dueNow_2 ?_
  refine wp_istore_n 3 rfl (Nat.le_of_ble_eq_true rfl) dX11_dueNow_3 (ls' := [(3, xi (0 : Int32)), (2, xi (0 : Int32)), (0, xr l0), (1, xi l1)]) rfl ?_
  refine WP.at 4 rfl ?_
  obtain ⟨f18, H⟩ := H
  refine WP.pick [2, 3, 1, 0] rfl (t_M_dueNow_L4 l0 l1 _ Q ?_ f18 (0 : Int32) (0 : Int32) _ H)
  · intro x16 h17 H
    refine wp_iload_n 2 rfl rfl dX11_dueNow_58 ?_
    exact wp_iret trivial dX11_dueNow_59 H
