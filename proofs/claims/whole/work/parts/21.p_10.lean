def p_T_came (l0 : xN) (h : xH) (Q : Int32 → xH → Prop) : Prop := (kd l0.1 = (1, 9)) ∧ Q (hI h l0 14) h
set_option maxRecDepth 100000 in
set_option maxHeartbeats 4000000 in
theorem t_T_came (l0 : xN) (h : xH) (Q : Int32 → xH → Prop) (H : p_T_came l0 h Q) : WP M_T_came 0 [(0, xr l0)] [] h 0 (qi Q) := by
  unfold p_T_came at H
  refine wp_aload_n 0 rfl rfl dX10_came_0 ?_
  obtain ⟨q1, H⟩ := H
  refine wp_geti coX10 14 (Nat.le_of_ble_eq_true rfl) fl_X10_330 rfl q1 dX10_came_1 ?_
  exact wp_iret trivial dX10_came_4 H
def p_M_came (l0 : xN) (h : xH) (Q : Int32 → xH → Prop) : Prop := (kd l0.1 = (1, 10)) ∧ Q (hI h l0 62) h
set_option maxRecDepth 100000 in
set_option maxHeartbeats 4000000 in
theorem t_M_came (l0 : xN) (h : xH) (Q : Int32 → xH → Prop) (H : p_M_came l0 h Q) : WP M_M_came 0 [(0, xr l0)] [] h 0 (qi Q) := by
  unfold p_M_came at H
  refine wp_aload_n 0 rfl rfl dX11_came_0 ?_
  obtain ⟨q1, H⟩ := H
  refine wp_geti coX11 62 (Nat.le_of_ble_eq_true rfl) fl_X11_350 rfl q1 dX11_came_1 ?_
  exact wp_iret trivial dX11_came_4 H
def p_T_held (l0 : xN) (l1 : Int32) (l2 : Int32) (h : xH) (Q : Int32 → xH → Prop) : Prop := p_T_isSatchel l1 h (fun (v2 : Int32) (h1 : xH) => ((¬ v2 = 0 → (kd l0.1 = (1, 9)) ∧ p_T_refusePlace l0 l1 l2 h1 (fun (v6 : Int32) (h5 : xH) => ((v6 = 0 → (kd (hR h5 l0 4).1 = (5, 5)) ∧ (vp_in l1 (hS h5 (hR h5 l0 4) - 1)) ∧ (kd (hR h5 (hR h5 l0 4) l1.toNatClampNeg).1 = (1, 5)) ∧ (kd (hR h5 (hR h5 (hR h5 l0 4) l1.toNatClampNeg) 0).1 = (2, 0)) ∧ (vp_in l2 (hS h5 (hR h5 (hR h5 (hR h5 l0 4) l1.toNatClampNeg) 0) - 1)) ∧ Q (hI h5 (hR h5 (hR h5 (hR h5 l0 4) l1.toNatClampNeg) 0) l2.toNatClampNeg) h5) ∧ (¬ v6 = 0 → Q v6 h5)))) ∧ (v2 = 0 → Q (-2 : Int32) h1)))
set_option maxRecDepth 100000 in
set_option maxHeartbeats 4000000 in
theorem t_T_held (l0 : xN) (l1 : Int32) (l2 : Int32) (h : xH) (Q : Int32 → xH → Prop) (H : p_T_held l0 l1 l2 h Q) : WP M_T_held 0 [(0, xr l0), (1, xi l1), (2, xi l2)] [] h 0 (qi Q) := by
  unfold p_T_held at H
  refine wp_iload_n 1 rfl rfl dX10_held_0 ?_
  refine WP.at 1 rfl ?_
  refine wp_cSi (M2 := M_T_isSatchel) [xi l1] rfl ls_X10_324 mo_T_isSatchel (Nat.le_of_ble_eq_true rfl) ⟨(Nat.le_of_ble_eq_true rfl), (Nat.le_of_ble_eq_true rfl)⟩ (Nat.le_of_ble_eq_true rfl) (Nat.le_of_ble_eq_true rfl) dX10_held_1 (t_T_isSatchel l1 _ _ H) (fun v2 h1 H => ?_)
  refine WP.at 4 rfl ?_
  refine wp_if_ne 10 (by decide) dX10_held_4 (fun c3 => ?_) (fun c3 => ?_)
  · replace H := H.1 c3
    refine wp_aload_n 0 rfl rfl dX10_held_10 ?_
    refine wp_iload_n 1 rfl rfl dX10_held_11 ?_
    refine wp_iload_n 2 rfl rfl dX10_held_12 ?_
    refine WP.at 13 rfl ?_
    obtain ⟨q4, H⟩ := H
    refine wp_cVi (M2 := M_T_refusePlace) coX10 l0 q4 [xi l1, xi l2] rfl lv_X10_349 mo_T_refusePlace (Nat.le_of_ble_eq_true rfl) ⟨(Nat.le_of_ble_eq_true rfl), (Nat.le_of_ble_eq_true rfl)⟩ (Nat.le_of_ble_eq_true rfl) (Nat.le_of_ble_eq_true rfl) dX10_held_13 (t_T_refusePlace l0 l1 l2 _ _ H) (fun v6 h5 H => ?_)
    refine wp_istore_n 3 rfl (Nat.le_of_ble_eq_true rfl) dX10_held_16 (ls' := [(3, xi v6), (0, xr l0), (1, xi l1), (2, xi l2)]) rfl ?_
    refine wp_iload_n 3 rfl rfl dX10_held_17 ?_
    refine WP.at 18 rfl ?_
    refine wp_if_eq 25 (by decide) dX10_held_18 (fun c7 => ?_) (fun c7 => ?_)
    · replace H := H.1 c7
      refine wp_aload_n 0 rfl rfl dX10_held_25 ?_
      refine wp_getr coX10 4 (Nat.le_of_ble_eq_true rfl) fl_X10_35 rfl q4 dX10_held_26 ?_
      refine wp_iload_n 1 rfl rfl dX10_held_29 ?_
      obtain ⟨q8, H⟩ := H
      obtain ⟨q9, H⟩ := H
      refine wp_aaload q8 q9 dX10_held_30 ?_
      obtain ⟨q10, H⟩ := H
      refine wp_getr coX6 0 (Nat.le_of_ble_eq_true rfl) fl_X10_340 rfl q10 dX10_held_31 ?_
      refine wp_iload_n 2 rfl rfl dX10_held_34 ?_
      obtain ⟨q11, H⟩ := H
      obtain ⟨q12, H⟩ := H
      refine wp_iaload q11 q12 dX10_held_35 ?_
      refine WP.at 36 rfl ?_
      exact wp_iret trivial dX10_held_36 H
    · replace H := H.2 c7
      refine wp_iload_n 3 rfl rfl dX10_held_21 ?_
      refine WP.at 22 rfl ?_
      refine wp_goto 36 (by decide) dX10_held_22 ?_
      exact wp_iret trivial dX10_held_36 H
  · replace H := H.2 c3
    refine wp_bipush (-2 : Int32) (by decide) dX10_held_7 ?_
    exact wp_iret trivial dX10_held_9 H
def p_M_held (l0 : xN) (l1 : Int32) (l2 : Int32) (h : xH) (Q : Int32 → xH → Prop) : Prop := p_M_isSatchel l1 h (fun (v2 : Int32) (h1 : xH) => ((¬ v2 = 0 → (kd l0.1 = (1, 10)) ∧ (kd (hR h1 l0 58).1 = (3, 0)) ∧ (vp_in l1 (hS h1 (hR h1 l0 58) - 1)) ∧ ((¬ (hI h1 (hR h1 l0 58) l1.toNatClampNeg) = 0 → (kd (hR h1 l0 60).1 = (2, 0)) ∧ (vp_in l1 (hS h1 (hR h1 l0 60) - 1)) ∧ p_M_in l2 (0 : Int32) ((hI h1 (hR h1 l0 60) l1.toNatClampNeg) - (1 : Int32)) h1 (fun (v11 : Int32) (h10 : xH) => ((v11 = 0 → p_M_meets l0 (2 : Int32) h10 (fun (v14 : Int32) (h13 : xH) => Q v14 h13)) ∧ (¬ v11 = 0 → (kd (hR h10 l0 61).1 = (2, 0)) ∧ (vp_in (((10 : Int32) * l1) + l2) (hS h10 (hR h10 l0 61) - 1)) ∧ Q (hI h10 (hR h10 l0 61) (((10 : Int32) * l1) + l2).toNatClampNeg) h10)))) ∧ ((hI h1 (hR h1 l0 58) l1.toNatClampNeg) = 0 → p_M_meets l0 (1 : Int32) h1 (fun (v18 : Int32) (h17 : xH) => Q v18 h17)))) ∧ (v2 = 0 → Q (-2 : Int32) h1)))
set_option maxRecDepth 100000 in
set_option maxHeartbeats 4000000 in
theorem t_M_held (l0 : xN) (l1 : Int32) (l2 : Int32) (h : xH) (Q : Int32 → xH → Prop) (H : p_M_held l0 l1 l2 h Q) : WP M_M_held 0 [(0, xr l0), (1, xi l1), (2, xi l2)] [] h 0 (qi Q) := by
  unfold p_M_held at H
  refine wp_iload_n 1 rfl rfl dX11_held_0 ?_
  refine WP.at 1 rfl ?_
  refine wp_cSi (M2 := M_M_isSatchel) [xi l1] rfl ls_X11_347 mo_M_isSatchel (Nat.le_of_ble_eq_true rfl) ⟨(Nat.le_of_ble_eq_true rfl), (Nat.le_of_ble_eq_true rfl)⟩ (Nat.le_of_ble_eq_true rfl) (Nat.le_of_ble_eq_true rfl) dX11_held_1 (t_M_isSatchel l1 _ _ H) (fun v2 h1 H => ?_)
  refine WP.at 4 rfl ?_
  refine wp_if_ne 10 (by decide) dX11_held_4 (fun c3 => ?_) (fun c3 => ?_)
  · replace H := H.1 c3
    refine wp_aload_n 0 rfl rfl dX11_held_10 ?_
    obtain ⟨q4, H⟩ := H
    refine wp_getr coX11 58 (Nat.le_of_ble_eq_true rfl) fl_X11_143 rfl q4 dX11_held_11 ?_
    refine wp_iload_n 1 rfl rfl dX11_held_14 ?_
    obtain ⟨q5, H⟩ := H
    obtain ⟨q6, H⟩ := H
    refine wp_baload q5 q6 dX11_held_15 ?_
    refine WP.at 16 rfl ?_
    refine wp_if_ne 25 (by decide) dX11_held_16 (fun c7 => ?_) (fun c7 => ?_)
    · replace H := H.1 c7
      refine wp_iload_n 2 rfl rfl dX11_held_25 ?_
      refine wp_iconst (0 : Int32) (by decide) dX11_held_26 ?_
      refine wp_aload_n 0 rfl rfl dX11_held_27 ?_
      refine wp_getr coX11 60 (Nat.le_of_ble_eq_true rfl) fl_X11_149 rfl q4 dX11_held_28 ?_
      refine wp_iload_n 1 rfl rfl dX11_held_31 ?_
      obtain ⟨q8, H⟩ := H
      obtain ⟨q9, H⟩ := H
      refine wp_iaload q8 q9 dX11_held_32 ?_
      refine wp_iconst (1 : Int32) (by decide) dX11_held_33 ?_
      refine WP.at 34 rfl ?_
      refine wp_isub dX11_held_34 ?_
      refine WP.at 35 rfl ?_
      refine wp_cSi (M2 := M_M_in) [xi l2, xi (0 : Int32), xi ((hI h1 (hR h1 l0 60) l1.toNatClampNeg) - (1 : Int32))] rfl ls_X11_172 mo_M_in (Nat.le_of_ble_eq_true rfl) ⟨(Nat.le_of_ble_eq_true rfl), (Nat.le_of_ble_eq_true rfl)⟩ (Nat.le_of_ble_eq_true rfl) (Nat.le_of_ble_eq_true rfl) dX11_held_35 (t_M_in l2 (0 : Int32) ((hI h1 (hR h1 l0 60) l1.toNatClampNeg) - (1 : Int32)) _ _ H) (fun v11 h10 H => ?_)
      refine WP.at 38 rfl ?_
      refine wp_if_eq 55 (by decide) dX11_held_38 (fun c12 => ?_) (fun c12 => ?_)
      · replace H := H.1 c12
        refine wp_aload_n 0 rfl rfl dX11_held_55 ?_
        refine wp_iconst (2 : Int32) (by decide) dX11_held_56 ?_
        refine WP.at 57 rfl ?_
        refine wp_cVi (M2 := M_M_meets) coX11 l0 q4 [xi (2 : Int32)] rfl lv_X11_316 mo_M_meets (Nat.le_of_ble_eq_true rfl) ⟨(Nat.le_of_ble_eq_true rfl), (Nat.le_of_ble_eq_true rfl)⟩ (Nat.le_of_ble_eq_true rfl) (Nat.le_of_ble_eq_true rfl) dX11_held_57 (t_M_meets l0 (2 : Int32) _ _ H) (fun v14 h13 H => ?_)
        exact wp_iret trivial dX11_held_60 H
      · replace H := H.2 c12
        refine wp_aload_n 0 rfl rfl dX11_held_41 ?_
        refine wp_getr coX11 61 (Nat.le_of_ble_eq_true rfl) fl_X11_152 rfl q4 dX11_held_42 ?_
        refine wp_bipush (10 : Int32) (by decide) dX11_held_45 ?_
        refine wp_iload_n 1 rfl rfl dX11_held_47 ?_
        refine wp_imul dX11_held_48 ?_
        refine wp_iload_n 2 rfl rfl dX11_held_49 ?_
        refine wp_iadd dX11_held_50 ?_
        refine WP.at 51 rfl ?_
        obtain ⟨q15, H⟩ := H
        obtain ⟨q16, H⟩ := H
        refine wp_iaload q15 q16 dX11_held_51 ?_
        refine WP.at 52 rfl ?_
        refine wp_goto 60 (by decide) dX11_held_52 ?_
        exact wp_iret trivial dX11_held_60 H
    · replace H := H.2 c7
      refine wp_aload_n 0 rfl rfl dX11_held_19 ?_
      refine wp_iconst (1 : Int32) (by decide) dX11_held_20 ?_
      refine WP.at 21 rfl ?_
      refine wp_cVi (M2 := M_M_meets) coX11 l0 q4 [xi (1 : Int32)] rfl lv_X11_316 mo_M_meets (Nat.le_of_ble_eq_true rfl) ⟨(Nat.le_of_ble_eq_true rfl), (Nat.le_of_ble_eq_true rfl)⟩ (Nat.le_of_ble_eq_true rfl) (Nat.le_of_ble_eq_true rfl) dX11_held_21 (t_M_meets l0 (1 : Int32) _ _ H) (fun v18 h17 H => ?_)
      exact wp_iret trivial dX11_held_24 H
  · replace H := H.2 c3
    refine wp_bipush (-2 : Int32) (by decide) dX11_held_7 ?_
    exact wp_iret trivial dX11_held_9 H
def p_T_cash_L33 (l0 : xN) (l1 : Int32) (K33_90 : Int32 → xH → Prop) (Q : Int32 → xH → Prop) : Nat → Int32 → Int32 → xH → Prop
  | 0, _, _, _ => False
  | f + 1, l2, l3, h => (kd l0.1 = (1, 9)) ∧ (kd (hR h l0 4).1 = (5, 5)) ∧ (vp_in l1 (hS h (hR h l0 4) - 1)) ∧ (kd (hR h (hR h l0 4) l1.toNatClampNeg).1 = (1, 5)) ∧ (((hI h (hR h (hR h l0 4) l1.toNatClampNeg) 2) ≤ l3 → K33_90 l2 h) ∧ (¬ (hI h (hR h (hR h l0 4) l1.toNatClampNeg) 2) ≤ l3 → (vp_in l1 (hS h (hR h l0 4) - 1)) ∧ (kd (hR h (hR h (hR h l0 4) l1.toNatClampNeg) 0).1 = (2, 0)) ∧ (vp_in l3 (hS h (hR h (hR h (hR h l0 4) l1.toNatClampNeg) 0) - 1)) ∧ p_T_findTicket l0 (hI h (hR h (hR h (hR h l0 4) l1.toNatClampNeg) 0) l3.toNatClampNeg) h (fun (v18 : xN) (h17 : xH) => ((v18.1 = 0 → ∀ v20 : Int32, v20 = l3 + (1 : Int32) → (p_T_cash_L33 l0 l1 K33_90 Q f) l2 v20 h17) ∧ (¬ v18.1 = 0 → (kd v18.1 = (1, 8)) ∧ p_Ti_isPayable v18 h17 (fun (v24 : Int32) (h23 : xH) => ((v24 = 0 → ∀ v26 : Int32, v26 = l3 + (1 : Int32) → (p_T_cash_L33 l0 l1 K33_90 Q f) l2 v26 h23) ∧ (¬ v24 = 0 → p_T_payOut v18 h23 (fun (v29 : Int32) (h28 : xH) => ∀ v30 : Int32, v30 = l2 + v29 → ∀ v32 : Int32, v32 = l3 + (1 : Int32) → (p_T_cash_L33 l0 l1 K33_90 Q f) v30 v32 h28)))))))))
set_option maxRecDepth 100000 in
set_option maxHeartbeats 4000000 in
theorem t_T_cash_L33 (l0 : xN) (l1 : Int32) (K33_90 : Int32 → xH → Prop) (Q : Int32 → xH → Prop) (hK33_90 : ∀ (x2 : Int32) (h : xH), K33_90 x2 h → WP M_T_cash 90 [(2, xi x2)] [] h 0 (qi Q)) : ∀ (f : Nat) (l2 : Int32) (l3 : Int32) (h : xH), p_T_cash_L33 l0 l1 K33_90 Q f l2 l3 h → WP M_T_cash 33 [(0, xr l0), (1, xi l1), (2, xi l2), (3, xi l3)] [] h 0 (qi Q) := by
  intro f
  induction f with
  | zero => exact fun _ _ _ H => H.elim
  | succ f hB33 =>
    intro l2 l3 h H
    unfold p_T_cash_L33 at H
    refine wp_iload_n 3 rfl rfl dX10_cash_33 ?_
    refine wp_aload_n 0 rfl rfl dX10_cash_34 ?_
    obtain ⟨q9, H⟩ := H
    refine wp_getr coX10 4 (Nat.le_of_ble_eq_true rfl) fl_X10_35 rfl q9 dX10_cash_35 ?_
    refine wp_iload_n 1 rfl rfl dX10_cash_38 ?_
    obtain ⟨q10, H⟩ := H
    obtain ⟨q11, H⟩ := H
    refine wp_aaload q10 q11 dX10_cash_39 ?_
    obtain ⟨q12, H⟩ := H
    refine wp_geti coX6 2 (Nat.le_of_ble_eq_true rfl) fl_X10_339 rfl q12 dX10_cash_40 ?_
    refine WP.at 43 rfl ?_
    refine wp_icmp_ge 90 (by decide) dX10_cash_43 (fun c13 => ?_) (fun c13 => ?_)
    · replace H := H.1 c13
      exact WP.pick [2] rfl (hK33_90 l2 _ H)
    · replace H := H.2 c13
      refine wp_aload_n 0 rfl rfl dX10_cash_46 ?_
      refine wp_aload_n 0 rfl rfl dX10_cash_47 ?_
      refine wp_getr coX10 4 (Nat.le_of_ble_eq_true rfl) fl_X10_35 rfl q9 dX10_cash_48 ?_
      refine wp_iload_n 1 rfl rfl dX10_cash_51 ?_
      obtain ⟨q14, H⟩ := H
      refine wp_aaload q10 q14 dX10_cash_52 ?_
      refine wp_getr coX6 0 (Nat.le_of_ble_eq_true rfl) fl_X10_340 rfl q12 dX10_cash_53 ?_
      refine wp_iload_n 3 rfl rfl dX10_cash_56 ?_
      refine WP.at 57 rfl ?_
      obtain ⟨q15, H⟩ := H
      obtain ⟨q16, H⟩ := H
      refine wp_iaload q15 q16 dX10_cash_57 ?_
      refine WP.at 58 rfl ?_
      refine wp_cVr (M2 := M_T_findTicket) coX10 l0 q9 [xi (hI h (hR h (hR h (hR h l0 4) l1.toNatClampNeg) 0) l3.toNatClampNeg)] rfl lv_X10_187 mo_T_findTicket (Nat.le_of_ble_eq_true rfl) ⟨(Nat.le_of_ble_eq_true rfl), (Nat.le_of_ble_eq_true rfl)⟩ (Nat.le_of_ble_eq_true rfl) (Nat.le_of_ble_eq_true rfl) dX10_cash_58 (t_T_findTicket l0 (hI h (hR h (hR h (hR h l0 4) l1.toNatClampNeg) 0) l3.toNatClampNeg) _ _ H) (fun v18 h17 H => ?_)
      refine wp_astore (Nat.le_of_ble_eq_true rfl) dX10_cash_61 (ls' := [(4, xr v18), (0, xr l0), (1, xi l1), (2, xi l2), (3, xi l3)]) rfl ?_
      refine wp_aload rfl dX10_cash_63 ?_
      refine WP.at 65 rfl ?_
      refine wp_ifnull 84 (by decide) dX10_cash_65 (fun c19 => ?_) (fun c19 => ?_)
      · replace H := H.1 c19
        refine wp_iincN (1 : Int32) (by decide) rfl (Nat.le_of_ble_eq_true rfl) dX10_cash_84 (ls' := fun v20 => [(3, xi v20), (4, xr v18), (0, xr l0), (1, xi l1), (2, xi l2)]) (fun _ => rfl) (fun v20 e21 => ?_)
        replace H := H v20 e21
        refine WP.at 87 rfl ?_
        refine wp_goto 33 (by decide) dX10_cash_87 ?_
        exact WP.pick [2, 3, 4, 0] rfl (hB33 l2 v20 _ H)
      · replace H := H.2 c19
        refine wp_aload rfl dX10_cash_68 ?_
        refine WP.at 70 rfl ?_
        obtain ⟨q22, H⟩ := H
        refine wp_cVi (M2 := M_Ti_isPayable) coX9 v18 q22 [] rfl lv_X10_202 mo_Ti_isPayable (Nat.le_of_ble_eq_true rfl) ⟨(Nat.le_of_ble_eq_true rfl), (Nat.le_of_ble_eq_true rfl)⟩ (Nat.le_of_ble_eq_true rfl) (Nat.le_of_ble_eq_true rfl) dX10_cash_70 (t_Ti_isPayable v18 _ _ H) (fun v24 h23 H => ?_)
        refine WP.at 73 rfl ?_
        refine wp_if_eq 84 (by decide) dX10_cash_73 (fun c25 => ?_) (fun c25 => ?_)
        · replace H := H.1 c25
          refine wp_iincN (1 : Int32) (by decide) rfl (Nat.le_of_ble_eq_true rfl) dX10_cash_84 (ls' := fun v26 => [(3, xi v26), (4, xr v18), (0, xr l0), (1, xi l1), (2, xi l2)]) (fun _ => rfl) (fun v26 e27 => ?_)
          replace H := H v26 e27
          refine WP.at 87 rfl ?_
          refine wp_goto 33 (by decide) dX10_cash_87 ?_
          exact WP.pick [2, 3, 4, 0] rfl (hB33 l2 v26 _ H)
        · replace H := H.2 c25
          refine wp_iload_n 2 rfl rfl dX10_cash_76 ?_
          refine wp_aload rfl dX10_cash_77 ?_
          refine WP.at 79 rfl ?_
          refine wp_cSi (M2 := M_T_payOut) [xr v18] rfl ls_X10_205 mo_T_payOut (Nat.le_of_ble_eq_true rfl) ⟨(Nat.le_of_ble_eq_true rfl), (Nat.le_of_ble_eq_true rfl)⟩ (Nat.le_of_ble_eq_true rfl) (Nat.le_of_ble_eq_true rfl) dX10_cash_79 (t_T_payOut v18 _ _ H) (fun v29 h28 H => ?_)
          refine wp_iadd dX10_cash_82 ?_
          refine wp_nm (fun v30 e31 => ?_)
          replace H := H v30 e31
          refine wp_istore_n 2 rfl (Nat.le_of_ble_eq_true rfl) dX10_cash_83 (ls' := [(2, xi v30), (4, xr v18), (0, xr l0), (1, xi l1), (3, xi l3)]) rfl ?_
          refine wp_iincN (1 : Int32) (by decide) rfl (Nat.le_of_ble_eq_true rfl) dX10_cash_84 (ls' := fun v32 => [(3, xi v32), (2, xi v30), (4, xr v18), (0, xr l0), (1, xi l1)]) (fun _ => rfl) (fun v32 e33 => ?_)
          replace H := H v32 e33
          refine WP.at 87 rfl ?_
          refine wp_goto 33 (by decide) dX10_cash_87 ?_
          exact WP.pick [3, 4, 1, 0] rfl (hB33 v30 v32 _ H)
def p_T_cash (l0 : xN) (l1 : Int32) (h : xH) (Q : Int32 → xH → Prop) : Prop := p_T_isSatchel l1 h (fun (v2 : Int32) (h1 : xH) => ((¬ v2 = 0 → (kd l0.1 = (1, 9)) ∧ (kd (hR h1 l0 4).1 = (5, 5)) ∧ (vp_in l1 (hS h1 (hR h1 l0 4) - 1)) ∧ (kd (hR h1 (hR h1 l0 4) l1.toNatClampNeg).1 = (1, 5)) ∧ ((¬ (hI h1 (hR h1 (hR h1 l0 4) l1.toNatClampNeg) 2) = (-1 : Int32) → (∃ f36, p_T_cash_L33 l0 l1 (fun (x34 : Int32) (h35 : xH) => Q x34 h35) Q f36 (0 : Int32) (0 : Int32) h1)) ∧ ((hI h1 (hR h1 (hR h1 l0 4) l1.toNatClampNeg) 2) = (-1 : Int32) → p_T_found l0 (1 : Int32) h1 (fun (v38 : Int32) (h37 : xH) => Q v38 h37)))) ∧ (v2 = 0 → Q (-2 : Int32) h1)))
set_option maxRecDepth 100000 in
set_option maxHeartbeats 4000000 in
theorem t_T_cash (l0 : xN) (l1 : Int32) (h : xH) (Q : Int32 → xH → Prop) (H : p_T_cash l0 l1 h Q) : WP M_T_cash 0 [(0, xr l0), (1, xi l1)] [] h 0 (qi Q) := by
  unfold p_T_cash at H
  refine wp_iload_n 1 rfl rfl dX10_cash_0 ?_
  refine WP.at 1 rfl ?_
  refine wp_cSi (M2 := M_T_isSatchel) [xi l1] rfl ls_X10_324 mo_T_isSatchel (Nat.le_of_ble_eq_true rfl) ⟨(Nat.le_of_ble_eq_true rfl), (Nat.le_of_ble_eq_true rfl)⟩ (Nat.le_of_ble_eq_true rfl) (Nat.le_of_ble_eq_true rfl) dX10_cash_1 (t_T_isSatchel l1 _ _ H) (fun v2 h1 H => ?_)
  refine WP.at 4 rfl ?_
  refine wp_if_ne 10 (by decide) dX10_cash_4 (fun c3 => ?_) (fun c3 => ?_)
  · replace H := H.1 c3
    refine wp_aload_n 0 rfl rfl dX10_cash_10 ?_
    obtain ⟨q4, H⟩ := H
    refine wp_getr coX10 4 (Nat.le_of_ble_eq_true rfl) fl_X10_35 rfl q4 dX10_cash_11 ?_
    refine wp_iload_n 1 rfl rfl dX10_cash_14 ?_
    obtain ⟨q5, H⟩ := H
    obtain ⟨q6, H⟩ := H
    refine wp_aaload q5 q6 dX10_cash_15 ?_
    obtain ⟨q7, H⟩ := H
    refine wp_geti coX6 2 (Nat.le_of_ble_eq_true rfl) fl_X10_339 rfl q7 dX10_cash_16 ?_
    refine wp_iconst (-1 : Int32) (by decide) dX10_cash_19 ?_
    refine WP.at 20 rfl ?_
    refine wp_icmp_ne 29 (by decide) dX10_cash_20 (fun c8 => ?_) (fun c8 => ?_)
    · replace H := H.1 c8
      refine wp_iconst (0 : Int32) (by decide) dX10_cash_29 ?_
      refine wp_istore_n 2 rfl (Nat.le_of_ble_eq_true rfl) dX10_cash_30 (ls' := [(2, xi (0 : Int32)), (0, xr l0), (1, xi l1)]) rfl ?_
      refine wp_iconst (0 : Int32) (by decide) dX10_cash_31 ?_
      refine wp_istore_n 3 rfl (Nat.le_of_ble_eq_true rfl) dX10_cash_32 (ls' := [(3, xi (0 : Int32)), (2, xi (0 : Int32)), (0, xr l0), (1, xi l1)]) rfl ?_
      refine WP.at 33 rfl ?_
      obtain ⟨f36, H⟩ := H
      refine WP.pick [2, 3, 1, 0] rfl (t_T_cash_L33 l0 l1 _ Q ?_ f36 (0 : Int32) (0 : Int32) _ H)
      · intro x34 h35 H
        refine wp_iload_n 2 rfl rfl dX10_cash_90 ?_
        exact wp_iret trivial dX10_cash_91 H
    · replace H := H.2 c8
      refine wp_aload_n 0 rfl rfl dX10_cash_23 ?_
      refine wp_iconst (1 : Int32) (by decide) dX10_cash_24 ?_
      refine WP.at 25 rfl ?_
      refine wp_cVi (M2 := M_T_found) coX10 l0 q4 [xi (1 : Int32)] rfl lv_X10_272 mo_T_found (Nat.le_of_ble_eq_true rfl) ⟨(Nat.le_of_ble_eq_true rfl), (Nat.le_of_ble_eq_true rfl)⟩ (Nat.le_of_ble_eq_true rfl) (Nat.le_of_ble_eq_true rfl) dX10_cash_25 (t_T_found l0 (1 : Int32) _ _ H) (fun v38 h37 H => ?_)
      exact wp_iret trivial dX10_cash_28 H
  · replace H := H.2 c3
    refine wp_bipush (-2 : Int32) (by decide) dX10_cash_7 ?_
    exact wp_iret trivial dX10_cash_9 H
def p_M_cash_L29 (l0 : xN) (l1 : Int32) (K29_86 : Int32 → xH → Prop) (Q : Int32 → xH → Prop) : Nat → Int32 → Int32 → xH → Prop
  | 0, _, _, _ => False
  | f + 1, l2, l3, h => (kd l0.1 = (1, 10)) ∧ (kd (hR h l0 60).1 = (2, 0)) ∧ (vp_in l1 (hS h (hR h l0 60) - 1)) ∧ (((hI h (hR h l0 60) l1.toNatClampNeg) ≤ l3 → K29_86 l2 h) ∧ (¬ (hI h (hR h l0 60) l1.toNatClampNeg) ≤ l3 → (kd (hR h l0 61).1 = (2, 0)) ∧ (vp_in (((10 : Int32) * l1) + l3) (hS h (hR h l0 61) - 1)) ∧ ∀ v14 : Int32, v14 = hI h (hR h l0 61) (((10 : Int32) * l1) + l3).toNatClampNeg → ((v14 = (-1 : Int32) → ∀ v17 : Int32, v17 = l2 + (0 : Int32) → ∀ v19 : Int32, v19 = l3 + (1 : Int32) → (p_M_cash_L29 l0 l1 K29_86 Q f) v17 v19 h) ∧ (¬ v14 = (-1 : Int32) → p_M_mayPay l0 v14 h (fun (v22 : Int32) (h21 : xH) => ((v22 = 0 → ∀ v24 : Int32, v24 = l2 + (0 : Int32) → ∀ v26 : Int32, v26 = l3 + (1 : Int32) → (p_M_cash_L29 l0 l1 K29_86 Q f) v24 v26 h21) ∧ (¬ v22 = 0 → p_M_payOne l0 v14 h21 (fun (v29 : Int32) (h28 : xH) => ∀ v30 : Int32, v30 = l2 + v29 → ∀ v32 : Int32, v32 = l3 + (1 : Int32) → (p_M_cash_L29 l0 l1 K29_86 Q f) v30 v32 h28))))))))
set_option maxRecDepth 100000 in
set_option maxHeartbeats 4000000 in
theorem t_M_cash_L29 (l0 : xN) (l1 : Int32) (K29_86 : Int32 → xH → Prop) (Q : Int32 → xH → Prop) (hK29_86 : ∀ (x2 : Int32) (h : xH), K29_86 x2 h → WP M_M_cash 86 [(2, xi x2)] [] h 0 (qi Q)) : ∀ (f : Nat) (l2 : Int32) (l3 : Int32) (h : xH), p_M_cash_L29 l0 l1 K29_86 Q f l2 l3 h → WP M_M_cash 29 [(0, xr l0), (1, xi l1), (2, xi l2), (3, xi l3)] [] h 0 (qi Q) := by
  intro f
  induction f with
  | zero => exact fun _ _ _ H => H.elim
  | succ f hB29 =>
    intro l2 l3 h H
    unfold p_M_cash_L29 at H
    refine wp_iload_n 3 rfl rfl dX11_cash_29 ?_
    refine wp_aload_n 0 rfl rfl dX11_cash_30 ?_
    obtain ⟨q8, H⟩ := H
    refine wp_getr coX11 60 (Nat.le_of_ble_eq_true rfl) fl_X11_149 rfl q8 dX11_cash_31 ?_
    refine wp_iload_n 1 rfl rfl dX11_cash_34 ?_
    obtain ⟨q9, H⟩ := H
    obtain ⟨q10, H⟩ := H
    refine wp_iaload q9 q10 dX11_cash_35 ?_
    refine WP.at 36 rfl ?_
    refine wp_icmp_ge 86 (by decide) dX11_cash_36 (fun c11 => ?_) (fun c11 => ?_)
    · replace H := H.1 c11
      exact WP.pick [2] rfl (hK29_86 l2 _ H)
    · replace H := H.2 c11
      refine wp_aload_n 0 rfl rfl dX11_cash_39 ?_
      refine wp_getr coX11 61 (Nat.le_of_ble_eq_true rfl) fl_X11_152 rfl q8 dX11_cash_40 ?_
      refine wp_bipush (10 : Int32) (by decide) dX11_cash_43 ?_
      refine wp_iload_n 1 rfl rfl dX11_cash_45 ?_
      refine wp_imul dX11_cash_46 ?_
      refine wp_iload_n 3 rfl rfl dX11_cash_47 ?_
      refine wp_iadd dX11_cash_48 ?_
      refine WP.at 49 rfl ?_
      obtain ⟨q12, H⟩ := H
      obtain ⟨q13, H⟩ := H
      refine wp_iaload q12 q13 dX11_cash_49 ?_
      refine wp_nm (fun v14 e15 => ?_)
      replace H := H v14 e15
      refine wp_istore (Nat.le_of_ble_eq_true rfl) dX11_cash_50 (ls' := [(4, xi v14), (0, xr l0), (1, xi l1), (2, xi l2), (3, xi l3)]) rfl ?_
      refine wp_iload_n 2 rfl rfl dX11_cash_52 ?_
      refine wp_iload rfl dX11_cash_53 ?_
      refine wp_iconst (-1 : Int32) (by decide) dX11_cash_55 ?_
      refine WP.at 56 rfl ?_
      refine wp_icmp_eq 77 (by decide) dX11_cash_56 (fun c16 => ?_) (fun c16 => ?_)
      · replace H := H.1 c16
        refine wp_iconst (0 : Int32) (by decide) dX11_cash_77 ?_
        refine wp_iadd dX11_cash_78 ?_
        refine wp_nm (fun v17 e18 => ?_)
        replace H := H v17 e18
        refine wp_istore_n 2 rfl (Nat.le_of_ble_eq_true rfl) dX11_cash_79 (ls' := [(2, xi v17), (4, xi v14), (0, xr l0), (1, xi l1), (3, xi l3)]) rfl ?_
        refine wp_iincN (1 : Int32) (by decide) rfl (Nat.le_of_ble_eq_true rfl) dX11_cash_80 (ls' := fun v19 => [(3, xi v19), (2, xi v17), (4, xi v14), (0, xr l0), (1, xi l1)]) (fun _ => rfl) (fun v19 e20 => ?_)
        replace H := H v19 e20
        refine WP.at 83 rfl ?_
        refine wp_goto 29 (by decide) dX11_cash_83 ?_
        exact WP.pick [3, 4, 1, 0] rfl (hB29 v17 v19 _ H)
      · replace H := H.2 c16
        refine wp_aload_n 0 rfl rfl dX11_cash_59 ?_
        refine wp_iload rfl dX11_cash_60 ?_
        refine WP.at 62 rfl ?_
        refine wp_cVi (M2 := M_M_mayPay) coX11 l0 q8 [xi v14] rfl lv_X11_297 mo_M_mayPay (Nat.le_of_ble_eq_true rfl) ⟨(Nat.le_of_ble_eq_true rfl), (Nat.le_of_ble_eq_true rfl)⟩ (Nat.le_of_ble_eq_true rfl) (Nat.le_of_ble_eq_true rfl) dX11_cash_62 (t_M_mayPay l0 v14 _ _ H) (fun v22 h21 H => ?_)
        refine WP.at 65 rfl ?_
        refine wp_if_eq 77 (by decide) dX11_cash_65 (fun c23 => ?_) (fun c23 => ?_)
        · replace H := H.1 c23
          refine wp_iconst (0 : Int32) (by decide) dX11_cash_77 ?_
          refine wp_iadd dX11_cash_78 ?_
          refine wp_nm (fun v24 e25 => ?_)
          replace H := H v24 e25
          refine wp_istore_n 2 rfl (Nat.le_of_ble_eq_true rfl) dX11_cash_79 (ls' := [(2, xi v24), (4, xi v14), (0, xr l0), (1, xi l1), (3, xi l3)]) rfl ?_
          refine wp_iincN (1 : Int32) (by decide) rfl (Nat.le_of_ble_eq_true rfl) dX11_cash_80 (ls' := fun v26 => [(3, xi v26), (2, xi v24), (4, xi v14), (0, xr l0), (1, xi l1)]) (fun _ => rfl) (fun v26 e27 => ?_)
          replace H := H v26 e27
          refine WP.at 83 rfl ?_
          refine wp_goto 29 (by decide) dX11_cash_83 ?_
          exact WP.pick [3, 4, 1, 0] rfl (hB29 v24 v26 _ H)
        · replace H := H.2 c23
          refine wp_aload_n 0 rfl rfl dX11_cash_68 ?_
          refine wp_iload rfl dX11_cash_69 ?_
          refine WP.at 71 rfl ?_
          refine wp_cVi (M2 := M_M_payOne) coX11 l0 q8 [xi v14] rfl lv_X11_300 mo_M_payOne (Nat.le_of_ble_eq_true rfl) ⟨(Nat.le_of_ble_eq_true rfl), (Nat.le_of_ble_eq_true rfl)⟩ (Nat.le_of_ble_eq_true rfl) (Nat.le_of_ble_eq_true rfl) dX11_cash_71 (t_M_payOne l0 v14 _ _ H) (fun v29 h28 H => ?_)
          refine WP.at 74 rfl ?_
          refine wp_goto 78 (by decide) dX11_cash_74 ?_
          refine wp_iadd dX11_cash_78 ?_
          refine wp_nm (fun v30 e31 => ?_)
          replace H := H v30 e31
          refine wp_istore_n 2 rfl (Nat.le_of_ble_eq_true rfl) dX11_cash_79 (ls' := [(2, xi v30), (4, xi v14), (0, xr l0), (1, xi l1), (3, xi l3)]) rfl ?_
          refine wp_iincN (1 : Int32) (by decide) rfl (Nat.le_of_ble_eq_true rfl) dX11_cash_80 (ls' := fun v32 => [(3, xi v32), (2, xi v30), (4, xi v14), (0, xr l0), (1, xi l1)]) (fun _ => rfl) (fun v32 e33 => ?_)
          replace H := H v32 e33
          refine WP.at 83 rfl ?_
          refine wp_goto 29 (by decide) dX11_cash_83 ?_
          exact WP.pick [3, 4, 1, 0] rfl (hB29 v30 v32 _ H)
def p_M_cash (l0 : xN) (l1 : Int32) (h : xH) (Q : Int32 → xH → Prop) : Prop := p_M_isSatchel l1 h (fun (v2 : Int32) (h1 : xH) => ((¬ v2 = 0 → (kd l0.1 = (1, 10)) ∧ (kd (hR h1 l0 58).1 = (3, 0)) ∧ (vp_in l1 (hS h1 (hR h1 l0 58) - 1)) ∧ ((¬ (hI h1 (hR h1 l0 58) l1.toNatClampNeg) = 0 → (∃ f36, p_M_cash_L29 l0 l1 (fun (x34 : Int32) (h35 : xH) => Q x34 h35) Q f36 (0 : Int32) (0 : Int32) h1)) ∧ ((hI h1 (hR h1 l0 58) l1.toNatClampNeg) = 0 → p_M_meets l0 (1 : Int32) h1 (fun (v38 : Int32) (h37 : xH) => Q v38 h37)))) ∧ (v2 = 0 → Q (-2 : Int32) h1)))
set_option maxRecDepth 100000 in
set_option maxHeartbeats 4000000 in
theorem t_M_cash (l0 : xN) (l1 : Int32) (h : xH) (Q : Int32 → xH → Prop) (H : p_M_cash l0 l1 h Q) : WP M_M_cash 0 [(0, xr l0), (1, xi l1)] [] h 0 (qi Q) := by
  unfold p_M_cash at H
  refine wp_iload_n 1 rfl rfl dX11_cash_0 ?_
  refine WP.at 1 rfl ?_
  refine wp_cSi (M2 := M_M_isSatchel) [xi l1] rfl ls_X11_347 mo_M_isSatchel (Nat.le_of_ble_eq_true rfl) ⟨(Nat.le_of_ble_eq_true rfl), (Nat.le_of_ble_eq_true rfl)⟩ (Nat.le_of_ble_eq_true rfl) (Nat.le_of_ble_eq_true rfl) dX11_cash_1 (t_M_isSatchel l1 _ _ H) (fun v2 h1 H => ?_)
  refine WP.at 4 rfl ?_
  refine wp_if_ne 10 (by decide) dX11_cash_4 (fun c3 => ?_) (fun c3 => ?_)
  · replace H := H.1 c3
    refine wp_aload_n 0 rfl rfl dX11_cash_10 ?_
    obtain ⟨q4, H⟩ := H
    refine wp_getr coX11 58 (Nat.le_of_ble_eq_true rfl) fl_X11_143 rfl q4 dX11_cash_11 ?_
    refine wp_iload_n 1 rfl rfl dX11_cash_14 ?_
    obtain ⟨q5, H⟩ := H
    obtain ⟨q6, H⟩ := H
    refine wp_baload q5 q6 dX11_cash_15 ?_
    refine WP.at 16 rfl ?_
    refine wp_if_ne 25 (by decide) dX11_cash_16 (fun c7 => ?_) (fun c7 => ?_)
    · replace H := H.1 c7
      refine wp_iconst (0 : Int32) (by decide) dX11_cash_25 ?_
      refine wp_istore_n 2 rfl (Nat.le_of_ble_eq_true rfl) dX11_cash_26 (ls' := [(2, xi (0 : Int32)), (0, xr l0), (1, xi l1)]) rfl ?_
      refine wp_iconst (0 : Int32) (by decide) dX11_cash_27 ?_
      refine wp_istore_n 3 rfl (Nat.le_of_ble_eq_true rfl) dX11_cash_28 (ls' := [(3, xi (0 : Int32)), (2, xi (0 : Int32)), (0, xr l0), (1, xi l1)]) rfl ?_
      refine WP.at 29 rfl ?_
      obtain ⟨f36, H⟩ := H
      refine WP.pick [2, 3, 1, 0] rfl (t_M_cash_L29 l0 l1 _ Q ?_ f36 (0 : Int32) (0 : Int32) _ H)
      · intro x34 h35 H
        refine wp_iload_n 2 rfl rfl dX11_cash_86 ?_
        exact wp_iret trivial dX11_cash_87 H
    · replace H := H.2 c7
      refine wp_aload_n 0 rfl rfl dX11_cash_19 ?_
      refine wp_iconst (1 : Int32) (by decide) dX11_cash_20 ?_
      refine WP.at 21 rfl ?_
      refine wp_cVi (M2 := M_M_meets) coX11 l0 q4 [xi (1 : Int32)] rfl lv_X11_316 mo_M_meets (Nat.le_of_ble_eq_true rfl) ⟨(Nat.le_of_ble_eq_true rfl), (Nat.le_of_ble_eq_true rfl)⟩ (Nat.le_of_ble_eq_true rfl) (Nat.le_of_ble_eq_true rfl) dX11_cash_21 (t_M_meets l0 (1 : Int32) _ _ H) (fun v38 h37 H => ?_)
      exact wp_iret trivial dX11_cash_24 H
  · replace H := H.2 c3
    refine wp_bipush (-2 : Int32) (by decide) dX11_cash_7 ?_
    exact wp_iret trivial dX11_cash_9 H
def p_Fl_isNoNumber (l0 : Int32) (h : xH) (Q : Int32 → xH → Prop) : Prop := (((l0 &&& (2147483647 : Int32)) ≤ (2139095040 : Int32) → Q (0 : Int32) h) ∧ (¬ (l0 &&& (2147483647 : Int32)) ≤ (2139095040 : Int32) → Q (1 : Int32) h))
set_option maxRecDepth 100000 in
set_option maxHeartbeats 4000000 in
theorem t_Fl_isNoNumber (l0 : Int32) (h : xH) (Q : Int32 → xH → Prop) (H : p_Fl_isNoNumber l0 h Q) : WP M_Fl_isNoNumber 0 [(0, xi l0)] [] h 0 (qi Q) := by
  unfold p_Fl_isNoNumber at H
  refine wp_iload_n 0 rfl rfl dX3_isNoNumber_0 ?_
  refine wp_ldc (2147483647 : Int32) cI_X3_10 dX3_isNoNumber_1 ?_
  refine wp_iand dX3_isNoNumber_3 ?_
  refine wp_ldc (2139095040 : Int32) cI_X3_9 dX3_isNoNumber_4 ?_
  refine WP.at 6 rfl ?_
  refine wp_icmp_le 13 (by decide) dX3_isNoNumber_6 (fun c1 => ?_) (fun c1 => ?_)
  · replace H := H.1 c1
    refine wp_iconst (0 : Int32) (by decide) dX3_isNoNumber_13 ?_
    exact wp_iret (Or.inl rfl) dX3_isNoNumber_14 H
  · replace H := H.2 c1
    refine wp_iconst (1 : Int32) (by decide) dX3_isNoNumber_9 ?_
    refine WP.at 10 rfl ?_
    refine wp_goto 14 (by decide) dX3_isNoNumber_10 ?_
    exact wp_iret (Or.inr rfl) dX3_isNoNumber_14 H
def p_T_lap_j47 (s0 : Int32) (s1 : Int32) (s2 : xN) (l3 : xN) (h : xH) (Q : Int32 → xH → Prop) : Prop := (kd s2.1 = (2, 0)) ∧ (vp_in s1 (hS h s2 - 1)) ∧ ∀ h12 : xH, h12 = sI h s2 s1.toNatClampNeg s0 → (kd l3.1 = (1, 4)) ∧ ∀ h15 : xH, h15 = sI h12 l3 5 ((hI h12 l3 5) + (1 : Int32)) → Q (hI h15 l3 5) h15
set_option maxRecDepth 100000 in
set_option maxHeartbeats 4000000 in
theorem t_T_lap_j47 (s0 : Int32) (s1 : Int32) (s2 : xN) (l3 : xN) (h : xH) (Q : Int32 → xH → Prop) (H : p_T_lap_j47 s0 s1 s2 l3 h Q) : WP M_T_lap 47 [(3, xr l3)] [xi s0, xi s1, xr s2] h 0 (qi Q) := by
  unfold p_T_lap_j47 at H
  obtain ⟨q10, H⟩ := H
  obtain ⟨q11, H⟩ := H
  refine wp_iastore q10 q11 dX10_lap_47 ?_
  refine wp_nh (fun h12 e13 => ?_)
  replace H := H h12 e13
  refine wp_aload_n 3 rfl rfl dX10_lap_48 ?_
  refine wp_dup rfl dX10_lap_49 ?_
  obtain ⟨q14, H⟩ := H
  refine wp_geti coX5 5 (Nat.le_of_ble_eq_true rfl) fl_X10_352 rfl q14 dX10_lap_50 ?_
  refine wp_iconst (1 : Int32) (by decide) dX10_lap_53 ?_
  refine wp_iadd dX10_lap_54 ?_
  refine wp_puti coX5 5 (Nat.le_of_ble_eq_true rfl) fl_X10_352 rfl rfl ⟨rfl, rfl⟩ q14 dX10_lap_55 ?_
  refine wp_nh (fun h15 e16 => ?_)
  replace H := H h15 e16
  refine WP.at 58 rfl ?_
  refine wp_aload_n 3 rfl rfl dX10_lap_58 ?_
  refine wp_geti coX5 5 (Nat.le_of_ble_eq_true rfl) fl_X10_352 rfl q14 dX10_lap_59 ?_
  exact wp_iret trivial dX10_lap_62 H
def p_T_lap (l0 : xN) (l1 : Int32) (l2 : Int32) (h : xH) (Q : Int32 → xH → Prop) : Prop := (kd l0.1 = (1, 9)) ∧ p_T_findRace l0 l1 h (fun (v3 : xN) (h2 : xH) => ((¬ v3.1 = 0 → (kd v3.1 = (1, 4)) ∧ (((hI h2 v3 5) < (12 : Int32) → p_Fl_isNoNumber l2 h2 (fun (v8 : Int32) (h7 : xH) => ((v8 = 0 → p_T_lap_j47 l2 (hI h2 v3 5) (hR h2 v3 4) v3 h7 Q) ∧ (¬ v8 = 0 → p_T_lap_j47 (2143289344 : Int32) (hI h2 v3 5) (hR h2 v3 4) v3 h7 Q)))) ∧ (¬ (hI h2 v3 5) < (12 : Int32) → Q (-7 : Int32) h2))) ∧ (v3.1 = 0 → Q (-2 : Int32) h2)))
set_option maxRecDepth 100000 in
set_option maxHeartbeats 4000000 in
theorem t_T_lap (l0 : xN) (l1 : Int32) (l2 : Int32) (h : xH) (Q : Int32 → xH → Prop) (H : p_T_lap l0 l1 l2 h Q) : WP M_T_lap 0 [(0, xr l0), (1, xi l1), (2, xi l2)] [] h 0 (qi Q) := by
  unfold p_T_lap at H
  refine wp_aload_n 0 rfl rfl dX10_lap_0 ?_
  refine wp_iload_n 1 rfl rfl dX10_lap_1 ?_
  refine WP.at 2 rfl ?_
  obtain ⟨q1, H⟩ := H
  refine wp_cVr (M2 := M_T_findRace) coX10 l0 q1 [xi l1] rfl lv_X10_76 mo_T_findRace (Nat.le_of_ble_eq_true rfl) ⟨(Nat.le_of_ble_eq_true rfl), (Nat.le_of_ble_eq_true rfl)⟩ (Nat.le_of_ble_eq_true rfl) (Nat.le_of_ble_eq_true rfl) dX10_lap_2 (t_T_findRace l0 l1 _ _ H) (fun v3 h2 H => ?_)
  refine wp_astore_n 3 rfl (Nat.le_of_ble_eq_true rfl) dX10_lap_5 (ls' := [(3, xr v3), (0, xr l0), (1, xi l1), (2, xi l2)]) rfl ?_
  refine wp_aload_n 3 rfl rfl dX10_lap_6 ?_
  refine WP.at 7 rfl ?_
  refine wp_ifnonnull 13 (by decide) dX10_lap_7 (fun c4 => ?_) (fun c4 => ?_)
  · replace H := H.1 c4
    refine wp_aload_n 3 rfl rfl dX10_lap_13 ?_
    obtain ⟨q5, H⟩ := H
    refine wp_geti coX5 5 (Nat.le_of_ble_eq_true rfl) fl_X10_352 rfl q5 dX10_lap_14 ?_
    refine wp_bipush (12 : Int32) (by decide) dX10_lap_17 ?_
    refine WP.at 19 rfl ?_
    refine wp_icmp_lt 25 (by decide) dX10_lap_19 (fun c6 => ?_) (fun c6 => ?_)
    · replace H := H.1 c6
      refine wp_aload_n 3 rfl rfl dX10_lap_25 ?_
      refine wp_getr coX5 4 (Nat.le_of_ble_eq_true rfl) fl_X10_355 rfl q5 dX10_lap_26 ?_
      refine wp_aload_n 3 rfl rfl dX10_lap_29 ?_
      refine wp_geti coX5 5 (Nat.le_of_ble_eq_true rfl) fl_X10_352 rfl q5 dX10_lap_30 ?_
      refine wp_iload_n 2 rfl rfl dX10_lap_33 ?_
      refine WP.at 34 rfl ?_
      refine wp_cSi (M2 := M_Fl_isNoNumber) [xi l2] rfl ls_X10_358 mo_Fl_isNoNumber (Nat.le_of_ble_eq_true rfl) ⟨(Nat.le_of_ble_eq_true rfl), (Nat.le_of_ble_eq_true rfl)⟩ (Nat.le_of_ble_eq_true rfl) (Nat.le_of_ble_eq_true rfl) dX10_lap_34 (t_Fl_isNoNumber l2 _ _ H) (fun v8 h7 H => ?_)
      refine WP.at 37 rfl ?_
      refine wp_if_eq 46 (by decide) dX10_lap_37 (fun c9 => ?_) (fun c9 => ?_)
      · replace H := H.1 c9
        refine wp_iload_n 2 rfl rfl dX10_lap_46 ?_
        refine WP.at 47 rfl ?_
        exact WP.pick [0] rfl (t_T_lap_j47 l2 (hI h2 v3 5) (hR h2 v3 4) v3 _ _ H)
      · replace H := H.2 c9
        refine wp_ldcw (2143289344 : Int32) cI_X10_363 dX10_lap_40 ?_
        refine WP.at 43 rfl ?_
        refine wp_goto 47 (by decide) dX10_lap_43 ?_
        exact WP.pick [0] rfl (t_T_lap_j47 (2143289344 : Int32) (hI h2 v3 5) (hR h2 v3 4) v3 _ _ H)
    · replace H := H.2 c6
      refine wp_bipush (-7 : Int32) (by decide) dX10_lap_22 ?_
      exact wp_iret trivial dX10_lap_24 H
  · replace H := H.2 c4
    refine wp_bipush (-2 : Int32) (by decide) dX10_lap_10 ?_
    exact wp_iret trivial dX10_lap_12 H
def p_M_isNoNumber (l0 : Int32) (h : xH) (Q : Int32 → xH → Prop) : Prop := (((l0 &&& (2147483647 : Int32)) ≤ (2139095040 : Int32) → Q (0 : Int32) h) ∧ (¬ (l0 &&& (2147483647 : Int32)) ≤ (2139095040 : Int32) → Q (1 : Int32) h))
set_option maxRecDepth 100000 in
set_option maxHeartbeats 4000000 in
theorem t_M_isNoNumber (l0 : Int32) (h : xH) (Q : Int32 → xH → Prop) (H : p_M_isNoNumber l0 h Q) : WP M_M_isNoNumber 0 [(0, xi l0)] [] h 0 (qi Q) := by
  unfold p_M_isNoNumber at H
  refine wp_iload_n 0 rfl rfl dX11_isNoNumber_0 ?_
  refine wp_ldcw (2147483647 : Int32) cI_X11_356 dX11_isNoNumber_1 ?_
  refine wp_iand dX11_isNoNumber_4 ?_
  refine wp_ldcw (2139095040 : Int32) cI_X11_357 dX11_isNoNumber_5 ?_
  refine WP.at 8 rfl ?_
  refine wp_icmp_le 15 (by decide) dX11_isNoNumber_8 (fun c1 => ?_) (fun c1 => ?_)
  · replace H := H.1 c1
    refine wp_iconst (0 : Int32) (by decide) dX11_isNoNumber_15 ?_
    exact wp_iret (Or.inl rfl) dX11_isNoNumber_16 H
  · replace H := H.2 c1
    refine wp_iconst (1 : Int32) (by decide) dX11_isNoNumber_11 ?_
    refine WP.at 12 rfl ?_
    refine wp_goto 16 (by decide) dX11_isNoNumber_12 ?_
    exact wp_iret (Or.inr rfl) dX11_isNoNumber_16 H
def p_M_single (l0 : Int32) (h : xH) (Q : UInt32 → xH → Prop) : Prop := p_M_isNoNumber l0 h (fun (v2 : Int32) (h1 : xH) => ((v2 = 0 → (vn_sni2f l0 = false) ∧ Q (l0.toUInt32) h1) ∧ (¬ v2 = 0 → (vn_sni2f (2143289344 : Int32) = false) ∧ Q ((2143289344 : Int32).toUInt32) h1)))
set_option maxRecDepth 100000 in
set_option maxHeartbeats 4000000 in
theorem t_M_single (l0 : Int32) (h : xH) (Q : UInt32 → xH → Prop) (H : p_M_single l0 h Q) : WP M_M_single 0 [(0, xi l0)] [] h 0 (qf Q) := by
  unfold p_M_single at H
  refine wp_iload_n 0 rfl rfl dX11_single_0 ?_
  refine WP.at 1 rfl ?_
  refine wp_cSi (M2 := M_M_isNoNumber) [xi l0] rfl ls_X11_358 mo_M_isNoNumber (Nat.le_of_ble_eq_true rfl) ⟨(Nat.le_of_ble_eq_true rfl), (Nat.le_of_ble_eq_true rfl)⟩ (Nat.le_of_ble_eq_true rfl) (Nat.le_of_ble_eq_true rfl) dX11_single_1 (t_M_isNoNumber l0 _ _ H) (fun v2 h1 H => ?_)
  refine WP.at 4 rfl ?_
  refine wp_if_eq 16 (by decide) dX11_single_4 (fun c3 => ?_) (fun c3 => ?_)
  · replace H := H.1 c3
    refine wp_iload_n 0 rfl rfl dX11_single_16 ?_
    obtain ⟨q4, H⟩ := H
    refine wp_i2fN q4 ln_X11_362 nt_i2fN (Nat.le_of_ble_eq_true rfl) (Nat.le_of_ble_eq_true rfl) (Nat.le_of_ble_eq_true rfl) dX11_single_17 ?_
    exact wp_fret trivial dX11_single_20 H
  · replace H := H.2 c3
    refine wp_ldcw (2143289344 : Int32) cI_X11_361 dX11_single_7 ?_
    obtain ⟨q5, H⟩ := H
    refine wp_i2fN q5 ln_X11_362 nt_i2fN (Nat.le_of_ble_eq_true rfl) (Nat.le_of_ble_eq_true rfl) (Nat.le_of_ble_eq_true rfl) dX11_single_10 ?_
    refine WP.at 13 rfl ?_
    refine wp_goto 20 (by decide) dX11_single_13 ?_
    exact wp_fret trivial dX11_single_20 H
def p_M_lap (l0 : xN) (l1 : Int32) (l2 : Int32) (h : xH) (Q : Int32 → xH → Prop) : Prop := (kd l0.1 = (1, 10)) ∧ p_M_isRace l0 l1 h (fun (v3 : Int32) (h2 : xH) => ((¬ v3 = 0 → (kd (hR h2 l0 64).1 = (2, 0)) ∧ (vp_in l1 (hS h2 (hR h2 l0 64) - 1)) ∧ ((¬ (hI h2 (hR h2 l0 64) l1.toNatClampNeg) = (12 : Int32) → (vp_in l1 (hS h2 (hR h2 l0 64) - 1)) ∧ p_M_single l2 h2 (fun (v10 : UInt32) (h9 : xH) => (kd (hR h2 l0 65).1 = (4, 0)) ∧ (vp_in (((12 : Int32) * l1) + (hI h2 (hR h2 l0 64) l1.toNatClampNeg)) (hS h9 (hR h2 l0 65) - 1)) ∧ ∀ h13 : xH, h13 = sI h9 (hR h2 l0 65) (((12 : Int32) * l1) + (hI h2 (hR h2 l0 64) l1.toNatClampNeg)).toNatClampNeg v10.toInt32 → (kd (hR h13 l0 64).1 = (2, 0)) ∧ (vp_in l1 (hS h13 (hR h13 l0 64) - 1)) ∧ (vp_in l1 (hS h13 (hR h13 l0 64) - 1)) ∧ ∀ h18 : xH, h18 = sI h13 (hR h13 l0 64) l1.toNatClampNeg ((hI h13 (hR h13 l0 64) l1.toNatClampNeg) + (1 : Int32)) → (kd (hR h18 l0 64).1 = (2, 0)) ∧ (vp_in l1 (hS h18 (hR h18 l0 64) - 1)) ∧ Q (hI h18 (hR h18 l0 64) l1.toNatClampNeg) h18)) ∧ ((hI h2 (hR h2 l0 64) l1.toNatClampNeg) = (12 : Int32) → Q (-7 : Int32) h2))) ∧ (v3 = 0 → Q (-2 : Int32) h2)))
set_option maxRecDepth 100000 in
set_option maxHeartbeats 4000000 in
theorem t_M_lap (l0 : xN) (l1 : Int32) (l2 : Int32) (h : xH) (Q : Int32 → xH → Prop) (H : p_M_lap l0 l1 l2 h Q) : WP M_M_lap 0 [(0, xr l0), (1, xi l1), (2, xi l2)] [] h 0 (qi Q) := by
  unfold p_M_lap at H
  refine wp_aload_n 0 rfl rfl dX11_lap_0 ?_
  refine wp_iload_n 1 rfl rfl dX11_lap_1 ?_
  refine WP.at 2 rfl ?_
  obtain ⟨q1, H⟩ := H
  refine wp_cVi (M2 := M_M_isRace) coX11 l0 q1 [xi l1] rfl lv_X11_179 mo_M_isRace (Nat.le_of_ble_eq_true rfl) ⟨(Nat.le_of_ble_eq_true rfl), (Nat.le_of_ble_eq_true rfl)⟩ (Nat.le_of_ble_eq_true rfl) (Nat.le_of_ble_eq_true rfl) dX11_lap_2 (t_M_isRace l0 l1 _ _ H) (fun v3 h2 H => ?_)
  refine WP.at 5 rfl ?_
  refine wp_if_ne 11 (by decide) dX11_lap_5 (fun c4 => ?_) (fun c4 => ?_)
  · replace H := H.1 c4
    refine wp_aload_n 0 rfl rfl dX11_lap_11 ?_
    refine wp_getr coX11 64 (Nat.le_of_ble_eq_true rfl) fl_X11_158 rfl q1 dX11_lap_12 ?_
    refine wp_iload_n 1 rfl rfl dX11_lap_15 ?_
    obtain ⟨q5, H⟩ := H
    obtain ⟨q6, H⟩ := H
    refine wp_iaload q5 q6 dX11_lap_16 ?_
    refine wp_bipush (12 : Int32) (by decide) dX11_lap_17 ?_
    refine WP.at 19 rfl ?_
    refine wp_icmp_ne 25 (by decide) dX11_lap_19 (fun c7 => ?_) (fun c7 => ?_)
    · replace H := H.1 c7
      refine wp_aload_n 0 rfl rfl dX11_lap_25 ?_
      refine wp_getr coX11 65 (Nat.le_of_ble_eq_true rfl) fl_X11_161 rfl q1 dX11_lap_26 ?_
      refine wp_bipush (12 : Int32) (by decide) dX11_lap_29 ?_
      refine wp_iload_n 1 rfl rfl dX11_lap_31 ?_
      refine wp_imul dX11_lap_32 ?_
      refine wp_aload_n 0 rfl rfl dX11_lap_33 ?_
      refine wp_getr coX11 64 (Nat.le_of_ble_eq_true rfl) fl_X11_158 rfl q1 dX11_lap_34 ?_
      refine WP.at 37 rfl ?_
      refine wp_iload_n 1 rfl rfl dX11_lap_37 ?_
      obtain ⟨q8, H⟩ := H
      refine wp_iaload q5 q8 dX11_lap_38 ?_
      refine wp_iadd dX11_lap_39 ?_
      refine wp_iload_n 2 rfl rfl dX11_lap_40 ?_
      refine WP.at 41 rfl ?_
      refine wp_cSf (M2 := M_M_single) [xi l2] rfl ls_X11_374 mo_M_single (Nat.le_of_ble_eq_true rfl) ⟨(Nat.le_of_ble_eq_true rfl), (Nat.le_of_ble_eq_true rfl)⟩ (Nat.le_of_ble_eq_true rfl) (Nat.le_of_ble_eq_true rfl) dX11_lap_41 (t_M_single l2 _ _ H) (fun v10 h9 H => ?_)
      obtain ⟨q11, H⟩ := H
      obtain ⟨q12, H⟩ := H
      refine wp_fastore q11 q12 dX11_lap_44 ?_
      refine wp_nh (fun h13 e14 => ?_)
      replace H := H h13 e14
      refine wp_aload_n 0 rfl rfl dX11_lap_45 ?_
      refine wp_getr coX11 64 (Nat.le_of_ble_eq_true rfl) fl_X11_158 rfl q1 dX11_lap_46 ?_
      refine WP.at 49 rfl ?_
      refine wp_iload_n 1 rfl rfl dX11_lap_49 ?_
      refine wp_dup2 rfl rfl dX11_lap_50 ?_
      obtain ⟨q15, H⟩ := H
      obtain ⟨q16, H⟩ := H
      refine wp_iaload q15 q16 dX11_lap_51 ?_
      refine wp_iconst (1 : Int32) (by decide) dX11_lap_52 ?_
      refine wp_iadd dX11_lap_53 ?_
      obtain ⟨q17, H⟩ := H
      refine wp_iastore q15 q17 dX11_lap_54 ?_
      refine wp_nh (fun h18 e19 => ?_)
      replace H := H h18 e19
      refine wp_aload_n 0 rfl rfl dX11_lap_55 ?_
      refine wp_getr coX11 64 (Nat.le_of_ble_eq_true rfl) fl_X11_158 rfl q1 dX11_lap_56 ?_
      refine WP.at 59 rfl ?_
      refine wp_iload_n 1 rfl rfl dX11_lap_59 ?_
      obtain ⟨q20, H⟩ := H
      obtain ⟨q21, H⟩ := H
      refine wp_iaload q20 q21 dX11_lap_60 ?_
      exact wp_iret trivial dX11_lap_61 H
    · replace H := H.2 c7
      refine wp_bipush (-7 : Int32) (by decide) dX11_lap_22 ?_
      exact wp_iret trivial dX11_lap_24 H
  · replace H := H.2 c4
    refine wp_bipush (-2 : Int32) (by decide) dX11_lap_8 ?_
    exact wp_iret trivial dX11_lap_10 H
def p_T_isLap_j12 (l0 : xN) (h : xH) (Q : Int32 → xH → Prop) : Prop := (kd l0.1 = (1, 9)) ∧ p_T_found l0 (2 : Int32) h (fun (v4 : Int32) (h3 : xH) => Q (0 : Int32) h3)
set_option maxRecDepth 100000 in
set_option maxHeartbeats 4000000 in
theorem t_T_isLap_j12 (l0 : xN) (h : xH) (Q : Int32 → xH → Prop) (H : p_T_isLap_j12 l0 h Q) : WP M_T_isLap 12 [(0, xr l0)] [] h 0 (qi Q) := by
  unfold p_T_isLap_j12 at H
  refine wp_aload_n 0 rfl rfl dX10_isLap_12 ?_
  refine wp_iconst (2 : Int32) (by decide) dX10_isLap_13 ?_
  refine WP.at 14 rfl ?_
  obtain ⟨q2, H⟩ := H
  refine wp_cVi (M2 := M_T_found) coX10 l0 q2 [xi (2 : Int32)] rfl lv_X10_272 mo_T_found (Nat.le_of_ble_eq_true rfl) ⟨(Nat.le_of_ble_eq_true rfl), (Nat.le_of_ble_eq_true rfl)⟩ (Nat.le_of_ble_eq_true rfl) (Nat.le_of_ble_eq_true rfl) dX10_isLap_14 (t_T_found l0 (2 : Int32) _ _ H) (fun v4 h3 H => ?_)
  refine wp_pop rfl dX10_isLap_17 ?_
  refine wp_iconst (0 : Int32) (by decide) dX10_isLap_18 ?_
  exact wp_iret (Or.inl rfl) dX10_isLap_19 H
def p_T_isLap (l0 : xN) (l1 : xN) (l2 : Int32) (h : xH) (Q : Int32 → xH → Prop) : Prop := ((l2 < 0 → p_T_isLap_j12 l0 h Q) ∧ (¬ l2 < 0 → (kd l1.1 = (1, 4)) ∧ ((l2 < (hI h l1 5) → Q (1 : Int32) h) ∧ (¬ l2 < (hI h l1 5) → p_T_isLap_j12 l0 h Q))))
set_option maxRecDepth 100000 in
set_option maxHeartbeats 4000000 in
theorem t_T_isLap (l0 : xN) (l1 : xN) (l2 : Int32) (h : xH) (Q : Int32 → xH → Prop) (H : p_T_isLap l0 l1 l2 h Q) : WP M_T_isLap 0 [(0, xr l0), (1, xr l1), (2, xi l2)] [] h 0 (qi Q) := by
  unfold p_T_isLap at H
  refine wp_iload_n 2 rfl rfl dX10_isLap_0 ?_
  refine WP.at 1 rfl ?_
  refine wp_if_lt 12 (by decide) dX10_isLap_1 (fun c1 => ?_) (fun c1 => ?_)
  · replace H := H.1 c1
    exact WP.pick [0] rfl (t_T_isLap_j12 l0 _ _ H)
  · replace H := H.2 c1
    refine wp_iload_n 2 rfl rfl dX10_isLap_4 ?_
    refine wp_aload_n 1 rfl rfl dX10_isLap_5 ?_
    obtain ⟨q5, H⟩ := H
    refine wp_geti coX5 5 (Nat.le_of_ble_eq_true rfl) fl_X10_352 rfl q5 dX10_isLap_6 ?_
    refine WP.at 9 rfl ?_
    refine wp_icmp_lt 20 (by decide) dX10_isLap_9 (fun c6 => ?_) (fun c6 => ?_)
    · replace H := H.1 c6
      refine wp_iconst (1 : Int32) (by decide) dX10_isLap_20 ?_
      exact wp_iret (Or.inr rfl) dX10_isLap_21 H
    · replace H := H.2 c6
      exact WP.pick [0] rfl (t_T_isLap_j12 l0 _ _ H)
def p_T_lapAt (l0 : xN) (l1 : Int32) (l2 : Int32) (h : xH) (Q : Int32 → xH → Prop) : Prop := (kd l0.1 = (1, 9)) ∧ p_T_findRace l0 l1 h (fun (v3 : xN) (h2 : xH) => ((v3.1 = 0 → Q (0 : Int32) h2) ∧ (¬ v3.1 = 0 → p_T_isLap l0 v3 l2 h2 (fun (v6 : Int32) (h5 : xH) => ((¬ v6 = 0 → (kd v3.1 = (1, 4)) ∧ (kd (hR h5 v3 4).1 = (2, 0)) ∧ (vp_in l2 (hS h5 (hR h5 v3 4) - 1)) ∧ Q (hI h5 (hR h5 v3 4) l2.toNatClampNeg) h5) ∧ (v6 = 0 → Q (0 : Int32) h5))))))
set_option maxRecDepth 100000 in
set_option maxHeartbeats 4000000 in
theorem t_T_lapAt (l0 : xN) (l1 : Int32) (l2 : Int32) (h : xH) (Q : Int32 → xH → Prop) (H : p_T_lapAt l0 l1 l2 h Q) : WP M_T_lapAt 0 [(0, xr l0), (1, xi l1), (2, xi l2)] [] h 0 (qi Q) := by
  unfold p_T_lapAt at H
  refine wp_aload_n 0 rfl rfl dX10_lapAt_0 ?_
  refine wp_iload_n 1 rfl rfl dX10_lapAt_1 ?_
  refine WP.at 2 rfl ?_
  obtain ⟨q1, H⟩ := H
  refine wp_cVr (M2 := M_T_findRace) coX10 l0 q1 [xi l1] rfl lv_X10_76 mo_T_findRace (Nat.le_of_ble_eq_true rfl) ⟨(Nat.le_of_ble_eq_true rfl), (Nat.le_of_ble_eq_true rfl)⟩ (Nat.le_of_ble_eq_true rfl) (Nat.le_of_ble_eq_true rfl) dX10_lapAt_2 (t_T_findRace l0 l1 _ _ H) (fun v3 h2 H => ?_)
  refine wp_astore_n 3 rfl (Nat.le_of_ble_eq_true rfl) dX10_lapAt_5 (ls' := [(3, xr v3), (0, xr l0), (1, xi l1), (2, xi l2)]) rfl ?_
  refine wp_aload_n 3 rfl rfl dX10_lapAt_6 ?_
  refine WP.at 7 rfl ?_
  refine wp_ifnull 19 (by decide) dX10_lapAt_7 (fun c4 => ?_) (fun c4 => ?_)
  · replace H := H.1 c4
    refine wp_iconst (0 : Int32) (by decide) dX10_lapAt_19 ?_
    refine WP.at 20 rfl ?_
    refine wp_goto 29 (by decide) dX10_lapAt_20 ?_
    exact wp_iret trivial dX10_lapAt_29 H
  · replace H := H.2 c4
    refine wp_aload_n 0 rfl rfl dX10_lapAt_10 ?_
    refine wp_aload_n 3 rfl rfl dX10_lapAt_11 ?_
    refine wp_iload_n 2 rfl rfl dX10_lapAt_12 ?_
    refine WP.at 13 rfl ?_
    refine wp_cVi (M2 := M_T_isLap) coX10 l0 q1 [xr v3, xi l2] rfl lv_X10_364 mo_T_isLap (Nat.le_of_ble_eq_true rfl) ⟨(Nat.le_of_ble_eq_true rfl), (Nat.le_of_ble_eq_true rfl)⟩ (Nat.le_of_ble_eq_true rfl) (Nat.le_of_ble_eq_true rfl) dX10_lapAt_13 (t_T_isLap l0 v3 l2 _ _ H) (fun v6 h5 H => ?_)
    refine WP.at 16 rfl ?_
    refine wp_if_ne 23 (by decide) dX10_lapAt_16 (fun c7 => ?_) (fun c7 => ?_)
    · replace H := H.1 c7
      refine wp_aload_n 3 rfl rfl dX10_lapAt_23 ?_
      obtain ⟨q8, H⟩ := H
      refine wp_getr coX5 4 (Nat.le_of_ble_eq_true rfl) fl_X10_355 rfl q8 dX10_lapAt_24 ?_
      refine wp_iload_n 2 rfl rfl dX10_lapAt_27 ?_
      obtain ⟨q9, H⟩ := H
      obtain ⟨q10, H⟩ := H
      refine wp_iaload q9 q10 dX10_lapAt_28 ?_
      exact wp_iret trivial dX10_lapAt_29 H
    · replace H := H.2 c7
      refine wp_iconst (0 : Int32) (by decide) dX10_lapAt_19 ?_
      refine WP.at 20 rfl ?_
      refine wp_goto 29 (by decide) dX10_lapAt_20 ?_
      exact wp_iret trivial dX10_lapAt_29 H
def p_Jf_isNaN (l0 : UInt32) (h : xH) (Q : Int32 → xH → Prop) : Prop := (((Op.cmpValue (FP.fcmp l0 l0) (.l : CmpOp)) = 0 → Q (0 : Int32) h) ∧ (¬ (Op.cmpValue (FP.fcmp l0 l0) (.l : CmpOp)) = 0 → Q (1 : Int32) h))
set_option maxRecDepth 100000 in
set_option maxHeartbeats 4000000 in
theorem t_Jf_isNaN (l0 : UInt32) (h : xH) (Q : Int32 → xH → Prop) (H : p_Jf_isNaN l0 h Q) : WP M_Jf_isNaN 0 [(0, xf l0)] [] h 0 (qi Q) := by
  unfold p_Jf_isNaN at H
  refine wp_fload_n 0 rfl rfl dJxf58ca_isNaN_12338_0 ?_
  refine wp_fload_n 0 rfl rfl dJxf58ca_isNaN_12338_1 ?_
  refine wp_fcmp dJxf58ca_isNaN_12338_2 ?_
  refine WP.at 3 rfl ?_
  refine wp_if_eq 10 (by decide) dJxf58ca_isNaN_12338_3 (fun c1 => ?_) (fun c1 => ?_)
  · replace H := H.1 c1
    refine wp_iconst (0 : Int32) (by decide) dJxf58ca_isNaN_12338_10 ?_
    exact wp_iret (Or.inl rfl) dJxf58ca_isNaN_12338_11 H
  · replace H := H.2 c1
    refine wp_iconst (1 : Int32) (by decide) dJxf58ca_isNaN_12338_6 ?_
    refine WP.at 7 rfl ?_
    refine wp_goto 11 (by decide) dJxf58ca_isNaN_12338_7 ?_
    exact wp_iret (Or.inr rfl) dJxf58ca_isNaN_12338_11 H
def p_Jf_floatToIntBits (l0 : UInt32) (h : xH) (Q : Int32 → xH → Prop) : Prop := p_Jf_isNaN l0 h (fun (v2 : Int32) (h1 : xH) => ((¬ v2 = 0 → Q (2143289344 : Int32) h1) ∧ (v2 = 0 → Q (l0.toInt32) h1)))
set_option maxRecDepth 100000 in
set_option maxHeartbeats 4000000 in
theorem t_Jf_floatToIntBits (l0 : UInt32) (h : xH) (Q : Int32 → xH → Prop) (H : p_Jf_floatToIntBits l0 h Q) : WP M_Jf_floatToIntBits 0 [(0, xf l0)] [] h 0 (qi Q) := by
  unfold p_Jf_floatToIntBits at H
  refine wp_fload_n 0 rfl rfl dJxf58ca_floatToIntBits_5c35a_0 ?_
  refine WP.at 1 rfl ?_
  refine wp_cSi (M2 := M_Jf_isNaN) [xf l0] rfl ls_Jxf58ca_59 mo_Jf_isNaN (Nat.le_of_ble_eq_true rfl) ⟨(Nat.le_of_ble_eq_true rfl), (Nat.le_of_ble_eq_true rfl)⟩ (Nat.le_of_ble_eq_true rfl) (Nat.le_of_ble_eq_true rfl) dJxf58ca_floatToIntBits_5c35a_1 (t_Jf_isNaN l0 _ _ H) (fun v2 h1 H => ?_)
  refine WP.at 4 rfl ?_
  refine wp_if_ne 12 (by decide) dJxf58ca_floatToIntBits_5c35a_4 (fun c3 => ?_) (fun c3 => ?_)
  · replace H := H.1 c3
    refine wp_ldc (2143289344 : Int32) cI_Jxf58ca_77 dJxf58ca_floatToIntBits_5c35a_12 ?_
    exact wp_iret trivial dJxf58ca_floatToIntBits_5c35a_14 H
  · replace H := H.2 c3
    refine wp_fload_n 0 rfl rfl dJxf58ca_floatToIntBits_5c35a_7 ?_
    refine wp_f2iN ln_Jxf58ca_74 nt_f2iN (Nat.le_of_ble_eq_true rfl) (Nat.le_of_ble_eq_true rfl) (Nat.le_of_ble_eq_true rfl) dJxf58ca_floatToIntBits_5c35a_8 ?_
    exact wp_iret trivial dJxf58ca_floatToIntBits_5c35a_11 H
def p_M_bitsOf (l0 : UInt32) (h : xH) (Q : Int32 → xH → Prop) : Prop := (((Op.cmpValue (FP.fcmp l0 l0) (.l : CmpOp)) = 0 → p_Jf_floatToIntBits l0 h (fun (v3 : Int32) (h2 : xH) => Q v3 h2)) ∧ (¬ (Op.cmpValue (FP.fcmp l0 l0) (.l : CmpOp)) = 0 → Q (2143289344 : Int32) h))
set_option maxRecDepth 100000 in
set_option maxHeartbeats 4000000 in
theorem t_M_bitsOf (l0 : UInt32) (h : xH) (Q : Int32 → xH → Prop) (H : p_M_bitsOf l0 h Q) : WP M_M_bitsOf 0 [(0, xf l0)] [] h 0 (qi Q) := by
  unfold p_M_bitsOf at H
  refine wp_fload_n 0 rfl rfl dX11_bitsOf_0 ?_
  refine wp_fload_n 0 rfl rfl dX11_bitsOf_1 ?_
  refine wp_fcmp dX11_bitsOf_2 ?_
  refine WP.at 3 rfl ?_
  refine wp_if_eq 12 (by decide) dX11_bitsOf_3 (fun c1 => ?_) (fun c1 => ?_)
  · replace H := H.1 c1
    refine wp_fload_n 0 rfl rfl dX11_bitsOf_12 ?_
    refine WP.at 13 rfl ?_
    refine wp_cSi (M2 := M_Jf_floatToIntBits) [xf l0] rfl ls_X11_370 mo_Jf_floatToIntBits (Nat.le_of_ble_eq_true rfl) ⟨(Nat.le_of_ble_eq_true rfl), (Nat.le_of_ble_eq_true rfl)⟩ (Nat.le_of_ble_eq_true rfl) (Nat.le_of_ble_eq_true rfl) dX11_bitsOf_13 (t_Jf_floatToIntBits l0 _ _ H) (fun v3 h2 H => ?_)
    exact wp_iret trivial dX11_bitsOf_16 H
  · replace H := H.2 c1
    refine wp_ldcw (2143289344 : Int32) cI_X11_361 dX11_bitsOf_6 ?_
    refine WP.at 9 rfl ?_
    refine wp_goto 16 (by decide) dX11_bitsOf_9 ?_
    exact wp_iret trivial dX11_bitsOf_16 H
def p_M_lapAt (l0 : xN) (l1 : Int32) (l2 : Int32) (h : xH) (Q : Int32 → xH → Prop) : Prop := (kd l0.1 = (1, 10)) ∧ p_M_isRace l0 l1 h (fun (v3 : Int32) (h2 : xH) => ((¬ v3 = 0 → (kd (hR h2 l0 64).1 = (2, 0)) ∧ (vp_in l1 (hS h2 (hR h2 l0 64) - 1)) ∧ p_M_in l2 (0 : Int32) ((hI h2 (hR h2 l0 64) l1.toNatClampNeg) - (1 : Int32)) h2 (fun (v8 : Int32) (h7 : xH) => ((v8 = 0 → p_M_none l0 (2 : Int32) h7 (fun (v11 : Int32) (h10 : xH) => Q v11 h10)) ∧ (¬ v8 = 0 → (kd (hR h7 l0 65).1 = (4, 0)) ∧ (vp_in (((12 : Int32) * l1) + l2) (hS h7 (hR h7 l0 65) - 1)) ∧ p_M_bitsOf ((hI h7 (hR h7 l0 65) (((12 : Int32) * l1) + l2).toNatClampNeg).toUInt32) h7 (fun (v15 : Int32) (h14 : xH) => Q v15 h14))))) ∧ (v3 = 0 → Q (0 : Int32) h2)))
set_option maxRecDepth 100000 in
set_option maxHeartbeats 4000000 in
theorem t_M_lapAt (l0 : xN) (l1 : Int32) (l2 : Int32) (h : xH) (Q : Int32 → xH → Prop) (H : p_M_lapAt l0 l1 l2 h Q) : WP M_M_lapAt 0 [(0, xr l0), (1, xi l1), (2, xi l2)] [] h 0 (qi Q) := by
  unfold p_M_lapAt at H
  refine wp_aload_n 0 rfl rfl dX11_lapAt_0 ?_
  refine wp_iload_n 1 rfl rfl dX11_lapAt_1 ?_
  refine WP.at 2 rfl ?_
  obtain ⟨q1, H⟩ := H
  refine wp_cVi (M2 := M_M_isRace) coX11 l0 q1 [xi l1] rfl lv_X11_179 mo_M_isRace (Nat.le_of_ble_eq_true rfl) ⟨(Nat.le_of_ble_eq_true rfl), (Nat.le_of_ble_eq_true rfl)⟩ (Nat.le_of_ble_eq_true rfl) (Nat.le_of_ble_eq_true rfl) dX11_lapAt_2 (t_M_isRace l0 l1 _ _ H) (fun v3 h2 H => ?_)
  refine WP.at 5 rfl ?_
  refine wp_if_ne 10 (by decide) dX11_lapAt_5 (fun c4 => ?_) (fun c4 => ?_)
  · replace H := H.1 c4
    refine wp_iload_n 2 rfl rfl dX11_lapAt_10 ?_
    refine wp_iconst (0 : Int32) (by decide) dX11_lapAt_11 ?_
    refine wp_aload_n 0 rfl rfl dX11_lapAt_12 ?_
    refine wp_getr coX11 64 (Nat.le_of_ble_eq_true rfl) fl_X11_158 rfl q1 dX11_lapAt_13 ?_
    refine wp_iload_n 1 rfl rfl dX11_lapAt_16 ?_
    obtain ⟨q5, H⟩ := H
    obtain ⟨q6, H⟩ := H
    refine wp_iaload q5 q6 dX11_lapAt_17 ?_
    refine wp_iconst (1 : Int32) (by decide) dX11_lapAt_18 ?_
    refine WP.at 19 rfl ?_
    refine wp_isub dX11_lapAt_19 ?_
    refine WP.at 20 rfl ?_
    refine wp_cSi (M2 := M_M_in) [xi l2, xi (0 : Int32), xi ((hI h2 (hR h2 l0 64) l1.toNatClampNeg) - (1 : Int32))] rfl ls_X11_172 mo_M_in (Nat.le_of_ble_eq_true rfl) ⟨(Nat.le_of_ble_eq_true rfl), (Nat.le_of_ble_eq_true rfl)⟩ (Nat.le_of_ble_eq_true rfl) (Nat.le_of_ble_eq_true rfl) dX11_lapAt_20 (t_M_in l2 (0 : Int32) ((hI h2 (hR h2 l0 64) l1.toNatClampNeg) - (1 : Int32)) _ _ H) (fun v8 h7 H => ?_)
    refine WP.at 23 rfl ?_
    refine wp_if_eq 43 (by decide) dX11_lapAt_23 (fun c9 => ?_) (fun c9 => ?_)
    · replace H := H.1 c9
      refine wp_aload_n 0 rfl rfl dX11_lapAt_43 ?_
      refine wp_iconst (2 : Int32) (by decide) dX11_lapAt_44 ?_
      refine WP.at 45 rfl ?_
      refine wp_cVi (M2 := M_M_none) coX11 l0 q1 [xi (2 : Int32)] rfl lv_X11_344 mo_M_none (Nat.le_of_ble_eq_true rfl) ⟨(Nat.le_of_ble_eq_true rfl), (Nat.le_of_ble_eq_true rfl)⟩ (Nat.le_of_ble_eq_true rfl) (Nat.le_of_ble_eq_true rfl) dX11_lapAt_45 (t_M_none l0 (2 : Int32) _ _ H) (fun v11 h10 H => ?_)
      exact wp_iret trivial dX11_lapAt_48 H
    · replace H := H.2 c9
      refine wp_aload_n 0 rfl rfl dX11_lapAt_26 ?_
      refine wp_getr coX11 65 (Nat.le_of_ble_eq_true rfl) fl_X11_161 rfl q1 dX11_lapAt_27 ?_
      refine wp_bipush (12 : Int32) (by decide) dX11_lapAt_30 ?_
      refine wp_iload_n 1 rfl rfl dX11_lapAt_32 ?_
      refine wp_imul dX11_lapAt_33 ?_
      refine wp_iload_n 2 rfl rfl dX11_lapAt_34 ?_
      refine wp_iadd dX11_lapAt_35 ?_
      refine WP.at 36 rfl ?_
      obtain ⟨q12, H⟩ := H
      obtain ⟨q13, H⟩ := H
      refine wp_faload q12 q13 dX11_lapAt_36 ?_
      refine WP.at 37 rfl ?_
      refine wp_cSi (M2 := M_M_bitsOf) [xf ((hI h7 (hR h7 l0 65) (((12 : Int32) * l1) + l2).toNatClampNeg).toUInt32)] rfl ls_X11_377 mo_M_bitsOf (Nat.le_of_ble_eq_true rfl) ⟨(Nat.le_of_ble_eq_true rfl), (Nat.le_of_ble_eq_true rfl)⟩ (Nat.le_of_ble_eq_true rfl) (Nat.le_of_ble_eq_true rfl) dX11_lapAt_37 (t_M_bitsOf ((hI h7 (hR h7 l0 65) (((12 : Int32) * l1) + l2).toNatClampNeg).toUInt32) _ _ H) (fun v15 h14 H => ?_)
      refine WP.at 40 rfl ?_
      refine wp_goto 48 (by decide) dX11_lapAt_40 ?_
      exact wp_iret trivial dX11_lapAt_48 H
  · replace H := H.2 c4
    refine wp_iconst (0 : Int32) (by decide) dX11_lapAt_8 ?_
    exact wp_iret trivial dX11_lapAt_9 H
def p_Fl_isNumber (l0 : Int32) (h : xH) (Q : Int32 → xH → Prop) : Prop := (((l0 &&& (2139095040 : Int32)) = (2139095040 : Int32) → Q (0 : Int32) h) ∧ (¬ (l0 &&& (2139095040 : Int32)) = (2139095040 : Int32) → Q (1 : Int32) h))
set_option maxRecDepth 100000 in
set_option maxHeartbeats 4000000 in
theorem t_Fl_isNumber (l0 : Int32) (h : xH) (Q : Int32 → xH → Prop) (H : p_Fl_isNumber l0 h Q) : WP M_Fl_isNumber 0 [(0, xi l0)] [] h 0 (qi Q) := by
  unfold p_Fl_isNumber at H
  refine wp_iload_n 0 rfl rfl dX3_isNumber_0 ?_
  refine wp_ldc (2139095040 : Int32) cI_X3_9 dX3_isNumber_1 ?_
  refine wp_iand dX3_isNumber_3 ?_
  refine wp_ldc (2139095040 : Int32) cI_X3_9 dX3_isNumber_4 ?_
  refine WP.at 6 rfl ?_
  refine wp_icmp_eq 13 (by decide) dX3_isNumber_6 (fun c1 => ?_) (fun c1 => ?_)
  · replace H := H.1 c1
    refine wp_iconst (0 : Int32) (by decide) dX3_isNumber_13 ?_
    exact wp_iret (Or.inl rfl) dX3_isNumber_14 H
  · replace H := H.2 c1
    refine wp_iconst (1 : Int32) (by decide) dX3_isNumber_9 ?_
    refine WP.at 10 rfl ?_
    refine wp_goto 14 (by decide) dX3_isNumber_10 ?_
    exact wp_iret (Or.inr rfl) dX3_isNumber_14 H
def p_R_countNumbers_L4 (l0 : xN) (K4_38 : Int32 → xH → Prop) (Q : Int32 → xH → Prop) : Nat → Int32 → Int32 → xH → Prop
  | 0, _, _, _ => False
  | f + 1, l1, l2, h => (kd l0.1 = (1, 4)) ∧ (((hI h l0 5) ≤ l2 → K4_38 l1 h) ∧ (¬ (hI h l0 5) ≤ l2 → (kd (hR h l0 4).1 = (2, 0)) ∧ (vp_in l2 (hS h (hR h l0 4) - 1)) ∧ p_Fl_isNumber (hI h (hR h l0 4) l2.toNatClampNeg) h (fun (v6 : Int32) (h5 : xH) => ((v6 = 0 → ∀ v8 : Int32, v8 = l1 + (0 : Int32) → ∀ v10 : Int32, v10 = l2 + (1 : Int32) → (p_R_countNumbers_L4 l0 K4_38 Q f) v8 v10 h5) ∧ (¬ v6 = 0 → ∀ v12 : Int32, v12 = l1 + (1 : Int32) → ∀ v14 : Int32, v14 = l2 + (1 : Int32) → (p_R_countNumbers_L4 l0 K4_38 Q f) v12 v14 h5)))))
set_option maxRecDepth 100000 in
set_option maxHeartbeats 4000000 in
theorem t_R_countNumbers_L4 (l0 : xN) (K4_38 : Int32 → xH → Prop) (Q : Int32 → xH → Prop) (hK4_38 : ∀ (x1 : Int32) (h : xH), K4_38 x1 h → WP M_R_countNumbers 38 [(1, xi x1)] [] h 0 (qi Q)) : ∀ (f : Nat) (l1 : Int32) (l2 : Int32) (h : xH), p_R_countNumbers_L4 l0 K4_38 Q f l1 l2 h → WP M_R_countNumbers 4 [(0, xr l0), (1, xi l1), (2, xi l2)] [] h 0 (qi Q) := by
  intro f
  induction f with
  | zero => exact fun _ _ _ H => H.elim
  | succ f hB4 =>
    intro l1 l2 h H
    unfold p_R_countNumbers_L4 at H
    refine wp_iload_n 2 rfl rfl dX5_countNumbers_4 ?_
    refine wp_aload_n 0 rfl rfl dX5_countNumbers_5 ?_
    obtain ⟨q1, H⟩ := H
    refine wp_geti coX5 5 (Nat.le_of_ble_eq_true rfl) fl_X5_54 rfl q1 dX5_countNumbers_6 ?_
    refine WP.at 9 rfl ?_
    refine wp_icmp_ge 38 (by decide) dX5_countNumbers_9 (fun c2 => ?_) (fun c2 => ?_)
    · replace H := H.1 c2
      exact WP.pick [1] rfl (hK4_38 l1 _ H)
    · replace H := H.2 c2
      refine wp_iload_n 1 rfl rfl dX5_countNumbers_12 ?_
      refine wp_aload_n 0 rfl rfl dX5_countNumbers_13 ?_
      refine wp_getr coX5 4 (Nat.le_of_ble_eq_true rfl) fl_X5_26 rfl q1 dX5_countNumbers_14 ?_
      refine wp_iload_n 2 rfl rfl dX5_countNumbers_17 ?_
      obtain ⟨q3, H⟩ := H
      obtain ⟨q4, H⟩ := H
      refine wp_iaload q3 q4 dX5_countNumbers_18 ?_
      refine WP.at 19 rfl ?_
      refine wp_cSi (M2 := M_Fl_isNumber) [xi (hI h (hR h l0 4) l2.toNatClampNeg)] rfl ls_X5_57 mo_Fl_isNumber (Nat.le_of_ble_eq_true rfl) ⟨(Nat.le_of_ble_eq_true rfl), (Nat.le_of_ble_eq_true rfl)⟩ (Nat.le_of_ble_eq_true rfl) (Nat.le_of_ble_eq_true rfl) dX5_countNumbers_19 (t_Fl_isNumber (hI h (hR h l0 4) l2.toNatClampNeg) _ _ H) (fun v6 h5 H => ?_)
      refine WP.at 22 rfl ?_
      refine wp_if_eq 29 (by decide) dX5_countNumbers_22 (fun c7 => ?_) (fun c7 => ?_)
      · replace H := H.1 c7
        refine wp_iconst (0 : Int32) (by decide) dX5_countNumbers_29 ?_
        refine wp_iadd dX5_countNumbers_30 ?_
        refine wp_nm (fun v8 e9 => ?_)
        replace H := H v8 e9
        refine wp_istore_n 1 rfl (Nat.le_of_ble_eq_true rfl) dX5_countNumbers_31 (ls' := [(1, xi v8), (0, xr l0), (2, xi l2)]) rfl ?_
        refine wp_iincN (1 : Int32) (by decide) rfl (Nat.le_of_ble_eq_true rfl) dX5_countNumbers_32 (ls' := fun v10 => [(2, xi v10), (1, xi v8), (0, xr l0)]) (fun _ => rfl) (fun v10 e11 => ?_)
        replace H := H v10 e11
        refine WP.at 35 rfl ?_
        refine wp_goto 4 (by decide) dX5_countNumbers_35 ?_
        exact WP.pick [2, 1, 0] rfl (hB4 v8 v10 _ H)
      · replace H := H.2 c7
        refine wp_iconst (1 : Int32) (by decide) dX5_countNumbers_25 ?_
        refine WP.at 26 rfl ?_
        refine wp_goto 30 (by decide) dX5_countNumbers_26 ?_
        refine wp_iadd dX5_countNumbers_30 ?_
        refine wp_nm (fun v12 e13 => ?_)
        replace H := H v12 e13
        refine wp_istore_n 1 rfl (Nat.le_of_ble_eq_true rfl) dX5_countNumbers_31 (ls' := [(1, xi v12), (0, xr l0), (2, xi l2)]) rfl ?_
        refine wp_iincN (1 : Int32) (by decide) rfl (Nat.le_of_ble_eq_true rfl) dX5_countNumbers_32 (ls' := fun v14 => [(2, xi v14), (1, xi v12), (0, xr l0)]) (fun _ => rfl) (fun v14 e15 => ?_)
        replace H := H v14 e15
        refine WP.at 35 rfl ?_
        refine wp_goto 4 (by decide) dX5_countNumbers_35 ?_
        exact WP.pick [2, 1, 0] rfl (hB4 v12 v14 _ H)
def p_R_countNumbers (l0 : xN) (h : xH) (Q : Int32 → xH → Prop) : Prop := (∃ f18, p_R_countNumbers_L4 l0 (fun (x16 : Int32) (h17 : xH) => Q x16 h17) Q f18 (0 : Int32) (0 : Int32) h)
set_option maxRecDepth 100000 in
set_option maxHeartbeats 4000000 in
theorem t_R_countNumbers (l0 : xN) (h : xH) (Q : Int32 → xH → Prop) (H : p_R_countNumbers l0 h Q) : WP M_R_countNumbers 0 [(0, xr l0)] [] h 0 (qi Q) := by
  unfold p_R_countNumbers at H
  refine wp_iconst (0 : Int32) (by decide) dX5_countNumbers_0 ?_
  refine wp_istore_n 1 rfl (Nat.le_of_ble_eq_true rfl) dX5_countNumbers_1 (ls' := [(1, xi (0 : Int32)), (0, xr l0)]) rfl ?_
  refine wp_iconst (0 : Int32) (by decide) dX5_countNumbers_2 ?_
  refine wp_istore_n 2 rfl (Nat.le_of_ble_eq_true rfl) dX5_countNumbers_3 (ls' := [(2, xi (0 : Int32)), (1, xi (0 : Int32)), (0, xr l0)]) rfl ?_
  refine WP.at 4 rfl ?_
  obtain ⟨f18, H⟩ := H
  refine WP.pick [2, 1, 0] rfl (t_R_countNumbers_L4 l0 _ Q ?_ f18 (0 : Int32) (0 : Int32) _ H)
  · intro x16 h17 H
    refine wp_iload_n 1 rfl rfl dX5_countNumbers_38 ?_
    exact wp_iret trivial dX5_countNumbers_39 H
def p_Fl_mantissa (l0 : Int32) (h : xH) (Q : Int32 → xH → Prop) : Prop := ∀ v1 : Int32, v1 = l0 &&& (8388607 : Int32) → ((¬ (l0 &&& (2139095040 : Int32)) = 0 → Q (v1 ||| (8388608 : Int32)) h) ∧ ((l0 &&& (2139095040 : Int32)) = 0 → Q v1 h))
set_option maxRecDepth 100000 in
set_option maxHeartbeats 4000000 in
theorem t_Fl_mantissa (l0 : Int32) (h : xH) (Q : Int32 → xH → Prop) (H : p_Fl_mantissa l0 h Q) : WP M_Fl_mantissa 0 [(0, xi l0)] [] h 0 (qi Q) := by
  unfold p_Fl_mantissa at H
  refine wp_iload_n 0 rfl rfl dX3_mantissa_0 ?_
  refine wp_ldc (8388607 : Int32) cI_X3_11 dX3_mantissa_1 ?_
  refine wp_iand dX3_mantissa_3 ?_
  refine wp_nm (fun v1 e2 => ?_)
  replace H := H v1 e2
  refine wp_istore_n 1 rfl (Nat.le_of_ble_eq_true rfl) dX3_mantissa_4 (ls' := [(1, xi v1), (0, xi l0)]) rfl ?_
  refine wp_iload_n 0 rfl rfl dX3_mantissa_5 ?_
  refine wp_ldc (2139095040 : Int32) cI_X3_9 dX3_mantissa_6 ?_
  refine wp_iand dX3_mantissa_8 ?_
  refine WP.at 9 rfl ?_
  refine WP.at 9 rfl ?_
  refine wp_if_ne 16 (by decide) dX3_mantissa_9 (fun c3 => ?_) (fun c3 => ?_)
  · replace H := H.1 c3
    refine wp_iload_n 1 rfl rfl dX3_mantissa_16 ?_
    refine wp_ldc (8388608 : Int32) cI_X3_12 dX3_mantissa_17 ?_
    refine wp_ior dX3_mantissa_19 ?_
    exact wp_iret trivial dX3_mantissa_20 H
  · replace H := H.2 c3
    refine wp_iload_n 1 rfl rfl dX3_mantissa_12 ?_
    refine WP.at 13 rfl ?_
    refine wp_goto 20 (by decide) dX3_mantissa_13 ?_
    exact wp_iret trivial dX3_mantissa_20 H
def p_Fl_power (l0 : Int32) (h : xH) (Q : Int32 → xH → Prop) : Prop := ∀ v1 : Int32, v1 = (l0 &&& (2139095040 : Int32)) >>> ((23 : Int32) &&& 31) → p_Jm_max v1 (1 : Int32) h (fun (v4 : Int32) (h3 : xH) => Q ((v4 - (1 : Int32)) + (-149 : Int32)) h3)
set_option maxRecDepth 100000 in
set_option maxHeartbeats 4000000 in
theorem t_Fl_power (l0 : Int32) (h : xH) (Q : Int32 → xH → Prop) (H : p_Fl_power l0 h Q) : WP M_Fl_power 0 [(0, xi l0)] [] h 0 (qi Q) := by
  unfold p_Fl_power at H
  refine wp_iload_n 0 rfl rfl dX3_power_0 ?_
  refine wp_ldc (2139095040 : Int32) cI_X3_9 dX3_power_1 ?_
  refine wp_iand dX3_power_3 ?_
  refine wp_bipush (23 : Int32) (by decide) dX3_power_4 ?_
  refine wp_ishr dX3_power_6 ?_
  refine wp_nm (fun v1 e2 => ?_)
  replace H := H v1 e2
  refine wp_istore_n 1 rfl (Nat.le_of_ble_eq_true rfl) dX3_power_7 (ls' := [(1, xi v1), (0, xi l0)]) rfl ?_
  refine wp_iload_n 1 rfl rfl dX3_power_8 ?_
  refine WP.at 9 rfl ?_
  refine wp_iconst (1 : Int32) (by decide) dX3_power_9 ?_
  refine WP.at 10 rfl ?_
  refine wp_cSi (M2 := M_Jm_max) [xi v1, xi (1 : Int32)] rfl ls_X3_13 mo_Jm_max (Nat.le_of_ble_eq_true rfl) ⟨(Nat.le_of_ble_eq_true rfl), (Nat.le_of_ble_eq_true rfl)⟩ (Nat.le_of_ble_eq_true rfl) (Nat.le_of_ble_eq_true rfl) dX3_power_10 (t_Jm_max v1 (1 : Int32) _ _ H) (fun v4 h3 H => ?_)
  refine wp_iconst (1 : Int32) (by decide) dX3_power_13 ?_
  refine wp_isub dX3_power_14 ?_
  refine wp_sipush (-149 : Int32) (by decide) dX3_power_15 ?_
  refine wp_iadd dX3_power_18 ?_
  exact wp_iret trivial dX3_power_19 H
def p_Fl_toFloat_L13 (l0 : Int32) (l2 : Int32) (K13_27 : UInt32 → xH → Prop) (Q : UInt32 → xH → Prop) : Nat → UInt32 → Int32 → xH → Prop
  | 0, _, _, _ => False
  | f + 1, l1, l3, h => ((l3 ≤ 0 → K13_27 l1 h) ∧ (¬ l3 ≤ 0 → (vf_n32 (FP.fmul l1 (1073741824 : UInt32))) ∧ ∀ v9 : UInt32, v9 = FP.fmul l1 (1073741824 : UInt32) → ∀ v11 : Int32, v11 = l3 + (-1 : Int32) → (p_Fl_toFloat_L13 l0 l2 K13_27 Q f) v9 v11 h))
set_option maxRecDepth 100000 in
set_option maxHeartbeats 4000000 in
theorem t_Fl_toFloat_L13 (l0 : Int32) (l2 : Int32) (K13_27 : UInt32 → xH → Prop) (Q : UInt32 → xH → Prop) (hK13_27 : ∀ (x1 : UInt32) (h : xH), K13_27 x1 h → WP M_Fl_toFloat 27 [(0, xi l0), (1, xf x1), (2, xi l2)] [] h 0 (qf Q)) : ∀ (f : Nat) (l1 : UInt32) (l3 : Int32) (h : xH), p_Fl_toFloat_L13 l0 l2 K13_27 Q f l1 l3 h → WP M_Fl_toFloat 13 [(0, xi l0), (1, xf l1), (2, xi l2), (3, xi l3)] [] h 0 (qf Q) := by
  intro f
  induction f with
  | zero => exact fun _ _ _ H => H.elim
  | succ f hB13 =>
    intro l1 l3 h H
    unfold p_Fl_toFloat_L13 at H
    refine wp_iload_n 3 rfl rfl dX3_toFloat_13 ?_
    refine WP.at 14 rfl ?_
    refine wp_if_le 27 (by decide) dX3_toFloat_14 (fun c7 => ?_) (fun c7 => ?_)
    · replace H := H.1 c7
      exact WP.pick [0, 1, 2] rfl (hK13_27 l1 _ H)
    · replace H := H.2 c7
      refine wp_fload_n 1 rfl rfl dX3_toFloat_17 ?_
      refine wp_fconst2 dX3_toFloat_18 ?_
      obtain ⟨q8, H⟩ := H
      refine wp_fmul q8 dX3_toFloat_19 ?_
      refine wp_nmf (fun v9 e10 => ?_)
      replace H := H v9 e10
      refine wp_fstore_n 1 rfl (Nat.le_of_ble_eq_true rfl) dX3_toFloat_20 (ls' := [(1, xf v9), (0, xi l0), (2, xi l2), (3, xi l3)]) rfl ?_
      refine wp_iincN (-1 : Int32) (by decide) rfl (Nat.le_of_ble_eq_true rfl) dX3_toFloat_21 (ls' := fun v11 => [(3, xi v11), (1, xf v9), (0, xi l0), (2, xi l2)]) (fun _ => rfl) (fun v11 e12 => ?_)
      replace H := H v11 e12
      refine WP.at 24 rfl ?_
      refine wp_goto 13 (by decide) dX3_toFloat_24 ?_
      exact WP.pick [2, 1, 3, 0] rfl (hB13 v9 v11 _ H)
def p_Fl_toFloat_L29 (l0 : Int32) (K29_44 : UInt32 → xH → Prop) (Q : UInt32 → xH → Prop) : Nat → UInt32 → Int32 → xH → Prop
  | 0, _, _, _ => False
  | f + 1, l1, l3, h => ((0 ≤ l3 → K29_44 l1 h) ∧ (¬ 0 ≤ l3 → (vf_n32 (FP.fmul l1 (1056964608 : UInt32))) ∧ ∀ v17 : UInt32, v17 = FP.fmul l1 (1056964608 : UInt32) → ∀ v19 : Int32, v19 = l3 + (1 : Int32) → (p_Fl_toFloat_L29 l0 K29_44 Q f) v17 v19 h))
set_option maxRecDepth 100000 in
set_option maxHeartbeats 4000000 in
theorem t_Fl_toFloat_L29 (l0 : Int32) (K29_44 : UInt32 → xH → Prop) (Q : UInt32 → xH → Prop) (hK29_44 : ∀ (x1 : UInt32) (h : xH), K29_44 x1 h → WP M_Fl_toFloat 44 [(0, xi l0), (1, xf x1)] [] h 0 (qf Q)) : ∀ (f : Nat) (l1 : UInt32) (l3 : Int32) (h : xH), p_Fl_toFloat_L29 l0 K29_44 Q f l1 l3 h → WP M_Fl_toFloat 29 [(0, xi l0), (1, xf l1), (3, xi l3)] [] h 0 (qf Q) := by
  intro f
  induction f with
  | zero => exact fun _ _ _ H => H.elim
  | succ f hB29 =>
    intro l1 l3 h H
    unfold p_Fl_toFloat_L29 at H
    refine wp_iload_n 3 rfl rfl dX3_toFloat_29 ?_
    refine WP.at 30 rfl ?_
    refine wp_if_ge 44 (by decide) dX3_toFloat_30 (fun c15 => ?_) (fun c15 => ?_)
    · replace H := H.1 c15
      exact WP.pick [0, 1] rfl (hK29_44 l1 _ H)
    · replace H := H.2 c15
      refine wp_fload_n 1 rfl rfl dX3_toFloat_33 ?_
      refine wp_ldcf (1056964608 : UInt32) cF_X3_26 dX3_toFloat_34 ?_
      obtain ⟨q16, H⟩ := H
      refine wp_fmul q16 dX3_toFloat_36 ?_
      refine wp_nmf (fun v17 e18 => ?_)
      replace H := H v17 e18
      refine wp_fstore_n 1 rfl (Nat.le_of_ble_eq_true rfl) dX3_toFloat_37 (ls' := [(1, xf v17), (0, xi l0), (3, xi l3)]) rfl ?_
      refine wp_iincN (1 : Int32) (by decide) rfl (Nat.le_of_ble_eq_true rfl) dX3_toFloat_38 (ls' := fun v19 => [(3, xi v19), (1, xf v17), (0, xi l0)]) (fun _ => rfl) (fun v19 e20 => ?_)
      replace H := H v19 e20
      refine WP.at 41 rfl ?_
      refine wp_goto 29 (by decide) dX3_toFloat_41 ?_
      exact WP.pick [2, 1, 0] rfl (hB29 v17 v19 _ H)
def p_Fl_toFloat (l0 : Int32) (h : xH) (Q : UInt32 → xH → Prop) : Prop := p_Fl_mantissa l0 h (fun (v2 : Int32) (h1 : xH) => ∀ v3 : UInt32, v3 = FP.i2f v2 → p_Fl_power l0 h1 (fun (v6 : Int32) (h5 : xH) => (∃ f25, p_Fl_toFloat_L13 l0 v6 (fun (x13 : UInt32) (h14 : xH) => (∃ f24, p_Fl_toFloat_L29 l0 (fun (x21 : UInt32) (h22 : xH) => ((0 ≤ l0 → Q x21 h22) ∧ (¬ 0 ≤ l0 → Q (FP.fneg x21) h22))) Q f24 x13 v6 h14)) Q f25 v3 v6 h5)))
set_option maxRecDepth 100000 in
set_option maxHeartbeats 4000000 in
theorem t_Fl_toFloat (l0 : Int32) (h : xH) (Q : UInt32 → xH → Prop) (H : p_Fl_toFloat l0 h Q) : WP M_Fl_toFloat 0 [(0, xi l0)] [] h 0 (qf Q) := by
  unfold p_Fl_toFloat at H
  refine wp_iload_n 0 rfl rfl dX3_toFloat_0 ?_
  refine WP.at 1 rfl ?_
  refine wp_cSi (M2 := M_Fl_mantissa) [xi l0] rfl ls_X3_19 mo_Fl_mantissa (Nat.le_of_ble_eq_true rfl) ⟨(Nat.le_of_ble_eq_true rfl), (Nat.le_of_ble_eq_true rfl)⟩ (Nat.le_of_ble_eq_true rfl) (Nat.le_of_ble_eq_true rfl) dX3_toFloat_1 (t_Fl_mantissa l0 _ _ H) (fun v2 h1 H => ?_)
  refine wp_i2f dX3_toFloat_4 ?_
  refine wp_nmf (fun v3 e4 => ?_)
  replace H := H v3 e4
  refine wp_fstore_n 1 rfl (Nat.le_of_ble_eq_true rfl) dX3_toFloat_5 (ls' := [(1, xf v3), (0, xi l0)]) rfl ?_
  refine wp_iload_n 0 rfl rfl dX3_toFloat_6 ?_
  refine WP.at 7 rfl ?_
  refine wp_cSi (M2 := M_Fl_power) [xi l0] rfl ls_X3_23 mo_Fl_power (Nat.le_of_ble_eq_true rfl) ⟨(Nat.le_of_ble_eq_true rfl), (Nat.le_of_ble_eq_true rfl)⟩ (Nat.le_of_ble_eq_true rfl) (Nat.le_of_ble_eq_true rfl) dX3_toFloat_7 (t_Fl_power l0 _ _ H) (fun v6 h5 H => ?_)
  refine wp_istore_n 2 rfl (Nat.le_of_ble_eq_true rfl) dX3_toFloat_10 (ls' := [(2, xi v6), (1, xf v3), (0, xi l0)]) rfl ?_
  refine WP.at 11 rfl ?_
  refine wp_iload_n 2 rfl rfl dX3_toFloat_11 ?_
  refine wp_istore_n 3 rfl (Nat.le_of_ble_eq_true rfl) dX3_toFloat_12 (ls' := [(3, xi v6), (2, xi v6), (1, xf v3), (0, xi l0)]) rfl ?_
  refine WP.at 13 rfl ?_
  obtain ⟨f25, H⟩ := H
  refine WP.pick [3, 2, 1, 0] rfl (t_Fl_toFloat_L13 l0 v6 _ Q ?_ f25 v3 v6 _ H)
  · intro x13 h14 H
    refine wp_iload_n 2 rfl rfl dX3_toFloat_27 ?_
    refine wp_istore_n 3 rfl (Nat.le_of_ble_eq_true rfl) dX3_toFloat_28 (ls' := [(3, xi v6), (0, xi l0), (1, xf x13), (2, xi v6)]) rfl ?_
    refine WP.at 29 rfl ?_
    obtain ⟨f24, H⟩ := H
    refine WP.pick [1, 2, 0] rfl (t_Fl_toFloat_L29 l0 _ Q ?_ f24 x13 v6 _ H)
    · intro x21 h22 H
      refine wp_iload_n 0 rfl rfl dX3_toFloat_44 ?_
      refine WP.at 45 rfl ?_
      refine wp_if_ge 53 (by decide) dX3_toFloat_45 (fun c23 => ?_) (fun c23 => ?_)
      · replace H := H.1 c23
        refine wp_fload_n 1 rfl rfl dX3_toFloat_53 ?_
        exact wp_fret trivial dX3_toFloat_54 H
      · replace H := H.2 c23
        refine wp_fload_n 1 rfl rfl dX3_toFloat_48 ?_
        refine wp_fneg dX3_toFloat_49 ?_
        refine WP.at 50 rfl ?_
        refine wp_goto 54 (by decide) dX3_toFloat_50 ?_
        exact wp_fret trivial dX3_toFloat_54 H
def p_R_extremeLap_j68 (s0 : Int32) (l0 : xN) (l1 : Int32) (l2 : Int32) (l3 : Int32) (l4 : Int32) (l5 : Int32) (B5 : Int32 → Int32 → xH → Prop) (h : xH) (Q : Int32 → xH → Prop) : Prop := ((¬ l4 = 0 → (kd l0.1 = (1, 4)) ∧ (kd (hR h l0 4).1 = (2, 0)) ∧ (vp_in l3 (hS h (hR h l0 4) - 1)) ∧ ∀ v20 : Int32, v20 = hI h (hR h l0 4) l3.toNatClampNeg → ∀ v22 : Int32, v22 = l3 + (1 : Int32) → B5 v20 v22 h) ∧ (l4 = 0 → p_Fl_toFloat l5 h (fun (v25 : UInt32) (h24 : xH) => p_Fl_toFloat s0 h24 (fun (v27 : UInt32) (h26 : xH) => ((0 ≤ (Op.cmpValue (FP.fcmp v25 v27) (.g : CmpOp)) → ∀ v29 : Int32, v29 = l3 + (1 : Int32) → B5 l2 v29 h26) ∧ (¬ 0 ≤ (Op.cmpValue (FP.fcmp v25 v27) (.g : CmpOp)) → (kd l0.1 = (1, 4)) ∧ (kd (hR h26 l0 4).1 = (2, 0)) ∧ (vp_in l3 (hS h26 (hR h26 l0 4) - 1)) ∧ ∀ v34 : Int32, v34 = hI h26 (hR h26 l0 4) l3.toNatClampNeg → ∀ v36 : Int32, v36 = l3 + (1 : Int32) → B5 v34 v36 h26))))))
set_option maxRecDepth 100000 in
set_option maxHeartbeats 4000000 in
theorem t_R_extremeLap_j68 (s0 : Int32) (l0 : xN) (l1 : Int32) (l2 : Int32) (l3 : Int32) (l4 : Int32) (l5 : Int32) (B5 : Int32 → Int32 → xH → Prop) (h : xH) (Q : Int32 → xH → Prop) (hB5 : ∀ (x2 : Int32) (x3 : Int32) (h : xH), B5 x2 x3 h → WP M_R_extremeLap 5 [(0, xr l0), (1, xi l1), (2, xi x2), (3, xi x3)] [] h 0 (qi Q)) (H : p_R_extremeLap_j68 s0 l0 l1 l2 l3 l4 l5 B5 h Q) : WP M_R_extremeLap 68 [(0, xr l0), (1, xi l1), (2, xi l2), (3, xi l3), (4, xi l4), (5, xi l5)] [xi s0] h 0 (qi Q) := by
  unfold p_R_extremeLap_j68 at H
  refine wp_istore (Nat.le_of_ble_eq_true rfl) dX5_extremeLap_68 (ls' := [(6, xi s0), (0, xr l0), (1, xi l1), (2, xi l2), (3, xi l3), (4, xi l4), (5, xi l5)]) rfl ?_
  refine wp_iload rfl dX5_extremeLap_70 ?_
  refine WP.at 72 rfl ?_
  refine wp_if_ne 89 (by decide) dX5_extremeLap_72 (fun c16 => ?_) (fun c16 => ?_)
  · replace H := H.1 c16
    refine wp_aload_n 0 rfl rfl dX5_extremeLap_89 ?_
    obtain ⟨q17, H⟩ := H
    refine wp_getr coX5 4 (Nat.le_of_ble_eq_true rfl) fl_X5_26 rfl q17 dX5_extremeLap_90 ?_
    refine wp_iload_n 3 rfl rfl dX5_extremeLap_93 ?_
    obtain ⟨q18, H⟩ := H
    obtain ⟨q19, H⟩ := H
    refine wp_iaload q18 q19 dX5_extremeLap_94 ?_
    refine WP.at 95 rfl ?_
    refine wp_goto 99 (by decide) dX5_extremeLap_95 ?_
    refine wp_nm (fun v20 e21 => ?_)
    replace H := H v20 e21
    refine wp_istore_n 2 rfl (Nat.le_of_ble_eq_true rfl) dX5_extremeLap_99 (ls' := [(2, xi v20), (6, xi s0), (0, xr l0), (1, xi l1), (3, xi l3), (4, xi l4), (5, xi l5)]) rfl ?_
    refine wp_iincN (1 : Int32) (by decide) rfl (Nat.le_of_ble_eq_true rfl) dX5_extremeLap_100 (ls' := fun v22 => [(3, xi v22), (2, xi v20), (6, xi s0), (0, xr l0), (1, xi l1), (4, xi l4), (5, xi l5)]) (fun _ => rfl) (fun v22 e23 => ?_)
    replace H := H v22 e23
    refine WP.at 103 rfl ?_
    refine wp_goto 5 (by decide) dX5_extremeLap_103 ?_
    exact WP.pick [3, 4, 1, 0] rfl (hB5 v20 v22 _ H)
  · replace H := H.2 c16
    refine wp_iload rfl dX5_extremeLap_75 ?_
    refine WP.at 77 rfl ?_
    refine wp_cSf (M2 := M_Fl_toFloat) [xi l5] rfl ls_X5_62 mo_Fl_toFloat (Nat.le_of_ble_eq_true rfl) ⟨(Nat.le_of_ble_eq_true rfl), (Nat.le_of_ble_eq_true rfl)⟩ (Nat.le_of_ble_eq_true rfl) (Nat.le_of_ble_eq_true rfl) dX5_extremeLap_77 (t_Fl_toFloat l5 _ _ H) (fun v25 h24 H => ?_)
    refine wp_iload rfl dX5_extremeLap_80 ?_
    refine WP.at 82 rfl ?_
    refine wp_cSf (M2 := M_Fl_toFloat) [xi s0] rfl ls_X5_62 mo_Fl_toFloat (Nat.le_of_ble_eq_true rfl) ⟨(Nat.le_of_ble_eq_true rfl), (Nat.le_of_ble_eq_true rfl)⟩ (Nat.le_of_ble_eq_true rfl) (Nat.le_of_ble_eq_true rfl) dX5_extremeLap_82 (t_Fl_toFloat s0 _ _ H) (fun v27 h26 H => ?_)
    refine wp_fcmp dX5_extremeLap_85 ?_
    refine WP.at 86 rfl ?_
    refine wp_if_ge 98 (by decide) dX5_extremeLap_86 (fun c28 => ?_) (fun c28 => ?_)
    · replace H := H.1 c28
      refine wp_iload_n 2 rfl rfl dX5_extremeLap_98 ?_
      refine wp_istore_n 2 rfl (Nat.le_of_ble_eq_true rfl) dX5_extremeLap_99 (ls' := [(2, xi l2), (6, xi s0), (0, xr l0), (1, xi l1), (3, xi l3), (4, xi l4), (5, xi l5)]) rfl ?_
      refine wp_iincN (1 : Int32) (by decide) rfl (Nat.le_of_ble_eq_true rfl) dX5_extremeLap_100 (ls' := fun v29 => [(3, xi v29), (2, xi l2), (6, xi s0), (0, xr l0), (1, xi l1), (4, xi l4), (5, xi l5)]) (fun _ => rfl) (fun v29 e30 => ?_)
      replace H := H v29 e30
      refine WP.at 103 rfl ?_
      refine wp_goto 5 (by decide) dX5_extremeLap_103 ?_
      exact WP.pick [3, 4, 1, 0] rfl (hB5 l2 v29 _ H)
    · replace H := H.2 c28
      refine wp_aload_n 0 rfl rfl dX5_extremeLap_89 ?_
      obtain ⟨q31, H⟩ := H
      refine wp_getr coX5 4 (Nat.le_of_ble_eq_true rfl) fl_X5_26 rfl q31 dX5_extremeLap_90 ?_
      refine wp_iload_n 3 rfl rfl dX5_extremeLap_93 ?_
      obtain ⟨q32, H⟩ := H
      obtain ⟨q33, H⟩ := H
      refine wp_iaload q32 q33 dX5_extremeLap_94 ?_
      refine WP.at 95 rfl ?_
      refine wp_goto 99 (by decide) dX5_extremeLap_95 ?_
      refine wp_nm (fun v34 e35 => ?_)
      replace H := H v34 e35
      refine wp_istore_n 2 rfl (Nat.le_of_ble_eq_true rfl) dX5_extremeLap_99 (ls' := [(2, xi v34), (6, xi s0), (0, xr l0), (1, xi l1), (3, xi l3), (4, xi l4), (5, xi l5)]) rfl ?_
      refine wp_iincN (1 : Int32) (by decide) rfl (Nat.le_of_ble_eq_true rfl) dX5_extremeLap_100 (ls' := fun v36 => [(3, xi v36), (2, xi v34), (6, xi s0), (0, xr l0), (1, xi l1), (4, xi l4), (5, xi l5)]) (fun _ => rfl) (fun v36 e37 => ?_)
      replace H := H v36 e37
      refine WP.at 103 rfl ?_
      refine wp_goto 5 (by decide) dX5_extremeLap_103 ?_
      exact WP.pick [3, 4, 1, 0] rfl (hB5 v34 v36 _ H)
def p_R_extremeLap_j52 (s0 : Int32) (l0 : xN) (l1 : Int32) (l2 : Int32) (l3 : Int32) (l4 : Int32) (B5 : Int32 → Int32 → xH → Prop) (h : xH) (Q : Int32 → xH → Prop) : Prop := ((l1 = 0 → p_R_extremeLap_j68 l2 l0 l1 l2 l3 l4 s0 B5 h Q) ∧ (¬ l1 = 0 → (kd l0.1 = (1, 4)) ∧ (kd (hR h l0 4).1 = (2, 0)) ∧ (vp_in l3 (hS h (hR h l0 4) - 1)) ∧ p_R_extremeLap_j68 (hI h (hR h l0 4) l3.toNatClampNeg) l0 l1 l2 l3 l4 s0 B5 h Q))
set_option maxRecDepth 100000 in
set_option maxHeartbeats 4000000 in
theorem t_R_extremeLap_j52 (s0 : Int32) (l0 : xN) (l1 : Int32) (l2 : Int32) (l3 : Int32) (l4 : Int32) (B5 : Int32 → Int32 → xH → Prop) (h : xH) (Q : Int32 → xH → Prop) (hB5 : ∀ (x2 : Int32) (x3 : Int32) (h : xH), B5 x2 x3 h → WP M_R_extremeLap 5 [(0, xr l0), (1, xi l1), (2, xi x2), (3, xi x3)] [] h 0 (qi Q)) (H : p_R_extremeLap_j52 s0 l0 l1 l2 l3 l4 B5 h Q) : WP M_R_extremeLap 52 [(0, xr l0), (1, xi l1), (2, xi l2), (3, xi l3), (4, xi l4)] [xi s0] h 0 (qi Q) := by
  unfold p_R_extremeLap_j52 at H
  refine wp_istore (Nat.le_of_ble_eq_true rfl) dX5_extremeLap_52 (ls' := [(5, xi s0), (0, xr l0), (1, xi l1), (2, xi l2), (3, xi l3), (4, xi l4)]) rfl ?_
  refine wp_iload_n 1 rfl rfl dX5_extremeLap_54 ?_
  refine WP.at 55 rfl ?_
  refine wp_if_eq 67 (by decide) dX5_extremeLap_55 (fun c15 => ?_) (fun c15 => ?_)
  · replace H := H.1 c15
    refine wp_iload_n 2 rfl rfl dX5_extremeLap_67 ?_
    refine WP.at 68 rfl ?_
    exact WP.pick [1, 2, 3, 4, 5, 0] rfl (t_R_extremeLap_j68 l2 l0 l1 l2 l3 l4 s0 _ _ _ hB5 H)
  · replace H := H.2 c15
    refine wp_aload_n 0 rfl rfl dX5_extremeLap_58 ?_
    obtain ⟨q38, H⟩ := H
    refine wp_getr coX5 4 (Nat.le_of_ble_eq_true rfl) fl_X5_26 rfl q38 dX5_extremeLap_59 ?_
    refine wp_iload_n 3 rfl rfl dX5_extremeLap_62 ?_
    obtain ⟨q39, H⟩ := H
    obtain ⟨q40, H⟩ := H
    refine wp_iaload q39 q40 dX5_extremeLap_63 ?_
    refine WP.at 64 rfl ?_
    refine wp_goto 68 (by decide) dX5_extremeLap_64 ?_
    exact WP.pick [1, 2, 3, 4, 5, 0] rfl (t_R_extremeLap_j68 (hI h (hR h l0 4) l3.toNatClampNeg) l0 l1 l2 l3 l4 s0 _ _ _ hB5 H)
def p_R_extremeLap_j36 (s0 : Int32) (l0 : xN) (l1 : Int32) (l2 : Int32) (l3 : Int32) (B5 : Int32 → Int32 → xH → Prop) (h : xH) (Q : Int32 → xH → Prop) : Prop := ((l1 = 0 → (kd l0.1 = (1, 4)) ∧ (kd (hR h l0 4).1 = (2, 0)) ∧ (vp_in l3 (hS h (hR h l0 4) - 1)) ∧ p_R_extremeLap_j52 (hI h (hR h l0 4) l3.toNatClampNeg) l0 l1 l2 l3 s0 B5 h Q) ∧ (¬ l1 = 0 → p_R_extremeLap_j52 l2 l0 l1 l2 l3 s0 B5 h Q))
set_option maxRecDepth 100000 in
set_option maxHeartbeats 4000000 in
theorem t_R_extremeLap_j36 (s0 : Int32) (l0 : xN) (l1 : Int32) (l2 : Int32) (l3 : Int32) (B5 : Int32 → Int32 → xH → Prop) (h : xH) (Q : Int32 → xH → Prop) (hB5 : ∀ (x2 : Int32) (x3 : Int32) (h : xH), B5 x2 x3 h → WP M_R_extremeLap 5 [(0, xr l0), (1, xi l1), (2, xi x2), (3, xi x3)] [] h 0 (qi Q)) (H : p_R_extremeLap_j36 s0 l0 l1 l2 l3 B5 h Q) : WP M_R_extremeLap 36 [(0, xr l0), (1, xi l1), (2, xi l2), (3, xi l3)] [xi s0] h 0 (qi Q) := by
  unfold p_R_extremeLap_j36 at H
  refine wp_istore (Nat.le_of_ble_eq_true rfl) dX5_extremeLap_36 (ls' := [(4, xi s0), (0, xr l0), (1, xi l1), (2, xi l2), (3, xi l3)]) rfl ?_
  refine wp_iload_n 1 rfl rfl dX5_extremeLap_38 ?_
  refine WP.at 39 rfl ?_
  refine wp_if_eq 46 (by decide) dX5_extremeLap_39 (fun c11 => ?_) (fun c11 => ?_)
  · replace H := H.1 c11
    refine wp_aload_n 0 rfl rfl dX5_extremeLap_46 ?_
    obtain ⟨q12, H⟩ := H
    refine wp_getr coX5 4 (Nat.le_of_ble_eq_true rfl) fl_X5_26 rfl q12 dX5_extremeLap_47 ?_
    refine wp_iload_n 3 rfl rfl dX5_extremeLap_50 ?_
    obtain ⟨q13, H⟩ := H
    obtain ⟨q14, H⟩ := H
    refine wp_iaload q13 q14 dX5_extremeLap_51 ?_
    refine WP.at 52 rfl ?_
    exact WP.pick [1, 2, 3, 4, 0] rfl (t_R_extremeLap_j52 (hI h (hR h l0 4) l3.toNatClampNeg) l0 l1 l2 l3 s0 _ _ _ hB5 H)
  · replace H := H.2 c11
    refine wp_iload_n 2 rfl rfl dX5_extremeLap_42 ?_
    refine WP.at 43 rfl ?_
    refine wp_goto 52 (by decide) dX5_extremeLap_43 ?_
    exact WP.pick [1, 2, 3, 4, 0] rfl (t_R_extremeLap_j52 l2 l0 l1 l2 l3 s0 _ _ _ hB5 H)
def p_R_extremeLap_L5 (l0 : xN) (l1 : Int32) (K5_106 : Int32 → xH → Prop) (Q : Int32 → xH → Prop) : Nat → Int32 → Int32 → xH → Prop
  | 0, _, _, _ => False
  | f + 1, l2, l3, h => (kd l0.1 = (1, 4)) ∧ (((hI h l0 5) ≤ l3 → K5_106 l2 h) ∧ (¬ (hI h l0 5) ≤ l3 → (kd (hR h l0 4).1 = (2, 0)) ∧ (vp_in l3 (hS h (hR h l0 4) - 1)) ∧ p_Fl_isNumber (hI h (hR h l0 4) l3.toNatClampNeg) h (fun (v6 : Int32) (h5 : xH) => ((v6 = 0 → ∀ v8 : Int32, v8 = l3 + (1 : Int32) → (p_R_extremeLap_L5 l0 l1 K5_106 Q f) l2 v8 h5) ∧ (¬ v6 = 0 → ((¬ l2 = (2143289344 : Int32) → p_R_extremeLap_j36 (0 : Int32) l0 l1 l2 l3 (p_R_extremeLap_L5 l0 l1 K5_106 Q f) h5 Q) ∧ (l2 = (2143289344 : Int32) → p_R_extremeLap_j36 (1 : Int32) l0 l1 l2 l3 (p_R_extremeLap_L5 l0 l1 K5_106 Q f) h5 Q)))))))
set_option maxRecDepth 100000 in
set_option maxHeartbeats 4000000 in
theorem t_R_extremeLap_L5 (l0 : xN) (l1 : Int32) (K5_106 : Int32 → xH → Prop) (Q : Int32 → xH → Prop) (hK5_106 : ∀ (x2 : Int32) (h : xH), K5_106 x2 h → WP M_R_extremeLap 106 [(2, xi x2)] [] h 0 (qi Q)) : ∀ (f : Nat) (l2 : Int32) (l3 : Int32) (h : xH), p_R_extremeLap_L5 l0 l1 K5_106 Q f l2 l3 h → WP M_R_extremeLap 5 [(0, xr l0), (1, xi l1), (2, xi l2), (3, xi l3)] [] h 0 (qi Q) := by
  intro f
  induction f with
  | zero => exact fun _ _ _ H => H.elim
  | succ f hB5 =>
    intro l2 l3 h H
    unfold p_R_extremeLap_L5 at H
    refine wp_iload_n 3 rfl rfl dX5_extremeLap_5 ?_
    refine wp_aload_n 0 rfl rfl dX5_extremeLap_6 ?_
    obtain ⟨q1, H⟩ := H
    refine wp_geti coX5 5 (Nat.le_of_ble_eq_true rfl) fl_X5_54 rfl q1 dX5_extremeLap_7 ?_
    refine WP.at 10 rfl ?_
    refine wp_icmp_ge 106 (by decide) dX5_extremeLap_10 (fun c2 => ?_) (fun c2 => ?_)
    · replace H := H.1 c2
      exact WP.pick [2] rfl (hK5_106 l2 _ H)
    · replace H := H.2 c2
      refine wp_aload_n 0 rfl rfl dX5_extremeLap_13 ?_
      refine wp_getr coX5 4 (Nat.le_of_ble_eq_true rfl) fl_X5_26 rfl q1 dX5_extremeLap_14 ?_
      refine wp_iload_n 3 rfl rfl dX5_extremeLap_17 ?_
      obtain ⟨q3, H⟩ := H
      obtain ⟨q4, H⟩ := H
      refine wp_iaload q3 q4 dX5_extremeLap_18 ?_
      refine WP.at 19 rfl ?_
      refine wp_cSi (M2 := M_Fl_isNumber) [xi (hI h (hR h l0 4) l3.toNatClampNeg)] rfl ls_X5_57 mo_Fl_isNumber (Nat.le_of_ble_eq_true rfl) ⟨(Nat.le_of_ble_eq_true rfl), (Nat.le_of_ble_eq_true rfl)⟩ (Nat.le_of_ble_eq_true rfl) (Nat.le_of_ble_eq_true rfl) dX5_extremeLap_19 (t_Fl_isNumber (hI h (hR h l0 4) l3.toNatClampNeg) _ _ H) (fun v6 h5 H => ?_)
      refine WP.at 22 rfl ?_
      refine wp_if_eq 100 (by decide) dX5_extremeLap_22 (fun c7 => ?_) (fun c7 => ?_)
      · replace H := H.1 c7
        refine wp_iincN (1 : Int32) (by decide) rfl (Nat.le_of_ble_eq_true rfl) dX5_extremeLap_100 (ls' := fun v8 => [(3, xi v8), (0, xr l0), (1, xi l1), (2, xi l2)]) (fun _ => rfl) (fun v8 e9 => ?_)
        replace H := H v8 e9
        refine WP.at 103 rfl ?_
        refine wp_goto 5 (by decide) dX5_extremeLap_103 ?_
        exact WP.pick [1, 2, 3, 0] rfl (hB5 l2 v8 _ H)
      · replace H := H.2 c7
        refine wp_iload_n 2 rfl rfl dX5_extremeLap_25 ?_
        refine wp_ldc (2143289344 : Int32) cI_X5_66 dX5_extremeLap_26 ?_
        refine WP.at 28 rfl ?_
        refine wp_icmp_ne 35 (by decide) dX5_extremeLap_28 (fun c10 => ?_) (fun c10 => ?_)
        · replace H := H.1 c10
          refine wp_iconst (0 : Int32) (by decide) dX5_extremeLap_35 ?_
          refine WP.at 36 rfl ?_
          exact WP.pick [0, 1, 2, 3] rfl (t_R_extremeLap_j36 (0 : Int32) l0 l1 l2 l3 _ _ _ hB5 H)
        · replace H := H.2 c10
          refine wp_iconst (1 : Int32) (by decide) dX5_extremeLap_31 ?_
          refine WP.at 32 rfl ?_
          refine wp_goto 36 (by decide) dX5_extremeLap_32 ?_
          exact WP.pick [0, 1, 2, 3] rfl (t_R_extremeLap_j36 (1 : Int32) l0 l1 l2 l3 _ _ _ hB5 H)
def p_R_extremeLap (l0 : xN) (l1 : Int32) (h : xH) (Q : Int32 → xH → Prop) : Prop := (∃ f43, p_R_extremeLap_L5 l0 l1 (fun (x41 : Int32) (h42 : xH) => Q x41 h42) Q f43 (2143289344 : Int32) (0 : Int32) h)
set_option maxRecDepth 100000 in
set_option maxHeartbeats 4000000 in
theorem t_R_extremeLap (l0 : xN) (l1 : Int32) (h : xH) (Q : Int32 → xH → Prop) (H : p_R_extremeLap l0 l1 h Q) : WP M_R_extremeLap 0 [(0, xr l0), (1, xi l1)] [] h 0 (qi Q) := by
  unfold p_R_extremeLap at H
  refine wp_ldc (2143289344 : Int32) cI_X5_66 dX5_extremeLap_0 ?_
  refine wp_istore_n 2 rfl (Nat.le_of_ble_eq_true rfl) dX5_extremeLap_2 (ls' := [(2, xi (2143289344 : Int32)), (0, xr l0), (1, xi l1)]) rfl ?_
  refine wp_iconst (0 : Int32) (by decide) dX5_extremeLap_3 ?_
  refine wp_istore_n 3 rfl (Nat.le_of_ble_eq_true rfl) dX5_extremeLap_4 (ls' := [(3, xi (0 : Int32)), (2, xi (2143289344 : Int32)), (0, xr l0), (1, xi l1)]) rfl ?_
  refine WP.at 5 rfl ?_
  obtain ⟨f43, H⟩ := H
  refine WP.pick [2, 3, 1, 0] rfl (t_R_extremeLap_L5 l0 l1 _ Q ?_ f43 (2143289344 : Int32) (0 : Int32) _ H)
  · intro x41 h42 H
    refine wp_iload_n 2 rfl rfl dX5_extremeLap_106 ?_
    exact wp_iret trivial dX5_extremeLap_107 H
def p_R_sumOfNumbers_L4 (l0 : xN) (K4_42 : UInt32 → xH → Prop) (Q : UInt32 → xH → Prop) : Nat → UInt32 → Int32 → xH → Prop
  | 0, _, _, _ => False
  | f + 1, l1, l2, h => (kd l0.1 = (1, 4)) ∧ (((hI h l0 5) ≤ l2 → K4_42 l1 h) ∧ (¬ (hI h l0 5) ≤ l2 → (kd (hR h l0 4).1 = (2, 0)) ∧ (vp_in l2 (hS h (hR h l0 4) - 1)) ∧ p_Fl_isNumber (hI h (hR h l0 4) l2.toNatClampNeg) h (fun (v6 : Int32) (h5 : xH) => ((v6 = 0 → ∀ v8 : Int32, v8 = l2 + (1 : Int32) → (p_R_sumOfNumbers_L4 l0 K4_42 Q f) l1 v8 h5) ∧ (¬ v6 = 0 → (kd (hR h5 l0 4).1 = (2, 0)) ∧ (vp_in l2 (hS h5 (hR h5 l0 4) - 1)) ∧ p_Fl_toFloat (hI h5 (hR h5 l0 4) l2.toNatClampNeg) h5 (fun (v13 : UInt32) (h12 : xH) => (vf_n32 (FP.fadd l1 v13)) ∧ ∀ v15 : UInt32, v15 = FP.fadd l1 v13 → ∀ v17 : Int32, v17 = l2 + (1 : Int32) → (p_R_sumOfNumbers_L4 l0 K4_42 Q f) v15 v17 h12))))))
set_option maxRecDepth 100000 in
set_option maxHeartbeats 4000000 in
theorem t_R_sumOfNumbers_L4 (l0 : xN) (K4_42 : UInt32 → xH → Prop) (Q : UInt32 → xH → Prop) (hK4_42 : ∀ (x1 : UInt32) (h : xH), K4_42 x1 h → WP M_R_sumOfNumbers 42 [(1, xf x1)] [] h 0 (qf Q)) : ∀ (f : Nat) (l1 : UInt32) (l2 : Int32) (h : xH), p_R_sumOfNumbers_L4 l0 K4_42 Q f l1 l2 h → WP M_R_sumOfNumbers 4 [(0, xr l0), (1, xf l1), (2, xi l2)] [] h 0 (qf Q) := by
  intro f
  induction f with
  | zero => exact fun _ _ _ H => H.elim
  | succ f hB4 =>
    intro l1 l2 h H
    unfold p_R_sumOfNumbers_L4 at H
    refine wp_iload_n 2 rfl rfl dX5_sumOfNumbers_4 ?_
    refine wp_aload_n 0 rfl rfl dX5_sumOfNumbers_5 ?_
    obtain ⟨q1, H⟩ := H
    refine wp_geti coX5 5 (Nat.le_of_ble_eq_true rfl) fl_X5_54 rfl q1 dX5_sumOfNumbers_6 ?_
    refine WP.at 9 rfl ?_
    refine wp_icmp_ge 42 (by decide) dX5_sumOfNumbers_9 (fun c2 => ?_) (fun c2 => ?_)
    · replace H := H.1 c2
      exact WP.pick [1] rfl (hK4_42 l1 _ H)
    · replace H := H.2 c2
      refine wp_aload_n 0 rfl rfl dX5_sumOfNumbers_12 ?_
      refine wp_getr coX5 4 (Nat.le_of_ble_eq_true rfl) fl_X5_26 rfl q1 dX5_sumOfNumbers_13 ?_
      refine wp_iload_n 2 rfl rfl dX5_sumOfNumbers_16 ?_
      obtain ⟨q3, H⟩ := H
      obtain ⟨q4, H⟩ := H
      refine wp_iaload q3 q4 dX5_sumOfNumbers_17 ?_
      refine WP.at 18 rfl ?_
      refine wp_cSi (M2 := M_Fl_isNumber) [xi (hI h (hR h l0 4) l2.toNatClampNeg)] rfl ls_X5_57 mo_Fl_isNumber (Nat.le_of_ble_eq_true rfl) ⟨(Nat.le_of_ble_eq_true rfl), (Nat.le_of_ble_eq_true rfl)⟩ (Nat.le_of_ble_eq_true rfl) (Nat.le_of_ble_eq_true rfl) dX5_sumOfNumbers_18 (t_Fl_isNumber (hI h (hR h l0 4) l2.toNatClampNeg) _ _ H) (fun v6 h5 H => ?_)
      refine WP.at 21 rfl ?_
      refine wp_if_eq 36 (by decide) dX5_sumOfNumbers_21 (fun c7 => ?_) (fun c7 => ?_)
      · replace H := H.1 c7
        refine wp_iincN (1 : Int32) (by decide) rfl (Nat.le_of_ble_eq_true rfl) dX5_sumOfNumbers_36 (ls' := fun v8 => [(2, xi v8), (0, xr l0), (1, xf l1)]) (fun _ => rfl) (fun v8 e9 => ?_)
        replace H := H v8 e9
        refine WP.at 39 rfl ?_
        refine wp_goto 4 (by decide) dX5_sumOfNumbers_39 ?_
        exact WP.pick [1, 2, 0] rfl (hB4 l1 v8 _ H)
      · replace H := H.2 c7
        refine wp_fload_n 1 rfl rfl dX5_sumOfNumbers_24 ?_
        refine wp_aload_n 0 rfl rfl dX5_sumOfNumbers_25 ?_
        refine wp_getr coX5 4 (Nat.le_of_ble_eq_true rfl) fl_X5_26 rfl q1 dX5_sumOfNumbers_26 ?_
        refine wp_iload_n 2 rfl rfl dX5_sumOfNumbers_29 ?_
        obtain ⟨q10, H⟩ := H
        obtain ⟨q11, H⟩ := H
        refine wp_iaload q10 q11 dX5_sumOfNumbers_30 ?_
        refine WP.at 31 rfl ?_
        refine wp_cSf (M2 := M_Fl_toFloat) [xi (hI h5 (hR h5 l0 4) l2.toNatClampNeg)] rfl ls_X5_62 mo_Fl_toFloat (Nat.le_of_ble_eq_true rfl) ⟨(Nat.le_of_ble_eq_true rfl), (Nat.le_of_ble_eq_true rfl)⟩ (Nat.le_of_ble_eq_true rfl) (Nat.le_of_ble_eq_true rfl) dX5_sumOfNumbers_31 (t_Fl_toFloat (hI h5 (hR h5 l0 4) l2.toNatClampNeg) _ _ H) (fun v13 h12 H => ?_)
        obtain ⟨q14, H⟩ := H
        refine wp_fadd q14 dX5_sumOfNumbers_34 ?_
        refine WP.at 35 rfl ?_
        refine wp_nmf (fun v15 e16 => ?_)
        replace H := H v15 e16
        refine wp_fstore_n 1 rfl (Nat.le_of_ble_eq_true rfl) dX5_sumOfNumbers_35 (ls' := [(1, xf v15), (0, xr l0), (2, xi l2)]) rfl ?_
        refine wp_iincN (1 : Int32) (by decide) rfl (Nat.le_of_ble_eq_true rfl) dX5_sumOfNumbers_36 (ls' := fun v17 => [(2, xi v17), (1, xf v15), (0, xr l0)]) (fun _ => rfl) (fun v17 e18 => ?_)
        replace H := H v17 e18
        refine WP.at 39 rfl ?_
        refine wp_goto 4 (by decide) dX5_sumOfNumbers_39 ?_
        exact WP.pick [2, 1, 0] rfl (hB4 v15 v17 _ H)
def p_R_sumOfNumbers (l0 : xN) (h : xH) (Q : UInt32 → xH → Prop) : Prop := (∃ f21, p_R_sumOfNumbers_L4 l0 (fun (x19 : UInt32) (h20 : xH) => Q x19 h20) Q f21 (0 : UInt32) (0 : Int32) h)
set_option maxRecDepth 100000 in
set_option maxHeartbeats 4000000 in
theorem t_R_sumOfNumbers (l0 : xN) (h : xH) (Q : UInt32 → xH → Prop) (H : p_R_sumOfNumbers l0 h Q) : WP M_R_sumOfNumbers 0 [(0, xr l0)] [] h 0 (qf Q) := by
  unfold p_R_sumOfNumbers at H
  refine wp_fconst0 dX5_sumOfNumbers_0 ?_
  refine wp_fstore_n 1 rfl (Nat.le_of_ble_eq_true rfl) dX5_sumOfNumbers_1 (ls' := [(1, xf (0 : UInt32)), (0, xr l0)]) rfl ?_
  refine wp_iconst (0 : Int32) (by decide) dX5_sumOfNumbers_2 ?_
  refine wp_istore_n 2 rfl (Nat.le_of_ble_eq_true rfl) dX5_sumOfNumbers_3 (ls' := [(2, xi (0 : Int32)), (1, xf (0 : UInt32)), (0, xr l0)]) rfl ?_
  refine WP.at 4 rfl ?_
  obtain ⟨f21, H⟩ := H
  refine WP.pick [2, 1, 0] rfl (t_R_sumOfNumbers_L4 l0 _ Q ?_ f21 (0 : UInt32) (0 : Int32) _ H)
  · intro x19 h20 H
    refine wp_fload_n 1 rfl rfl dX5_sumOfNumbers_42 ?_
    exact wp_fret trivial dX5_sumOfNumbers_43 H
def p_Fl_pack_L4 (K4_27 : Int32 → Int32 → xH → Prop) (Q : Int32 → xH → Prop) : Nat → Int32 → Int32 → xH → Prop
  | 0, _, _, _ => False
  | f + 1, l2, l3, h => (((8388608 : Int32) ≤ l2 → K4_27 l2 l3 h) ∧ (¬ (8388608 : Int32) ≤ l2 → ((l3 ≤ (-149 : Int32) → K4_27 l2 l3 h) ∧ (¬ l3 ≤ (-149 : Int32) → ∀ v3 : Int32, v3 = l2 <<< ((1 : Int32) &&& 31) → ∀ v5 : Int32, v5 = l3 + (-1 : Int32) → (p_Fl_pack_L4 K4_27 Q f) v3 v5 h))))
set_option maxRecDepth 100000 in
set_option maxHeartbeats 4000000 in
theorem t_Fl_pack_L4 (K4_27 : Int32 → Int32 → xH → Prop) (Q : Int32 → xH → Prop) (hK4_27 : ∀ (x2 : Int32) (x3 : Int32) (h : xH), K4_27 x2 x3 h → WP M_Fl_pack 27 [(2, xi x2), (3, xi x3)] [] h 0 (qi Q)) : ∀ (f : Nat) (l2 : Int32) (l3 : Int32) (h : xH), p_Fl_pack_L4 K4_27 Q f l2 l3 h → WP M_Fl_pack 4 [(2, xi l2), (3, xi l3)] [] h 0 (qi Q) := by
  intro f
  induction f with
  | zero => exact fun _ _ _ H => H.elim
  | succ f hB4 =>
    intro l2 l3 h H
    unfold p_Fl_pack_L4 at H
    refine wp_iload_n 2 rfl rfl dX3_pack_4 ?_
    refine wp_ldc (8388608 : Int32) cI_X3_12 dX3_pack_5 ?_
    refine WP.at 7 rfl ?_
    refine wp_icmp_ge 27 (by decide) dX3_pack_7 (fun c1 => ?_) (fun c1 => ?_)
    · replace H := H.1 c1
      exact WP.pick [0, 1] rfl (hK4_27 l2 l3 _ H)
    · replace H := H.2 c1
      refine wp_iload_n 3 rfl rfl dX3_pack_10 ?_
      refine wp_sipush (-149 : Int32) (by decide) dX3_pack_11 ?_
      refine WP.at 14 rfl ?_
      refine wp_icmp_le 27 (by decide) dX3_pack_14 (fun c2 => ?_) (fun c2 => ?_)
      · replace H := H.1 c2
        exact WP.pick [0, 1] rfl (hK4_27 l2 l3 _ H)
      · replace H := H.2 c2
        refine wp_iload_n 2 rfl rfl dX3_pack_17 ?_
        refine wp_iconst (1 : Int32) (by decide) dX3_pack_18 ?_
        refine wp_ishl dX3_pack_19 ?_
        refine wp_nm (fun v3 e4 => ?_)
        replace H := H v3 e4
        refine wp_istore_n 2 rfl (Nat.le_of_ble_eq_true rfl) dX3_pack_20 (ls' := [(2, xi v3), (3, xi l3)]) rfl ?_
        refine wp_iincN (-1 : Int32) (by decide) rfl (Nat.le_of_ble_eq_true rfl) dX3_pack_21 (ls' := fun v5 => [(3, xi v5), (2, xi v3)]) (fun _ => rfl) (fun v5 e6 => ?_)
        replace H := H v5 e6
        refine WP.at 24 rfl ?_
        refine wp_goto 4 (by decide) dX3_pack_24 ?_
        exact WP.pick [1, 0] rfl (hB4 v3 v5 _ H)
def p_Fl_pack_j27 (l2 : Int32) (l3 : Int32) (h : xH) (Q : Int32 → xH → Prop) : Prop := (((8388608 : Int32) ≤ l2 → Q ((((l3 - (-149 : Int32)) + (1 : Int32)) <<< ((23 : Int32) &&& 31)) ||| (l2 &&& (8388607 : Int32))) h) ∧ (¬ (8388608 : Int32) ≤ l2 → Q l2 h))
set_option maxRecDepth 100000 in
set_option maxHeartbeats 4000000 in
theorem t_Fl_pack_j27 (l2 : Int32) (l3 : Int32) (h : xH) (Q : Int32 → xH → Prop) (H : p_Fl_pack_j27 l2 l3 h Q) : WP M_Fl_pack 27 [(2, xi l2), (3, xi l3)] [] h 0 (qi Q) := by
  unfold p_Fl_pack_j27 at H
  refine wp_iload_n 2 rfl rfl dX3_pack_27 ?_
  refine wp_ldc (8388608 : Int32) cI_X3_12 dX3_pack_28 ?_
  refine WP.at 30 rfl ?_
  refine wp_icmp_ge 37 (by decide) dX3_pack_30 (fun c10 => ?_) (fun c10 => ?_)
  · replace H := H.1 c10
    refine wp_iload_n 3 rfl rfl dX3_pack_37 ?_
    refine wp_sipush (-149 : Int32) (by decide) dX3_pack_38 ?_
    refine wp_isub dX3_pack_41 ?_
    refine wp_iconst (1 : Int32) (by decide) dX3_pack_42 ?_
    refine wp_iadd dX3_pack_43 ?_
    refine wp_bipush (23 : Int32) (by decide) dX3_pack_44 ?_
    refine wp_ishl dX3_pack_46 ?_
    refine WP.at 47 rfl ?_
    refine wp_iload_n 2 rfl rfl dX3_pack_47 ?_
    refine wp_ldc (8388607 : Int32) cI_X3_11 dX3_pack_48 ?_
    refine wp_iand dX3_pack_50 ?_
    refine wp_ior dX3_pack_51 ?_
    exact wp_iret trivial dX3_pack_52 H
  · replace H := H.2 c10
    refine wp_iload_n 2 rfl rfl dX3_pack_33 ?_
    refine WP.at 34 rfl ?_
    refine wp_goto 52 (by decide) dX3_pack_34 ?_
    exact wp_iret trivial dX3_pack_52 H
def p_Fl_pack (l0 : Int32) (l1 : Int32) (h : xH) (Q : Int32 → xH → Prop) : Prop := (∃ f11, p_Fl_pack_L4 (fun (x7 : Int32) (x8 : Int32) (h9 : xH) => p_Fl_pack_j27 x7 x8 h9 Q) Q f11 l0 l1 h)
set_option maxRecDepth 100000 in
set_option maxHeartbeats 4000000 in
theorem t_Fl_pack (l0 : Int32) (l1 : Int32) (h : xH) (Q : Int32 → xH → Prop) (H : p_Fl_pack l0 l1 h Q) : WP M_Fl_pack 0 [(0, xi l0), (1, xi l1)] [] h 0 (qi Q) := by
  unfold p_Fl_pack at H
  refine wp_iload_n 0 rfl rfl dX3_pack_0 ?_
  refine wp_istore_n 2 rfl (Nat.le_of_ble_eq_true rfl) dX3_pack_1 (ls' := [(2, xi l0), (0, xi l0), (1, xi l1)]) rfl ?_
  refine wp_iload_n 1 rfl rfl dX3_pack_2 ?_
  refine wp_istore_n 3 rfl (Nat.le_of_ble_eq_true rfl) dX3_pack_3 (ls' := [(3, xi l1), (2, xi l0), (0, xi l0), (1, xi l1)]) rfl ?_
  refine WP.at 4 rfl ?_
  obtain ⟨f11, H⟩ := H
  refine WP.pick [1, 0] rfl (t_Fl_pack_L4 _ Q ?_ f11 l0 l1 _ H)
  · intro x7 x8 h9 H
    exact WP.pick [0, 1] rfl (t_Fl_pack_j27 x7 x8 _ _ H)
def p_Fl_sizeBits_L14 (K14_38 : UInt32 → Int32 → xH → Prop) (Q : Int32 → xH → Prop) : Nat → UInt32 → Int32 → xH → Prop
  | 0, _, _, _ => False
  | f + 1, l1, l2, h => (((Op.cmpValue (FP.fcmp l1 (1266679808 : UInt32)) (.l : CmpOp)) < 0 → K14_38 l1 l2 h) ∧ (¬ (Op.cmpValue (FP.fcmp l1 (1266679808 : UInt32)) (.l : CmpOp)) < 0 → (((104 : Int32) ≤ l2 → K14_38 l1 l2 h) ∧ (¬ (104 : Int32) ≤ l2 → (vf_n32 (FP.fmul l1 (1056964608 : UInt32))) ∧ ∀ v5 : UInt32, v5 = FP.fmul l1 (1056964608 : UInt32) → ∀ v7 : Int32, v7 = l2 + (1 : Int32) → (p_Fl_sizeBits_L14 K14_38 Q f) v5 v7 h))))
set_option maxRecDepth 100000 in
set_option maxHeartbeats 4000000 in
theorem t_Fl_sizeBits_L14 (K14_38 : UInt32 → Int32 → xH → Prop) (Q : Int32 → xH → Prop) (hK14_38 : ∀ (x1 : UInt32) (x2 : Int32) (h : xH), K14_38 x1 x2 h → WP M_Fl_sizeBits 38 [(1, xf x1), (2, xi x2)] [] h 0 (qi Q)) : ∀ (f : Nat) (l1 : UInt32) (l2 : Int32) (h : xH), p_Fl_sizeBits_L14 K14_38 Q f l1 l2 h → WP M_Fl_sizeBits 14 [(1, xf l1), (2, xi l2)] [] h 0 (qi Q) := by
  intro f
  induction f with
  | zero => exact fun _ _ _ H => H.elim
  | succ f hB14 =>
    intro l1 l2 h H
    unfold p_Fl_sizeBits_L14 at H
    refine wp_fload_n 1 rfl rfl dX3_sizeBits_14 ?_
    refine wp_ldcf (1266679808 : UInt32) cF_X3_33 dX3_sizeBits_15 ?_
    refine wp_fcmp dX3_sizeBits_17 ?_
    refine WP.at 18 rfl ?_
    refine wp_if_lt 38 (by decide) dX3_sizeBits_18 (fun c2 => ?_) (fun c2 => ?_)
    · replace H := H.1 c2
      exact WP.pick [0, 1] rfl (hK14_38 l1 l2 _ H)
    · replace H := H.2 c2
      refine wp_iload_n 2 rfl rfl dX3_sizeBits_21 ?_
      refine wp_bipush (104 : Int32) (by decide) dX3_sizeBits_22 ?_
      refine WP.at 24 rfl ?_
      refine wp_icmp_ge 38 (by decide) dX3_sizeBits_24 (fun c3 => ?_) (fun c3 => ?_)
      · replace H := H.1 c3
        exact WP.pick [0, 1] rfl (hK14_38 l1 l2 _ H)
      · replace H := H.2 c3
        refine wp_fload_n 1 rfl rfl dX3_sizeBits_27 ?_
        refine wp_ldcf (1056964608 : UInt32) cF_X3_26 dX3_sizeBits_28 ?_
        obtain ⟨q4, H⟩ := H
        refine wp_fmul q4 dX3_sizeBits_30 ?_
        refine wp_nmf (fun v5 e6 => ?_)
        replace H := H v5 e6
        refine wp_fstore_n 1 rfl (Nat.le_of_ble_eq_true rfl) dX3_sizeBits_31 (ls' := [(1, xf v5), (2, xi l2)]) rfl ?_
        refine wp_iincN (1 : Int32) (by decide) rfl (Nat.le_of_ble_eq_true rfl) dX3_sizeBits_32 (ls' := fun v7 => [(2, xi v7), (1, xf v5)]) (fun _ => rfl) (fun v7 e8 => ?_)
        replace H := H v7 e8
        refine WP.at 35 rfl ?_
        refine wp_goto 14 (by decide) dX3_sizeBits_35 ?_
        exact WP.pick [1, 0] rfl (hB14 v5 v7 _ H)
def p_Fl_sizeBits_L38 (K38_62 : UInt32 → Int32 → xH → Prop) (Q : Int32 → xH → Prop) : Nat → UInt32 → Int32 → xH → Prop
  | 0, _, _, _ => False
  | f + 1, l1, l2, h => ((0 ≤ (Op.cmpValue (FP.fcmp l1 (1258291200 : UInt32)) (.g : CmpOp)) → K38_62 l1 l2 h) ∧ (¬ 0 ≤ (Op.cmpValue (FP.fcmp l1 (1258291200 : UInt32)) (.g : CmpOp)) → ((l2 ≤ (-149 : Int32) → K38_62 l1 l2 h) ∧ (¬ l2 ≤ (-149 : Int32) → (vf_n32 (FP.fmul l1 (1073741824 : UInt32))) ∧ ∀ v15 : UInt32, v15 = FP.fmul l1 (1073741824 : UInt32) → ∀ v17 : Int32, v17 = l2 + (-1 : Int32) → (p_Fl_sizeBits_L38 K38_62 Q f) v15 v17 h))))
set_option maxRecDepth 100000 in
set_option maxHeartbeats 4000000 in
theorem t_Fl_sizeBits_L38 (K38_62 : UInt32 → Int32 → xH → Prop) (Q : Int32 → xH → Prop) (hK38_62 : ∀ (x1 : UInt32) (x2 : Int32) (h : xH), K38_62 x1 x2 h → WP M_Fl_sizeBits 62 [(1, xf x1), (2, xi x2)] [] h 0 (qi Q)) : ∀ (f : Nat) (l1 : UInt32) (l2 : Int32) (h : xH), p_Fl_sizeBits_L38 K38_62 Q f l1 l2 h → WP M_Fl_sizeBits 38 [(1, xf l1), (2, xi l2)] [] h 0 (qi Q) := by
  intro f
  induction f with
  | zero => exact fun _ _ _ H => H.elim
  | succ f hB38 =>
    intro l1 l2 h H
    unfold p_Fl_sizeBits_L38 at H
    refine wp_fload_n 1 rfl rfl dX3_sizeBits_38 ?_
    refine wp_ldcf (1258291200 : UInt32) cF_X3_34 dX3_sizeBits_39 ?_
    refine wp_fcmp dX3_sizeBits_41 ?_
    refine WP.at 42 rfl ?_
    refine wp_if_ge 62 (by decide) dX3_sizeBits_42 (fun c12 => ?_) (fun c12 => ?_)
    · replace H := H.1 c12
      exact WP.pick [0, 1] rfl (hK38_62 l1 l2 _ H)
    · replace H := H.2 c12
      refine wp_iload_n 2 rfl rfl dX3_sizeBits_45 ?_
      refine wp_sipush (-149 : Int32) (by decide) dX3_sizeBits_46 ?_
      refine WP.at 49 rfl ?_
      refine wp_icmp_le 62 (by decide) dX3_sizeBits_49 (fun c13 => ?_) (fun c13 => ?_)
      · replace H := H.1 c13
        exact WP.pick [0, 1] rfl (hK38_62 l1 l2 _ H)
      · replace H := H.2 c13
        refine wp_fload_n 1 rfl rfl dX3_sizeBits_52 ?_
        refine wp_fconst2 dX3_sizeBits_53 ?_
        obtain ⟨q14, H⟩ := H
        refine wp_fmul q14 dX3_sizeBits_54 ?_
        refine wp_nmf (fun v15 e16 => ?_)
        replace H := H v15 e16
        refine wp_fstore_n 1 rfl (Nat.le_of_ble_eq_true rfl) dX3_sizeBits_55 (ls' := [(1, xf v15), (2, xi l2)]) rfl ?_
        refine wp_iincN (-1 : Int32) (by decide) rfl (Nat.le_of_ble_eq_true rfl) dX3_sizeBits_56 (ls' := fun v17 => [(2, xi v17), (1, xf v15)]) (fun _ => rfl) (fun v17 e18 => ?_)
        replace H := H v17 e18
        refine WP.at 59 rfl ?_
        refine wp_goto 38 (by decide) dX3_sizeBits_59 ?_
        exact WP.pick [1, 0] rfl (hB38 v15 v17 _ H)
def p_Fl_sizeBits_j62 (l1 : UInt32) (l2 : Int32) (h : xH) (Q : Int32 → xH → Prop) : Prop := p_Fl_pack (FP.f2i l1) l2 h (fun (v23 : Int32) (h22 : xH) => Q v23 h22)
set_option maxRecDepth 100000 in
set_option maxHeartbeats 4000000 in
theorem t_Fl_sizeBits_j62 (l1 : UInt32) (l2 : Int32) (h : xH) (Q : Int32 → xH → Prop) (H : p_Fl_sizeBits_j62 l1 l2 h Q) : WP M_Fl_sizeBits 62 [(1, xf l1), (2, xi l2)] [] h 0 (qi Q) := by
  unfold p_Fl_sizeBits_j62 at H
  refine wp_fload_n 1 rfl rfl dX3_sizeBits_62 ?_
  refine wp_f2i dX3_sizeBits_63 ?_
  refine wp_iload_n 2 rfl rfl dX3_sizeBits_64 ?_
  refine WP.at 65 rfl ?_
  refine wp_cSi (M2 := M_Fl_pack) [xi (FP.f2i l1), xi l2] rfl ls_X3_35 mo_Fl_pack (Nat.le_of_ble_eq_true rfl) ⟨(Nat.le_of_ble_eq_true rfl), (Nat.le_of_ble_eq_true rfl)⟩ (Nat.le_of_ble_eq_true rfl) (Nat.le_of_ble_eq_true rfl) dX3_sizeBits_65 (t_Fl_pack (FP.f2i l1) l2 _ _ H) (fun v23 h22 H => ?_)
  exact wp_iret trivial dX3_sizeBits_68 H
def p_Fl_sizeBits (l0 : UInt32) (h : xH) (Q : Int32 → xH → Prop) : Prop := (((Op.cmpValue (FP.fcmp l0 (2139095039 : UInt32)) (.l : CmpOp)) ≤ 0 → (∃ f25, p_Fl_sizeBits_L14 (fun (x9 : UInt32) (x10 : Int32) (h11 : xH) => (∃ f24, p_Fl_sizeBits_L38 (fun (x19 : UInt32) (x20 : Int32) (h21 : xH) => p_Fl_sizeBits_j62 x19 x20 h21 Q) Q f24 x9 x10 h11)) Q f25 l0 (0 : Int32) h)) ∧ (¬ (Op.cmpValue (FP.fcmp l0 (2139095039 : UInt32)) (.l : CmpOp)) ≤ 0 → Q (2139095040 : Int32) h))
set_option maxRecDepth 100000 in
set_option maxHeartbeats 4000000 in
theorem t_Fl_sizeBits (l0 : UInt32) (h : xH) (Q : Int32 → xH → Prop) (H : p_Fl_sizeBits l0 h Q) : WP M_Fl_sizeBits 0 [(0, xf l0)] [] h 0 (qi Q) := by
  unfold p_Fl_sizeBits at H
  refine wp_fload_n 0 rfl rfl dX3_sizeBits_0 ?_
  refine wp_ldcf (2139095039 : UInt32) cF_X3_32 dX3_sizeBits_1 ?_
  refine wp_fcmp dX3_sizeBits_3 ?_
  refine WP.at 4 rfl ?_
  refine wp_if_le 10 (by decide) dX3_sizeBits_4 (fun c1 => ?_) (fun c1 => ?_)
  · replace H := H.1 c1
    refine wp_fload_n 0 rfl rfl dX3_sizeBits_10 ?_
    refine wp_fstore_n 1 rfl (Nat.le_of_ble_eq_true rfl) dX3_sizeBits_11 (ls' := [(1, xf l0), (0, xf l0)]) rfl ?_
    refine wp_iconst (0 : Int32) (by decide) dX3_sizeBits_12 ?_
    refine wp_istore_n 2 rfl (Nat.le_of_ble_eq_true rfl) dX3_sizeBits_13 (ls' := [(2, xi (0 : Int32)), (1, xf l0), (0, xf l0)]) rfl ?_
    refine WP.at 14 rfl ?_
    obtain ⟨f25, H⟩ := H
    refine WP.pick [1, 0] rfl (t_Fl_sizeBits_L14 _ Q ?_ f25 l0 (0 : Int32) _ H)
    · intro x9 x10 h11 H
      obtain ⟨f24, H⟩ := H
      refine WP.pick [0, 1] rfl (t_Fl_sizeBits_L38 _ Q ?_ f24 x9 x10 _ H)
      · intro x19 x20 h21 H
        exact WP.pick [0, 1] rfl (t_Fl_sizeBits_j62 x19 x20 _ _ H)
  · replace H := H.2 c1
    refine wp_ldc (2139095040 : Int32) cI_X3_9 dX3_sizeBits_7 ?_
    exact wp_iret trivial dX3_sizeBits_9 H
def p_Fl_quotientBits_j12 (s0 : UInt32) (l0 : UInt32) (l1 : Int32) (h : xH) (Q : Int32 → xH → Prop) : Prop := p_Jm_max l1 (1 : Int32) h (fun (v3 : Int32) (h2 : xH) => (vf_n32 (FP.fdiv s0 (FP.i2f v3))) ∧ ∀ v5 : UInt32, v5 = FP.fdiv s0 (FP.i2f v3) → p_Fl_sizeBits v5 h2 (fun (v8 : Int32) (h7 : xH) => ((0 ≤ (Op.cmpValue (FP.fcmp l0 (0 : UInt32)) (.g : CmpOp)) → Q (v8 ||| (0 : Int32)) h7) ∧ (¬ 0 ≤ (Op.cmpValue (FP.fcmp l0 (0 : UInt32)) (.g : CmpOp)) → Q (v8 ||| (-2147483648 : Int32)) h7))))
set_option maxRecDepth 100000 in
set_option maxHeartbeats 4000000 in
theorem t_Fl_quotientBits_j12 (s0 : UInt32) (l0 : UInt32) (l1 : Int32) (h : xH) (Q : Int32 → xH → Prop) (H : p_Fl_quotientBits_j12 s0 l0 l1 h Q) : WP M_Fl_quotientBits 12 [(0, xf l0), (1, xi l1)] [xf s0] h 0 (qi Q) := by
  unfold p_Fl_quotientBits_j12 at H
  refine wp_iload_n 1 rfl rfl dX3_quotientBits_12 ?_
  refine wp_iconst (1 : Int32) (by decide) dX3_quotientBits_13 ?_
  refine WP.at 14 rfl ?_
  refine wp_cSi (M2 := M_Jm_max) [xi l1, xi (1 : Int32)] rfl ls_X3_13 mo_Jm_max (Nat.le_of_ble_eq_true rfl) ⟨(Nat.le_of_ble_eq_true rfl), (Nat.le_of_ble_eq_true rfl)⟩ (Nat.le_of_ble_eq_true rfl) (Nat.le_of_ble_eq_true rfl) dX3_quotientBits_14 (t_Jm_max l1 (1 : Int32) _ _ H) (fun v3 h2 H => ?_)
  refine wp_i2f dX3_quotientBits_17 ?_
  obtain ⟨q4, H⟩ := H
  refine wp_fdiv q4 dX3_quotientBits_18 ?_
  refine wp_nmf (fun v5 e6 => ?_)
  replace H := H v5 e6
  refine wp_fstore_n 2 rfl (Nat.le_of_ble_eq_true rfl) dX3_quotientBits_19 (ls' := [(2, xf v5), (0, xf l0), (1, xi l1)]) rfl ?_
  refine wp_fload_n 2 rfl rfl dX3_quotientBits_20 ?_
  refine WP.at 21 rfl ?_
  refine WP.at 21 rfl ?_
  refine wp_cSi (M2 := M_Fl_sizeBits) [xf v5] rfl ls_X3_27 mo_Fl_sizeBits (Nat.le_of_ble_eq_true rfl) ⟨(Nat.le_of_ble_eq_true rfl), (Nat.le_of_ble_eq_true rfl)⟩ (Nat.le_of_ble_eq_true rfl) (Nat.le_of_ble_eq_true rfl) dX3_quotientBits_21 (t_Fl_sizeBits v5 _ _ H) (fun v8 h7 H => ?_)
  refine wp_fload_n 0 rfl rfl dX3_quotientBits_24 ?_
  refine wp_fconst0 dX3_quotientBits_25 ?_
  refine wp_fcmp dX3_quotientBits_26 ?_
  refine WP.at 27 rfl ?_
  refine wp_if_ge 35 (by decide) dX3_quotientBits_27 (fun c9 => ?_) (fun c9 => ?_)
  · replace H := H.1 c9
    refine wp_iconst (0 : Int32) (by decide) dX3_quotientBits_35 ?_
    refine wp_ior dX3_quotientBits_36 ?_
    exact wp_iret trivial dX3_quotientBits_37 H
  · replace H := H.2 c9
    refine wp_ldc (-2147483648 : Int32) cI_X3_31 dX3_quotientBits_30 ?_
    refine WP.at 32 rfl ?_
    refine wp_goto 36 (by decide) dX3_quotientBits_32 ?_
    refine wp_ior dX3_quotientBits_36 ?_
    exact wp_iret trivial dX3_quotientBits_37 H
def p_Fl_quotientBits (l0 : UInt32) (l1 : Int32) (h : xH) (Q : Int32 → xH → Prop) : Prop := ((0 ≤ (Op.cmpValue (FP.fcmp l0 (0 : UInt32)) (.g : CmpOp)) → p_Fl_quotientBits_j12 l0 l0 l1 h Q) ∧ (¬ 0 ≤ (Op.cmpValue (FP.fcmp l0 (0 : UInt32)) (.g : CmpOp)) → p_Fl_quotientBits_j12 (FP.fneg l0) l0 l1 h Q))
set_option maxRecDepth 100000 in
set_option maxHeartbeats 4000000 in
theorem t_Fl_quotientBits (l0 : UInt32) (l1 : Int32) (h : xH) (Q : Int32 → xH → Prop) (H : p_Fl_quotientBits l0 l1 h Q) : WP M_Fl_quotientBits 0 [(0, xf l0), (1, xi l1)] [] h 0 (qi Q) := by
  unfold p_Fl_quotientBits at H
  refine wp_fload_n 0 rfl rfl dX3_quotientBits_0 ?_
  refine wp_fconst0 dX3_quotientBits_1 ?_
  refine wp_fcmp dX3_quotientBits_2 ?_
  refine WP.at 3 rfl ?_
  refine wp_if_ge 11 (by decide) dX3_quotientBits_3 (fun c1 => ?_) (fun c1 => ?_)
  · replace H := H.1 c1
    refine wp_fload_n 0 rfl rfl dX3_quotientBits_11 ?_
    refine WP.at 12 rfl ?_
    exact WP.pick [0, 1] rfl (t_Fl_quotientBits_j12 l0 l0 l1 _ _ H)
  · replace H := H.2 c1
    refine wp_fload_n 0 rfl rfl dX3_quotientBits_6 ?_
    refine wp_fneg dX3_quotientBits_7 ?_
    refine WP.at 8 rfl ?_
    refine wp_goto 12 (by decide) dX3_quotientBits_8 ?_
    exact WP.pick [0, 1] rfl (t_Fl_quotientBits_j12 (FP.fneg l0) l0 l1 _ _ H)
def p_T_pace_j65 (s0 : Int32) (s1 : xN) (h : xH) (Q : Int32 → xH → Prop) : Prop := (kd s1.1 = (1, 4)) ∧ p_R_extremeLap s1 s0 h (fun (v16 : Int32) (h15 : xH) => Q v16 h15)
set_option maxRecDepth 100000 in
set_option maxHeartbeats 4000000 in
theorem t_T_pace_j65 (s0 : Int32) (s1 : xN) (h : xH) (Q : Int32 → xH → Prop) (H : p_T_pace_j65 s0 s1 h Q) : WP M_T_pace 65 [] [xi s0, xr s1] h 0 (qi Q) := by
  unfold p_T_pace_j65 at H
  refine WP.at 65 rfl ?_
  obtain ⟨q14, H⟩ := H
  refine wp_cVi (M2 := M_R_extremeLap) coX5 s1 q14 [xi s0] rfl lv_X10_370 mo_R_extremeLap (Nat.le_of_ble_eq_true rfl) ⟨(Nat.le_of_ble_eq_true rfl), (Nat.le_of_ble_eq_true rfl)⟩ (Nat.le_of_ble_eq_true rfl) (Nat.le_of_ble_eq_true rfl) dX10_pace_65 (t_R_extremeLap s1 s0 _ _ H) (fun v16 h15 H => ?_)
  exact wp_iret trivial dX10_pace_68 H
def p_T_pace_j54 (l2 : Int32) (l3 : xN) (h : xH) (Q : Int32 → xH → Prop) : Prop := ((¬ l2 = (3 : Int32) → p_T_pace_j65 (0 : Int32) l3 h Q) ∧ (l2 = (3 : Int32) → p_T_pace_j65 (1 : Int32) l3 h Q))
set_option maxRecDepth 100000 in
set_option maxHeartbeats 4000000 in
theorem t_T_pace_j54 (l2 : Int32) (l3 : xN) (h : xH) (Q : Int32 → xH → Prop) (H : p_T_pace_j54 l2 l3 h Q) : WP M_T_pace 54 [(2, xi l2), (3, xr l3)] [] h 0 (qi Q) := by
  unfold p_T_pace_j54 at H
  refine wp_aload_n 3 rfl rfl dX10_pace_54 ?_
  refine wp_iload_n 2 rfl rfl dX10_pace_55 ?_
  refine wp_iconst (3 : Int32) (by decide) dX10_pace_56 ?_
  refine WP.at 57 rfl ?_
  refine wp_icmp_ne 64 (by decide) dX10_pace_57 (fun c13 => ?_) (fun c13 => ?_)
  · replace H := H.1 c13
    refine wp_iconst (0 : Int32) (by decide) dX10_pace_64 ?_
    refine WP.at 65 rfl ?_
    exact WP.pick [] rfl (t_T_pace_j65 (0 : Int32) l3 _ _ H)
  · replace H := H.2 c13
    refine wp_iconst (1 : Int32) (by decide) dX10_pace_60 ?_
    refine WP.at 61 rfl ?_
    refine wp_goto 65 (by decide) dX10_pace_61 ?_
    exact WP.pick [] rfl (t_T_pace_j65 (1 : Int32) l3 _ _ H)
def p_T_pace_j84 (s0 : Int32) (s1 : UInt32) (h : xH) (Q : Int32 → xH → Prop) : Prop := p_Fl_quotientBits s1 s0 h (fun (v22 : Int32) (h21 : xH) => Q v22 h21)
set_option maxRecDepth 100000 in
set_option maxHeartbeats 4000000 in
theorem t_T_pace_j84 (s0 : Int32) (s1 : UInt32) (h : xH) (Q : Int32 → xH → Prop) (H : p_T_pace_j84 s0 s1 h Q) : WP M_T_pace 84 [] [xi s0, xf s1] h 0 (qi Q) := by
  unfold p_T_pace_j84 at H
  refine WP.at 84 rfl ?_
  refine wp_cSi (M2 := M_Fl_quotientBits) [xf s1, xi s0] rfl ls_X10_378 mo_Fl_quotientBits (Nat.le_of_ble_eq_true rfl) ⟨(Nat.le_of_ble_eq_true rfl), (Nat.le_of_ble_eq_true rfl)⟩ (Nat.le_of_ble_eq_true rfl) (Nat.le_of_ble_eq_true rfl) dX10_pace_84 (t_Fl_quotientBits s1 s0 _ _ H) (fun v22 h21 H => ?_)
  exact wp_iret trivial dX10_pace_87 H
def p_T_pace (l0 : xN) (l1 : Int32) (l2 : Int32) (h : xH) (Q : Int32 → xH → Prop) : Prop := (kd l0.1 = (1, 9)) ∧ p_T_findRace l0 l1 h (fun (v3 : xN) (h2 : xH) => ((v3.1 = 0 → Q (0 : Int32) h2) ∧ (¬ v3.1 = 0 → ((l2 < 0 → Q (0 : Int32) h2) ∧ (¬ l2 < 0 → ((l2 ≤ (4 : Int32) → (kd v3.1 = (1, 4)) ∧ p_R_countNumbers v3 h2 (fun (v9 : Int32) (h8 : xH) => ((¬ l2 = (4 : Int32) → ((¬ v9 = 0 → ((l2 = (2 : Int32) → p_T_pace_j54 l2 v3 h8 Q) ∧ (¬ l2 = (2 : Int32) → ((¬ l2 = (3 : Int32) → p_R_sumOfNumbers v3 h8 (fun (v19 : UInt32) (h18 : xH) => ((¬ l2 = (1 : Int32) → p_T_pace_j84 (1 : Int32) v19 h18 Q) ∧ (l2 = (1 : Int32) → p_T_pace_j84 v9 v19 h18 Q)))) ∧ (l2 = (3 : Int32) → p_T_pace_j54 l2 v3 h8 Q))))) ∧ (v9 = 0 → Q (2143289344 : Int32) h8))) ∧ (l2 = (4 : Int32) → Q v9 h8)))) ∧ (¬ l2 ≤ (4 : Int32) → Q (0 : Int32) h2)))))))
set_option maxRecDepth 100000 in
set_option maxHeartbeats 4000000 in
theorem t_T_pace (l0 : xN) (l1 : Int32) (l2 : Int32) (h : xH) (Q : Int32 → xH → Prop) (H : p_T_pace l0 l1 l2 h Q) : WP M_T_pace 0 [(0, xr l0), (1, xi l1), (2, xi l2)] [] h 0 (qi Q) := by
  unfold p_T_pace at H
  refine wp_aload_n 0 rfl rfl dX10_pace_0 ?_
  refine wp_iload_n 1 rfl rfl dX10_pace_1 ?_
  refine WP.at 2 rfl ?_
  obtain ⟨q1, H⟩ := H
  refine wp_cVr (M2 := M_T_findRace) coX10 l0 q1 [xi l1] rfl lv_X10_76 mo_T_findRace (Nat.le_of_ble_eq_true rfl) ⟨(Nat.le_of_ble_eq_true rfl), (Nat.le_of_ble_eq_true rfl)⟩ (Nat.le_of_ble_eq_true rfl) (Nat.le_of_ble_eq_true rfl) dX10_pace_2 (t_T_findRace l0 l1 _ _ H) (fun v3 h2 H => ?_)
  refine wp_astore_n 3 rfl (Nat.le_of_ble_eq_true rfl) dX10_pace_5 (ls' := [(3, xr v3), (0, xr l0), (1, xi l1), (2, xi l2)]) rfl ?_
  refine wp_aload_n 3 rfl rfl dX10_pace_6 ?_
  refine WP.at 7 rfl ?_
  refine wp_ifnull 19 (by decide) dX10_pace_7 (fun c4 => ?_) (fun c4 => ?_)
  · replace H := H.1 c4
    refine wp_iconst (0 : Int32) (by decide) dX10_pace_19 ?_
    exact wp_iret trivial dX10_pace_20 H
  · replace H := H.2 c4
    refine wp_iload_n 2 rfl rfl dX10_pace_10 ?_
    refine WP.at 11 rfl ?_
    refine wp_if_lt 19 (by decide) dX10_pace_11 (fun c5 => ?_) (fun c5 => ?_)
    · replace H := H.1 c5
      refine wp_iconst (0 : Int32) (by decide) dX10_pace_19 ?_
      exact wp_iret trivial dX10_pace_20 H
    · replace H := H.2 c5
      refine wp_iload_n 2 rfl rfl dX10_pace_14 ?_
      refine wp_iconst (4 : Int32) (by decide) dX10_pace_15 ?_
      refine WP.at 16 rfl ?_
      refine wp_icmp_le 21 (by decide) dX10_pace_16 (fun c6 => ?_) (fun c6 => ?_)
      · replace H := H.1 c6
        refine wp_aload_n 3 rfl rfl dX10_pace_21 ?_
        refine WP.at 22 rfl ?_
        obtain ⟨q7, H⟩ := H
        refine wp_cVi (M2 := M_R_countNumbers) coX5 v3 q7 [] rfl lv_X10_367 mo_R_countNumbers (Nat.le_of_ble_eq_true rfl) ⟨(Nat.le_of_ble_eq_true rfl), (Nat.le_of_ble_eq_true rfl)⟩ (Nat.le_of_ble_eq_true rfl) (Nat.le_of_ble_eq_true rfl) dX10_pace_22 (t_R_countNumbers v3 _ _ H) (fun v9 h8 H => ?_)
        refine wp_istore (Nat.le_of_ble_eq_true rfl) dX10_pace_25 (ls' := [(4, xi v9), (3, xr v3), (0, xr l0), (1, xi l1), (2, xi l2)]) rfl ?_
        refine wp_iload_n 2 rfl rfl dX10_pace_27 ?_
        refine wp_iconst (4 : Int32) (by decide) dX10_pace_28 ?_
        refine WP.at 29 rfl ?_
        refine wp_icmp_ne 35 (by decide) dX10_pace_29 (fun c10 => ?_) (fun c10 => ?_)
        · replace H := H.1 c10
          refine wp_iload rfl dX10_pace_35 ?_
          refine WP.at 37 rfl ?_
          refine wp_if_ne 44 (by decide) dX10_pace_37 (fun c11 => ?_) (fun c11 => ?_)
          · replace H := H.1 c11
            refine wp_iload_n 2 rfl rfl dX10_pace_44 ?_
            refine wp_iconst (2 : Int32) (by decide) dX10_pace_45 ?_
            refine WP.at 46 rfl ?_
            refine wp_icmp_eq 54 (by decide) dX10_pace_46 (fun c12 => ?_) (fun c12 => ?_)
            · replace H := H.1 c12
              exact WP.pick [4, 1] rfl (t_T_pace_j54 l2 v3 _ _ H)
            · replace H := H.2 c12
              refine wp_iload_n 2 rfl rfl dX10_pace_49 ?_
              refine wp_iconst (3 : Int32) (by decide) dX10_pace_50 ?_
              refine WP.at 51 rfl ?_
              refine wp_icmp_ne 69 (by decide) dX10_pace_51 (fun c17 => ?_) (fun c17 => ?_)
              · replace H := H.1 c17
                refine wp_aload_n 3 rfl rfl dX10_pace_69 ?_
                refine WP.at 70 rfl ?_
                refine wp_cVf (M2 := M_R_sumOfNumbers) coX5 v3 q7 [] rfl lv_X10_374 mo_R_sumOfNumbers (Nat.le_of_ble_eq_true rfl) ⟨(Nat.le_of_ble_eq_true rfl), (Nat.le_of_ble_eq_true rfl)⟩ (Nat.le_of_ble_eq_true rfl) (Nat.le_of_ble_eq_true rfl) dX10_pace_70 (t_R_sumOfNumbers v3 _ _ H) (fun v19 h18 H => ?_)
                refine wp_iload_n 2 rfl rfl dX10_pace_73 ?_
                refine wp_iconst (1 : Int32) (by decide) dX10_pace_74 ?_
                refine WP.at 75 rfl ?_
                refine wp_icmp_ne 83 (by decide) dX10_pace_75 (fun c20 => ?_) (fun c20 => ?_)
                · replace H := H.1 c20
                  refine wp_iconst (1 : Int32) (by decide) dX10_pace_83 ?_
                  refine WP.at 84 rfl ?_
                  exact WP.pick [] rfl (t_T_pace_j84 (1 : Int32) v19 _ _ H)
                · replace H := H.2 c20
                  refine wp_iload rfl dX10_pace_78 ?_
                  refine WP.at 80 rfl ?_
                  refine wp_goto 84 (by decide) dX10_pace_80 ?_
                  exact WP.pick [] rfl (t_T_pace_j84 v9 v19 _ _ H)
              · replace H := H.2 c17
                exact WP.pick [4, 1] rfl (t_T_pace_j54 l2 v3 _ _ H)
          · replace H := H.2 c11
            refine wp_ldcw (2143289344 : Int32) cI_X10_363 dX10_pace_40 ?_
            exact wp_iret trivial dX10_pace_43 H
        · replace H := H.2 c10
          refine wp_iload rfl dX10_pace_32 ?_
          exact wp_iret trivial dX10_pace_34 H
      · replace H := H.2 c6
        refine wp_iconst (0 : Int32) (by decide) dX10_pace_19 ?_
        exact wp_iret trivial dX10_pace_20 H
def p_M_isNumber (l0 : UInt32) (h : xH) (Q : Int32 → xH → Prop) : Prop := (((Op.cmpValue (FP.fcmp l0 (4286578687 : UInt32)) (.l : CmpOp)) < 0 → Q (0 : Int32) h) ∧ (¬ (Op.cmpValue (FP.fcmp l0 (4286578687 : UInt32)) (.l : CmpOp)) < 0 → ((0 < (Op.cmpValue (FP.fcmp l0 (2139095039 : UInt32)) (.g : CmpOp)) → Q (0 : Int32) h) ∧ (¬ 0 < (Op.cmpValue (FP.fcmp l0 (2139095039 : UInt32)) (.g : CmpOp)) → Q (1 : Int32) h))))
set_option maxRecDepth 100000 in
set_option maxHeartbeats 4000000 in
theorem t_M_isNumber (l0 : UInt32) (h : xH) (Q : Int32 → xH → Prop) (H : p_M_isNumber l0 h Q) : WP M_M_isNumber 0 [(0, xf l0)] [] h 0 (qi Q) := by
  unfold p_M_isNumber at H
  refine wp_fload_n 0 rfl rfl dX11_isNumber_0 ?_
  refine wp_ldcwf (4286578687 : UInt32) cF_X11_368 dX11_isNumber_1 ?_
  refine wp_fcmp dX11_isNumber_4 ?_
  refine WP.at 5 rfl ?_
  refine wp_if_lt 20 (by decide) dX11_isNumber_5 (fun c1 => ?_) (fun c1 => ?_)
  · replace H := H.1 c1
    refine wp_iconst (0 : Int32) (by decide) dX11_isNumber_20 ?_
    exact wp_iret (Or.inl rfl) dX11_isNumber_21 H
  · replace H := H.2 c1
    refine wp_fload_n 0 rfl rfl dX11_isNumber_8 ?_
    refine wp_ldcwf (2139095039 : UInt32) cF_X11_369 dX11_isNumber_9 ?_
    refine wp_fcmp dX11_isNumber_12 ?_
    refine WP.at 13 rfl ?_
    refine wp_if_gt 20 (by decide) dX11_isNumber_13 (fun c2 => ?_) (fun c2 => ?_)
    · replace H := H.1 c2
      refine wp_iconst (0 : Int32) (by decide) dX11_isNumber_20 ?_
      exact wp_iret (Or.inl rfl) dX11_isNumber_21 H
    · replace H := H.2 c2
      refine wp_iconst (1 : Int32) (by decide) dX11_isNumber_16 ?_
      refine WP.at 17 rfl ?_
      refine wp_goto 21 (by decide) dX11_isNumber_17 ?_
      exact wp_iret (Or.inr rfl) dX11_isNumber_21 H
def p_M_pace_j91 (s0 : UInt32) (l0 : xN) (l1 : Int32) (l2 : Int32) (l3 : UInt32) (l5 : UInt32) (l6 : Int32) (l7 : Int32) (l8 : UInt32) (B33 : UInt32 → UInt32 → UInt32 → Int32 → Int32 → xH → Prop) (h : xH) (Q : Int32 → xH → Prop) : Prop := ((l6 = 0 → ∀ v26 : Int32, v26 = l6 + (1 : Int32) → ∀ v28 : Int32, v28 = l7 + (1 : Int32) → B33 l3 s0 l8 v26 v28 h) ∧ (¬ l6 = 0 → (((Op.cmpValue (FP.fcmp l8 l5) (.l : CmpOp)) ≤ 0 → ∀ v31 : Int32, v31 = l6 + (1 : Int32) → ∀ v33 : Int32, v33 = l7 + (1 : Int32) → B33 l3 s0 l5 v31 v33 h) ∧ (¬ (Op.cmpValue (FP.fcmp l8 l5) (.l : CmpOp)) ≤ 0 → ∀ v35 : Int32, v35 = l6 + (1 : Int32) → ∀ v37 : Int32, v37 = l7 + (1 : Int32) → B33 l3 s0 l8 v35 v37 h))))
set_option maxRecDepth 100000 in
set_option maxHeartbeats 4000000 in
theorem t_M_pace_j91 (s0 : UInt32) (l0 : xN) (l1 : Int32) (l2 : Int32) (l3 : UInt32) (l5 : UInt32) (l6 : Int32) (l7 : Int32) (l8 : UInt32) (B33 : UInt32 → UInt32 → UInt32 → Int32 → Int32 → xH → Prop) (h : xH) (Q : Int32 → xH → Prop) (hB33 : ∀ (x3 : UInt32) (x4 : UInt32) (x5 : UInt32) (x6 : Int32) (x7 : Int32) (h : xH), B33 x3 x4 x5 x6 x7 h → WP M_M_pace 33 [(0, xr l0), (1, xi l1), (2, xi l2), (3, xf x3), (4, xf x4), (5, xf x5), (6, xi x6), (7, xi x7)] [] h 0 (qi Q)) (H : p_M_pace_j91 s0 l0 l1 l2 l3 l5 l6 l7 l8 B33 h Q) : WP M_M_pace 91 [(0, xr l0), (1, xi l1), (2, xi l2), (3, xf l3), (5, xf l5), (6, xi l6), (7, xi l7), (8, xf l8)] [xf s0] h 0 (qi Q) := by
  unfold p_M_pace_j91 at H
  refine wp_fstore (Nat.le_of_ble_eq_true rfl) dX11_pace_91 (ls' := [(4, xf s0), (0, xr l0), (1, xi l1), (2, xi l2), (3, xf l3), (5, xf l5), (6, xi l6), (7, xi l7), (8, xf l8)]) rfl ?_
  refine wp_iload rfl dX11_pace_93 ?_
  refine WP.at 95 rfl ?_
  refine wp_if_eq 106 (by decide) dX11_pace_95 (fun c25 => ?_) (fun c25 => ?_)
  · replace H := H.1 c25
    refine wp_fload rfl dX11_pace_106 ?_
    refine WP.at 108 rfl ?_
    refine wp_goto 113 (by decide) dX11_pace_108 ?_
    refine wp_fstore (Nat.le_of_ble_eq_true rfl) dX11_pace_113 (ls' := [(5, xf l8), (4, xf s0), (0, xr l0), (1, xi l1), (2, xi l2), (3, xf l3), (6, xi l6), (7, xi l7), (8, xf l8)]) rfl ?_
    refine wp_iincN (1 : Int32) (by decide) rfl (Nat.le_of_ble_eq_true rfl) dX11_pace_115 (ls' := fun v26 => [(6, xi v26), (5, xf l8), (4, xf s0), (0, xr l0), (1, xi l1), (2, xi l2), (3, xf l3), (7, xi l7), (8, xf l8)]) (fun _ => rfl) (fun v26 e27 => ?_)
    replace H := H v26 e27
    refine wp_iincN (1 : Int32) (by decide) rfl (Nat.le_of_ble_eq_true rfl) dX11_pace_118 (ls' := fun v28 => [(7, xi v28), (6, xi v26), (5, xf l8), (4, xf s0), (0, xr l0), (1, xi l1), (2, xi l2), (3, xf l3), (8, xf l8)]) (fun _ => rfl) (fun v28 e29 => ?_)
    replace H := H v28 e29
    refine WP.at 121 rfl ?_
    refine wp_goto 33 (by decide) dX11_pace_121 ?_
    exact WP.pick [4, 5, 6, 7, 3, 2, 1, 0] rfl (hB33 l3 s0 l8 v26 v28 _ H)
  · replace H := H.2 c25
    refine wp_fload rfl dX11_pace_98 ?_
    refine wp_fload rfl dX11_pace_100 ?_
    refine wp_fcmp dX11_pace_102 ?_
    refine WP.at 103 rfl ?_
    refine wp_if_le 111 (by decide) dX11_pace_103 (fun c30 => ?_) (fun c30 => ?_)
    · replace H := H.1 c30
      refine wp_fload rfl dX11_pace_111 ?_
      refine wp_fstore (Nat.le_of_ble_eq_true rfl) dX11_pace_113 (ls' := [(5, xf l5), (4, xf s0), (0, xr l0), (1, xi l1), (2, xi l2), (3, xf l3), (6, xi l6), (7, xi l7), (8, xf l8)]) rfl ?_
      refine wp_iincN (1 : Int32) (by decide) rfl (Nat.le_of_ble_eq_true rfl) dX11_pace_115 (ls' := fun v31 => [(6, xi v31), (5, xf l5), (4, xf s0), (0, xr l0), (1, xi l1), (2, xi l2), (3, xf l3), (7, xi l7), (8, xf l8)]) (fun _ => rfl) (fun v31 e32 => ?_)
      replace H := H v31 e32
      refine wp_iincN (1 : Int32) (by decide) rfl (Nat.le_of_ble_eq_true rfl) dX11_pace_118 (ls' := fun v33 => [(7, xi v33), (6, xi v31), (5, xf l5), (4, xf s0), (0, xr l0), (1, xi l1), (2, xi l2), (3, xf l3), (8, xf l8)]) (fun _ => rfl) (fun v33 e34 => ?_)
      replace H := H v33 e34
      refine WP.at 121 rfl ?_
      refine wp_goto 33 (by decide) dX11_pace_121 ?_
      exact WP.pick [4, 5, 6, 7, 3, 2, 1, 0] rfl (hB33 l3 s0 l5 v31 v33 _ H)
    · replace H := H.2 c30
      refine wp_fload rfl dX11_pace_106 ?_
      refine WP.at 108 rfl ?_
      refine wp_goto 113 (by decide) dX11_pace_108 ?_
      refine wp_fstore (Nat.le_of_ble_eq_true rfl) dX11_pace_113 (ls' := [(5, xf l8), (4, xf s0), (0, xr l0), (1, xi l1), (2, xi l2), (3, xf l3), (6, xi l6), (7, xi l7), (8, xf l8)]) rfl ?_
      refine wp_iincN (1 : Int32) (by decide) rfl (Nat.le_of_ble_eq_true rfl) dX11_pace_115 (ls' := fun v35 => [(6, xi v35), (5, xf l8), (4, xf s0), (0, xr l0), (1, xi l1), (2, xi l2), (3, xf l3), (7, xi l7), (8, xf l8)]) (fun _ => rfl) (fun v35 e36 => ?_)
      replace H := H v35 e36
      refine wp_iincN (1 : Int32) (by decide) rfl (Nat.le_of_ble_eq_true rfl) dX11_pace_118 (ls' := fun v37 => [(7, xi v37), (6, xi v35), (5, xf l8), (4, xf s0), (0, xr l0), (1, xi l1), (2, xi l2), (3, xf l3), (8, xf l8)]) (fun _ => rfl) (fun v37 e38 => ?_)
      replace H := H v37 e38
      refine WP.at 121 rfl ?_
      refine wp_goto 33 (by decide) dX11_pace_121 ?_
      exact WP.pick [4, 5, 6, 7, 3, 2, 1, 0] rfl (hB33 l3 s0 l8 v35 v37 _ H)
def p_M_pace_L33 (l0 : xN) (l1 : Int32) (l2 : Int32) (K33_124 : UInt32 → UInt32 → UInt32 → Int32 → xH → Prop) (Q : Int32 → xH → Prop) : Nat → UInt32 → UInt32 → UInt32 → Int32 → Int32 → xH → Prop
  | 0, _, _, _, _, _, _ => False
  | f + 1, l3, l4, l5, l6, l7, h => (kd l0.1 = (1, 10)) ∧ (kd (hR h l0 64).1 = (2, 0)) ∧ (vp_in l1 (hS h (hR h l0 64) - 1)) ∧ (((hI h (hR h l0 64) l1.toNatClampNeg) ≤ l7 → K33_124 l3 l4 l5 l6 h) ∧ (¬ (hI h (hR h l0 64) l1.toNatClampNeg) ≤ l7 → (kd (hR h l0 65).1 = (4, 0)) ∧ (vp_in (((12 : Int32) * l1) + l7) (hS h (hR h l0 65) - 1)) ∧ ∀ v14 : UInt32, v14 = (hI h (hR h l0 65) (((12 : Int32) * l1) + l7).toNatClampNeg).toUInt32 → p_M_isNumber v14 h (fun (v17 : Int32) (h16 : xH) => ((v17 = 0 → ∀ v19 : Int32, v19 = l7 + (1 : Int32) → (p_M_pace_L33 l0 l1 l2 K33_124 Q f) l3 l4 l5 l6 v19 h16) ∧ (¬ v17 = 0 → (vf_n32 (FP.fadd l3 v14)) ∧ ∀ v22 : UInt32, v22 = FP.fadd l3 v14 → ((l6 = 0 → p_M_pace_j91 v14 l0 l1 l2 v22 l5 l6 l7 v14 (p_M_pace_L33 l0 l1 l2 K33_124 Q f) h16 Q) ∧ (¬ l6 = 0 → ((0 ≤ (Op.cmpValue (FP.fcmp v14 l4) (.g : CmpOp)) → p_M_pace_j91 l4 l0 l1 l2 v22 l5 l6 l7 v14 (p_M_pace_L33 l0 l1 l2 K33_124 Q f) h16 Q) ∧ (¬ 0 ≤ (Op.cmpValue (FP.fcmp v14 l4) (.g : CmpOp)) → p_M_pace_j91 v14 l0 l1 l2 v22 l5 l6 l7 v14 (p_M_pace_L33 l0 l1 l2 K33_124 Q f) h16 Q)))))))))
set_option maxRecDepth 100000 in
set_option maxHeartbeats 4000000 in
theorem t_M_pace_L33 (l0 : xN) (l1 : Int32) (l2 : Int32) (K33_124 : UInt32 → UInt32 → UInt32 → Int32 → xH → Prop) (Q : Int32 → xH → Prop) (hK33_124 : ∀ (x3 : UInt32) (x4 : UInt32) (x5 : UInt32) (x6 : Int32) (h : xH), K33_124 x3 x4 x5 x6 h → WP M_M_pace 124 [(2, xi l2), (3, xf x3), (4, xf x4), (5, xf x5), (6, xi x6)] [] h 0 (qi Q)) : ∀ (f : Nat) (l3 : UInt32) (l4 : UInt32) (l5 : UInt32) (l6 : Int32) (l7 : Int32) (h : xH), p_M_pace_L33 l0 l1 l2 K33_124 Q f l3 l4 l5 l6 l7 h → WP M_M_pace 33 [(0, xr l0), (1, xi l1), (2, xi l2), (3, xf l3), (4, xf l4), (5, xf l5), (6, xi l6), (7, xi l7)] [] h 0 (qi Q) := by
  intro f
  induction f with
  | zero => exact fun _ _ _ _ _ _ H => H.elim
  | succ f hB33 =>
    intro l3 l4 l5 l6 l7 h H
    unfold p_M_pace_L33 at H
    refine wp_iload rfl dX11_pace_33 ?_
    refine wp_aload_n 0 rfl rfl dX11_pace_35 ?_
    obtain ⟨q8, H⟩ := H
    refine wp_getr coX11 64 (Nat.le_of_ble_eq_true rfl) fl_X11_158 rfl q8 dX11_pace_36 ?_
    refine wp_iload_n 1 rfl rfl dX11_pace_39 ?_
    obtain ⟨q9, H⟩ := H
    obtain ⟨q10, H⟩ := H
    refine wp_iaload q9 q10 dX11_pace_40 ?_
    refine WP.at 41 rfl ?_
    refine wp_icmp_ge 124 (by decide) dX11_pace_41 (fun c11 => ?_) (fun c11 => ?_)
    · replace H := H.1 c11
      exact WP.pick [2, 3, 4, 5, 6] rfl (hK33_124 l3 l4 l5 l6 _ H)
    · replace H := H.2 c11
      refine wp_aload_n 0 rfl rfl dX11_pace_44 ?_
      refine wp_getr coX11 65 (Nat.le_of_ble_eq_true rfl) fl_X11_161 rfl q8 dX11_pace_45 ?_
      refine wp_bipush (12 : Int32) (by decide) dX11_pace_48 ?_
      refine wp_iload_n 1 rfl rfl dX11_pace_50 ?_
      refine wp_imul dX11_pace_51 ?_
      refine wp_iload rfl dX11_pace_52 ?_
      refine wp_iadd dX11_pace_54 ?_
      refine WP.at 55 rfl ?_
      obtain ⟨q12, H⟩ := H
      obtain ⟨q13, H⟩ := H
      refine wp_faload q12 q13 dX11_pace_55 ?_
      refine wp_nmf (fun v14 e15 => ?_)
      replace H := H v14 e15
      refine wp_fstore (Nat.le_of_ble_eq_true rfl) dX11_pace_56 (ls' := [(8, xf v14), (0, xr l0), (1, xi l1), (2, xi l2), (3, xf l3), (4, xf l4), (5, xf l5), (6, xi l6), (7, xi l7)]) rfl ?_
      refine wp_fload rfl dX11_pace_58 ?_
      refine WP.at 60 rfl ?_
      refine wp_cSi (M2 := M_M_isNumber) [xf v14] rfl ls_X11_380 mo_M_isNumber (Nat.le_of_ble_eq_true rfl) ⟨(Nat.le_of_ble_eq_true rfl), (Nat.le_of_ble_eq_true rfl)⟩ (Nat.le_of_ble_eq_true rfl) (Nat.le_of_ble_eq_true rfl) dX11_pace_60 (t_M_isNumber v14 _ _ H) (fun v17 h16 H => ?_)
      refine WP.at 63 rfl ?_
      refine wp_if_eq 118 (by decide) dX11_pace_63 (fun c18 => ?_) (fun c18 => ?_)
      · replace H := H.1 c18
        refine wp_iincN (1 : Int32) (by decide) rfl (Nat.le_of_ble_eq_true rfl) dX11_pace_118 (ls' := fun v19 => [(7, xi v19), (8, xf v14), (0, xr l0), (1, xi l1), (2, xi l2), (3, xf l3), (4, xf l4), (5, xf l5), (6, xi l6)]) (fun _ => rfl) (fun v19 e20 => ?_)
        replace H := H v19 e20
        refine WP.at 121 rfl ?_
        refine wp_goto 33 (by decide) dX11_pace_121 ?_
        exact WP.pick [2, 3, 4, 5, 6, 7, 8, 0] rfl (hB33 l3 l4 l5 l6 v19 _ H)
      · replace H := H.2 c18
        refine wp_fload_n 3 rfl rfl dX11_pace_66 ?_
        refine wp_fload rfl dX11_pace_67 ?_
        obtain ⟨q21, H⟩ := H
        refine wp_fadd q21 dX11_pace_69 ?_
        refine wp_nmf (fun v22 e23 => ?_)
        replace H := H v22 e23
        refine wp_fstore_n 3 rfl (Nat.le_of_ble_eq_true rfl) dX11_pace_70 (ls' := [(3, xf v22), (8, xf v14), (0, xr l0), (1, xi l1), (2, xi l2), (4, xf l4), (5, xf l5), (6, xi l6), (7, xi l7)]) rfl ?_
        refine wp_iload rfl dX11_pace_71 ?_
        refine WP.at 73 rfl ?_
        refine wp_if_eq 84 (by decide) dX11_pace_73 (fun c24 => ?_) (fun c24 => ?_)
        · replace H := H.1 c24
          refine wp_fload rfl dX11_pace_84 ?_
          refine WP.at 86 rfl ?_
          refine wp_goto 91 (by decide) dX11_pace_86 ?_
          exact WP.pick [2, 3, 4, 0, 6, 7, 8, 1] rfl (t_M_pace_j91 v14 l0 l1 l2 v22 l5 l6 l7 v14 _ _ _ hB33 H)
        · replace H := H.2 c24
          refine wp_fload rfl dX11_pace_76 ?_
          refine wp_fload rfl dX11_pace_78 ?_
          refine wp_fcmp dX11_pace_80 ?_
          refine WP.at 81 rfl ?_
          refine wp_if_ge 89 (by decide) dX11_pace_81 (fun c39 => ?_) (fun c39 => ?_)
          · replace H := H.1 c39
            refine wp_fload rfl dX11_pace_89 ?_
            refine WP.at 91 rfl ?_
            exact WP.pick [2, 3, 4, 0, 6, 7, 8, 1] rfl (t_M_pace_j91 l4 l0 l1 l2 v22 l5 l6 l7 v14 _ _ _ hB33 H)
          · replace H := H.2 c39
            refine wp_fload rfl dX11_pace_84 ?_
            refine WP.at 86 rfl ?_
            refine wp_goto 91 (by decide) dX11_pace_86 ?_
            exact WP.pick [2, 3, 4, 0, 6, 7, 8, 1] rfl (t_M_pace_j91 v14 l0 l1 l2 v22 l5 l6 l7 v14 _ _ _ hB33 H)
def p_M_pace_j174 (s0 : UInt32) (h : xH) (Q : Int32 → xH → Prop) : Prop := p_M_bitsOf s0 h (fun (v51 : Int32) (h50 : xH) => Q v51 h50)
set_option maxRecDepth 100000 in
set_option maxHeartbeats 4000000 in
theorem t_M_pace_j174 (s0 : UInt32) (h : xH) (Q : Int32 → xH → Prop) (H : p_M_pace_j174 s0 h Q) : WP M_M_pace 174 [] [xf s0] h 0 (qi Q) := by
  unfold p_M_pace_j174 at H
  refine WP.at 174 rfl ?_
  refine wp_cSi (M2 := M_M_bitsOf) [xf s0] rfl ls_X11_377 mo_M_bitsOf (Nat.le_of_ble_eq_true rfl) ⟨(Nat.le_of_ble_eq_true rfl), (Nat.le_of_ble_eq_true rfl)⟩ (Nat.le_of_ble_eq_true rfl) (Nat.le_of_ble_eq_true rfl) dX11_pace_174 (t_M_bitsOf s0 _ _ H) (fun v51 h50 H => ?_)
  exact wp_iret trivial dX11_pace_177 H
def p_M_pace (l0 : xN) (l1 : Int32) (l2 : Int32) (h : xH) (Q : Int32 → xH → Prop) : Prop := (kd l0.1 = (1, 10)) ∧ p_M_isRace l0 l1 h (fun (v3 : Int32) (h2 : xH) => ((v3 = 0 → Q (0 : Int32) h2) ∧ (¬ v3 = 0 → p_M_in l2 (0 : Int32) (4 : Int32) h2 (fun (v6 : Int32) (h5 : xH) => ((¬ v6 = 0 → (∃ f53, p_M_pace_L33 l0 l1 l2 (fun (x40 : UInt32) (x41 : UInt32) (x42 : UInt32) (x43 : Int32) (h44 : xH) => ((¬ l2 = (4 : Int32) → ((¬ x43 = 0 → ((¬ l2 = 0 → ((¬ l2 = (1 : Int32) → ((¬ l2 = (2 : Int32) → p_M_pace_j174 x42 h44 Q) ∧ (l2 = (2 : Int32) → p_M_pace_j174 x41 h44 Q))) ∧ (l2 = (1 : Int32) → (vf_n32 (FP.fdiv x40 (FP.i2f x43))) ∧ p_M_pace_j174 (FP.fdiv x40 (FP.i2f x43)) h44 Q))) ∧ (l2 = 0 → p_M_pace_j174 x40 h44 Q))) ∧ (x43 = 0 → Q (2143289344 : Int32) h44))) ∧ (l2 = (4 : Int32) → Q x43 h44))) Q f53 (0 : UInt32) (0 : UInt32) (0 : UInt32) (0 : Int32) (0 : Int32) h5)) ∧ (v6 = 0 → Q (0 : Int32) h5))))))
set_option maxRecDepth 100000 in
set_option maxHeartbeats 4000000 in
theorem t_M_pace (l0 : xN) (l1 : Int32) (l2 : Int32) (h : xH) (Q : Int32 → xH → Prop) (H : p_M_pace l0 l1 l2 h Q) : WP M_M_pace 0 [(0, xr l0), (1, xi l1), (2, xi l2)] [] h 0 (qi Q) := by
  unfold p_M_pace at H
  refine wp_aload_n 0 rfl rfl dX11_pace_0 ?_
  refine wp_iload_n 1 rfl rfl dX11_pace_1 ?_
  refine WP.at 2 rfl ?_
  obtain ⟨q1, H⟩ := H
  refine wp_cVi (M2 := M_M_isRace) coX11 l0 q1 [xi l1] rfl lv_X11_179 mo_M_isRace (Nat.le_of_ble_eq_true rfl) ⟨(Nat.le_of_ble_eq_true rfl), (Nat.le_of_ble_eq_true rfl)⟩ (Nat.le_of_ble_eq_true rfl) (Nat.le_of_ble_eq_true rfl) dX11_pace_2 (t_M_isRace l0 l1 _ _ H) (fun v3 h2 H => ?_)
  refine WP.at 5 rfl ?_
  refine wp_if_eq 17 (by decide) dX11_pace_5 (fun c4 => ?_) (fun c4 => ?_)
  · replace H := H.1 c4
    refine wp_iconst (0 : Int32) (by decide) dX11_pace_17 ?_
    exact wp_iret trivial dX11_pace_18 H
  · replace H := H.2 c4
    refine wp_iload_n 2 rfl rfl dX11_pace_8 ?_
    refine wp_iconst (0 : Int32) (by decide) dX11_pace_9 ?_
    refine wp_iconst (4 : Int32) (by decide) dX11_pace_10 ?_
    refine WP.at 11 rfl ?_
    refine wp_cSi (M2 := M_M_in) [xi l2, xi (0 : Int32), xi (4 : Int32)] rfl ls_X11_172 mo_M_in (Nat.le_of_ble_eq_true rfl) ⟨(Nat.le_of_ble_eq_true rfl), (Nat.le_of_ble_eq_true rfl)⟩ (Nat.le_of_ble_eq_true rfl) (Nat.le_of_ble_eq_true rfl) dX11_pace_11 (t_M_in l2 (0 : Int32) (4 : Int32) _ _ H) (fun v6 h5 H => ?_)
    refine WP.at 14 rfl ?_
    refine wp_if_ne 19 (by decide) dX11_pace_14 (fun c7 => ?_) (fun c7 => ?_)
    · replace H := H.1 c7
      refine wp_fconst0 dX11_pace_19 ?_
      refine wp_fstore_n 3 rfl (Nat.le_of_ble_eq_true rfl) dX11_pace_20 (ls' := [(3, xf (0 : UInt32)), (0, xr l0), (1, xi l1), (2, xi l2)]) rfl ?_
      refine wp_fconst0 dX11_pace_21 ?_
      refine wp_fstore (Nat.le_of_ble_eq_true rfl) dX11_pace_22 (ls' := [(4, xf (0 : UInt32)), (3, xf (0 : UInt32)), (0, xr l0), (1, xi l1), (2, xi l2)]) rfl ?_
      refine wp_fconst0 dX11_pace_24 ?_
      refine wp_fstore (Nat.le_of_ble_eq_true rfl) dX11_pace_25 (ls' := [(5, xf (0 : UInt32)), (4, xf (0 : UInt32)), (3, xf (0 : UInt32)), (0, xr l0), (1, xi l1), (2, xi l2)]) rfl ?_
      refine wp_iconst (0 : Int32) (by decide) dX11_pace_27 ?_
      refine WP.at 28 rfl ?_
      refine wp_istore (Nat.le_of_ble_eq_true rfl) dX11_pace_28 (ls' := [(6, xi (0 : Int32)), (5, xf (0 : UInt32)), (4, xf (0 : UInt32)), (3, xf (0 : UInt32)), (0, xr l0), (1, xi l1), (2, xi l2)]) rfl ?_
      refine wp_iconst (0 : Int32) (by decide) dX11_pace_30 ?_
      refine wp_istore (Nat.le_of_ble_eq_true rfl) dX11_pace_31 (ls' := [(7, xi (0 : Int32)), (6, xi (0 : Int32)), (5, xf (0 : UInt32)), (4, xf (0 : UInt32)), (3, xf (0 : UInt32)), (0, xr l0), (1, xi l1), (2, xi l2)]) rfl ?_
      refine WP.at 33 rfl ?_
      obtain ⟨f53, H⟩ := H
      refine WP.pick [5, 6, 7, 4, 3, 2, 1, 0] rfl (t_M_pace_L33 l0 l1 l2 _ Q ?_ f53 (0 : UInt32) (0 : UInt32) (0 : UInt32) (0 : Int32) (0 : Int32) _ H)
      · intro x40 x41 x42 x43 h44 H
        refine wp_iload_n 2 rfl rfl dX11_pace_124 ?_
        refine wp_iconst (4 : Int32) (by decide) dX11_pace_125 ?_
        refine WP.at 126 rfl ?_
        refine wp_icmp_ne 132 (by decide) dX11_pace_126 (fun c45 => ?_) (fun c45 => ?_)
        · replace H := H.1 c45
          refine wp_iload rfl dX11_pace_132 ?_
          refine WP.at 134 rfl ?_
          refine wp_if_ne 141 (by decide) dX11_pace_134 (fun c46 => ?_) (fun c46 => ?_)
          · replace H := H.1 c46
            refine wp_iload_n 2 rfl rfl dX11_pace_141 ?_
            refine WP.at 142 rfl ?_
            refine wp_if_ne 149 (by decide) dX11_pace_142 (fun c47 => ?_) (fun c47 => ?_)
            · replace H := H.1 c47
              refine wp_iload_n 2 rfl rfl dX11_pace_149 ?_
              refine wp_iconst (1 : Int32) (by decide) dX11_pace_150 ?_
              refine WP.at 151 rfl ?_
              refine wp_icmp_ne 162 (by decide) dX11_pace_151 (fun c48 => ?_) (fun c48 => ?_)
              · replace H := H.1 c48
                refine wp_iload_n 2 rfl rfl dX11_pace_162 ?_
                refine wp_iconst (2 : Int32) (by decide) dX11_pace_163 ?_
                refine WP.at 164 rfl ?_
                refine wp_icmp_ne 172 (by decide) dX11_pace_164 (fun c49 => ?_) (fun c49 => ?_)
                · replace H := H.1 c49
                  refine wp_fload rfl dX11_pace_172 ?_
                  refine WP.at 174 rfl ?_
                  exact WP.pick [] rfl (t_M_pace_j174 x42 _ _ H)
                · replace H := H.2 c49
                  refine wp_fload rfl dX11_pace_167 ?_
                  refine WP.at 169 rfl ?_
                  refine wp_goto 174 (by decide) dX11_pace_169 ?_
                  exact WP.pick [] rfl (t_M_pace_j174 x41 _ _ H)
              · replace H := H.2 c48
                refine wp_fload_n 3 rfl rfl dX11_pace_154 ?_
                refine wp_iload rfl dX11_pace_155 ?_
                refine wp_i2f dX11_pace_157 ?_
                obtain ⟨q52, H⟩ := H
                refine wp_fdiv q52 dX11_pace_158 ?_
                refine WP.at 159 rfl ?_
                refine wp_goto 174 (by decide) dX11_pace_159 ?_
                exact WP.pick [] rfl (t_M_pace_j174 (FP.fdiv x40 (FP.i2f x43)) _ _ H)
            · replace H := H.2 c47
              refine wp_fload_n 3 rfl rfl dX11_pace_145 ?_
              refine WP.at 146 rfl ?_
              refine wp_goto 174 (by decide) dX11_pace_146 ?_
              exact WP.pick [] rfl (t_M_pace_j174 x40 _ _ H)
          · replace H := H.2 c46
            refine wp_ldcw (2143289344 : Int32) cI_X11_361 dX11_pace_137 ?_
            exact wp_iret trivial dX11_pace_140 H
        · replace H := H.2 c45
          refine wp_iload rfl dX11_pace_129 ?_
          exact wp_iret trivial dX11_pace_131 H
    · replace H := H.2 c7
      refine wp_iconst (0 : Int32) (by decide) dX11_pace_17 ?_
      exact wp_iret trivial dX11_pace_18 H
