def p_Fl_sizeOfRemainder_L39 (l1 : Int32) (l2 : Int32) (l3 : Int32) (K39_59 : Int32 → xH → Prop) (Q : Int32 → xH → Prop) : Nat → Int32 → Int32 → xH → Prop
  | 0, _, _, _ => False
  | f + 1, l4, l5, h => ((l2 ≤ l5 → K39_59 l4 h) ∧ (¬ l2 ≤ l5 → (¬ l3 = 0) ∧ ∀ v19 : Int32, v19 = (l4 * (2 : Int32)) - (l4 * (2 : Int32)) / l3 * l3 → ∀ v21 : Int32, v21 = l5 + (1 : Int32) → (p_Fl_sizeOfRemainder_L39 l1 l2 l3 K39_59 Q f) v19 v21 h))
set_option maxRecDepth 100000 in
set_option maxHeartbeats 4000000 in
theorem t_Fl_sizeOfRemainder_L39 (l1 : Int32) (l2 : Int32) (l3 : Int32) (K39_59 : Int32 → xH → Prop) (Q : Int32 → xH → Prop) (hK39_59 : ∀ (x4 : Int32) (h : xH), K39_59 x4 h → WP M_Fl_sizeOfRemainder 59 [(1, xi l1), (4, xi x4)] [] h 0 (qi Q)) : ∀ (f : Nat) (l4 : Int32) (l5 : Int32) (h : xH), p_Fl_sizeOfRemainder_L39 l1 l2 l3 K39_59 Q f l4 l5 h → WP M_Fl_sizeOfRemainder 39 [(1, xi l1), (2, xi l2), (3, xi l3), (4, xi l4), (5, xi l5)] [] h 0 (qi Q) := by
  intro f
  induction f with
  | zero => exact fun _ _ _ H => H.elim
  | succ f hB39 =>
    intro l4 l5 h H
    unfold p_Fl_sizeOfRemainder_L39 at H
    refine wp_iload rfl dX3_sizeOfRemainder_39 ?_
    refine wp_iload_n 2 rfl rfl dX3_sizeOfRemainder_41 ?_
    refine WP.at 42 rfl ?_
    refine wp_icmp_ge 59 (by decide) dX3_sizeOfRemainder_42 (fun c17 => ?_) (fun c17 => ?_)
    · replace H := H.1 c17
      exact WP.pick [0, 3] rfl (hK39_59 l4 _ H)
    · replace H := H.2 c17
      refine wp_iload rfl dX3_sizeOfRemainder_45 ?_
      refine wp_iconst (2 : Int32) (by decide) dX3_sizeOfRemainder_47 ?_
      refine wp_imul dX3_sizeOfRemainder_48 ?_
      refine wp_iload_n 3 rfl rfl dX3_sizeOfRemainder_49 ?_
      obtain ⟨q18, H⟩ := H
      refine wp_irem q18 dX3_sizeOfRemainder_50 ?_
      refine wp_nm (fun v19 e20 => ?_)
      replace H := H v19 e20
      refine wp_istore (Nat.le_of_ble_eq_true rfl) dX3_sizeOfRemainder_51 (ls' := [(4, xi v19), (1, xi l1), (2, xi l2), (3, xi l3), (5, xi l5)]) rfl ?_
      refine wp_iincN (1 : Int32) (by decide) rfl (Nat.le_of_ble_eq_true rfl) dX3_sizeOfRemainder_53 (ls' := fun v21 => [(5, xi v21), (4, xi v19), (1, xi l1), (2, xi l2), (3, xi l3)]) (fun _ => rfl) (fun v21 e22 => ?_)
      replace H := H v21 e22
      refine WP.at 56 rfl ?_
      refine WP.at 56 rfl ?_
      refine wp_goto 39 (by decide) dX3_sizeOfRemainder_56 ?_
      exact WP.pick [2, 3, 4, 1, 0] rfl (hB39 v19 v21 _ H)
def p_Fl_sizeOfRemainder (l0 : Int32) (l1 : Int32) (h : xH) (Q : Int32 → xH → Prop) : Prop := p_Fl_power l0 h (fun (v2 : Int32) (h1 : xH) => p_Fl_power l1 h1 (fun (v4 : Int32) (h3 : xH) => ∀ v5 : Int32, v5 = v2 - v4 → ((0 ≤ v5 → p_Fl_mantissa l1 h3 (fun (v9 : Int32) (h8 : xH) => p_Jm_max v9 (1 : Int32) h8 (fun (v11 : Int32) (h10 : xH) => p_Fl_mantissa l0 h10 (fun (v13 : Int32) (h12 : xH) => (¬ v11 = 0) ∧ ∀ v15 : Int32, v15 = v13 - v13 / v11 * v11 → (∃ f29, p_Fl_sizeOfRemainder_L39 l1 v5 v11 (fun (x23 : Int32) (h24 : xH) => p_Fl_power l1 h24 (fun (v26 : Int32) (h25 : xH) => p_Fl_pack x23 v26 h25 (fun (v28 : Int32) (h27 : xH) => Q v28 h27))) Q f29 v15 (0 : Int32) h12))))) ∧ (¬ 0 ≤ v5 → Q (l0 &&& (2147483647 : Int32)) h3))))
set_option maxRecDepth 100000 in
set_option maxHeartbeats 4000000 in
theorem t_Fl_sizeOfRemainder (l0 : Int32) (l1 : Int32) (h : xH) (Q : Int32 → xH → Prop) (H : p_Fl_sizeOfRemainder l0 l1 h Q) : WP M_Fl_sizeOfRemainder 0 [(0, xi l0), (1, xi l1)] [] h 0 (qi Q) := by
  unfold p_Fl_sizeOfRemainder at H
  refine wp_iload_n 0 rfl rfl dX3_sizeOfRemainder_0 ?_
  refine WP.at 1 rfl ?_
  refine wp_cSi (M2 := M_Fl_power) [xi l0] rfl ls_X3_23 mo_Fl_power (Nat.le_of_ble_eq_true rfl) ⟨(Nat.le_of_ble_eq_true rfl), (Nat.le_of_ble_eq_true rfl)⟩ (Nat.le_of_ble_eq_true rfl) (Nat.le_of_ble_eq_true rfl) dX3_sizeOfRemainder_1 (t_Fl_power l0 _ _ H) (fun v2 h1 H => ?_)
  refine wp_iload_n 1 rfl rfl dX3_sizeOfRemainder_4 ?_
  refine WP.at 5 rfl ?_
  refine wp_cSi (M2 := M_Fl_power) [xi l1] rfl ls_X3_23 mo_Fl_power (Nat.le_of_ble_eq_true rfl) ⟨(Nat.le_of_ble_eq_true rfl), (Nat.le_of_ble_eq_true rfl)⟩ (Nat.le_of_ble_eq_true rfl) (Nat.le_of_ble_eq_true rfl) dX3_sizeOfRemainder_5 (t_Fl_power l1 _ _ H) (fun v4 h3 H => ?_)
  refine wp_isub dX3_sizeOfRemainder_8 ?_
  refine wp_nm (fun v5 e6 => ?_)
  replace H := H v5 e6
  refine wp_istore_n 2 rfl (Nat.le_of_ble_eq_true rfl) dX3_sizeOfRemainder_9 (ls' := [(2, xi v5), (0, xi l0), (1, xi l1)]) rfl ?_
  refine wp_iload_n 2 rfl rfl dX3_sizeOfRemainder_10 ?_
  refine WP.at 11 rfl ?_
  refine WP.at 11 rfl ?_
  refine wp_if_ge 19 (by decide) dX3_sizeOfRemainder_11 (fun c7 => ?_) (fun c7 => ?_)
  · replace H := H.1 c7
    refine wp_iload_n 1 rfl rfl dX3_sizeOfRemainder_19 ?_
    refine WP.at 20 rfl ?_
    refine wp_cSi (M2 := M_Fl_mantissa) [xi l1] rfl ls_X3_19 mo_Fl_mantissa (Nat.le_of_ble_eq_true rfl) ⟨(Nat.le_of_ble_eq_true rfl), (Nat.le_of_ble_eq_true rfl)⟩ (Nat.le_of_ble_eq_true rfl) (Nat.le_of_ble_eq_true rfl) dX3_sizeOfRemainder_20 (t_Fl_mantissa l1 _ _ H) (fun v9 h8 H => ?_)
    refine wp_iconst (1 : Int32) (by decide) dX3_sizeOfRemainder_23 ?_
    refine WP.at 24 rfl ?_
    refine wp_cSi (M2 := M_Jm_max) [xi v9, xi (1 : Int32)] rfl ls_X3_13 mo_Jm_max (Nat.le_of_ble_eq_true rfl) ⟨(Nat.le_of_ble_eq_true rfl), (Nat.le_of_ble_eq_true rfl)⟩ (Nat.le_of_ble_eq_true rfl) (Nat.le_of_ble_eq_true rfl) dX3_sizeOfRemainder_24 (t_Jm_max v9 (1 : Int32) _ _ H) (fun v11 h10 H => ?_)
    refine wp_istore_n 3 rfl (Nat.le_of_ble_eq_true rfl) dX3_sizeOfRemainder_27 (ls' := [(3, xi v11), (2, xi v5), (0, xi l0), (1, xi l1)]) rfl ?_
    refine wp_iload_n 0 rfl rfl dX3_sizeOfRemainder_28 ?_
    refine WP.at 29 rfl ?_
    refine wp_cSi (M2 := M_Fl_mantissa) [xi l0] rfl ls_X3_19 mo_Fl_mantissa (Nat.le_of_ble_eq_true rfl) ⟨(Nat.le_of_ble_eq_true rfl), (Nat.le_of_ble_eq_true rfl)⟩ (Nat.le_of_ble_eq_true rfl) (Nat.le_of_ble_eq_true rfl) dX3_sizeOfRemainder_29 (t_Fl_mantissa l0 _ _ H) (fun v13 h12 H => ?_)
    refine WP.at 32 rfl ?_
    refine wp_iload_n 3 rfl rfl dX3_sizeOfRemainder_32 ?_
    obtain ⟨q14, H⟩ := H
    refine wp_irem q14 dX3_sizeOfRemainder_33 ?_
    refine wp_nm (fun v15 e16 => ?_)
    replace H := H v15 e16
    refine wp_istore (Nat.le_of_ble_eq_true rfl) dX3_sizeOfRemainder_34 (ls' := [(4, xi v15), (3, xi v11), (2, xi v5), (0, xi l0), (1, xi l1)]) rfl ?_
    refine wp_iconst (0 : Int32) (by decide) dX3_sizeOfRemainder_36 ?_
    refine wp_istore (Nat.le_of_ble_eq_true rfl) dX3_sizeOfRemainder_37 (ls' := [(5, xi (0 : Int32)), (4, xi v15), (3, xi v11), (2, xi v5), (0, xi l0), (1, xi l1)]) rfl ?_
    refine WP.at 39 rfl ?_
    obtain ⟨f29, H⟩ := H
    refine WP.pick [5, 3, 2, 1, 0] rfl (t_Fl_sizeOfRemainder_L39 l1 v5 v11 _ Q ?_ f29 v15 (0 : Int32) _ H)
    · intro x23 h24 H
      refine wp_iload rfl dX3_sizeOfRemainder_59 ?_
      refine wp_iload_n 1 rfl rfl dX3_sizeOfRemainder_61 ?_
      refine WP.at 62 rfl ?_
      refine wp_cSi (M2 := M_Fl_power) [xi l1] rfl ls_X3_23 mo_Fl_power (Nat.le_of_ble_eq_true rfl) ⟨(Nat.le_of_ble_eq_true rfl), (Nat.le_of_ble_eq_true rfl)⟩ (Nat.le_of_ble_eq_true rfl) (Nat.le_of_ble_eq_true rfl) dX3_sizeOfRemainder_62 (t_Fl_power l1 _ _ H) (fun v26 h25 H => ?_)
      refine WP.at 65 rfl ?_
      refine wp_cSi (M2 := M_Fl_pack) [xi x23, xi v26] rfl ls_X3_35 mo_Fl_pack (Nat.le_of_ble_eq_true rfl) ⟨(Nat.le_of_ble_eq_true rfl), (Nat.le_of_ble_eq_true rfl)⟩ (Nat.le_of_ble_eq_true rfl) (Nat.le_of_ble_eq_true rfl) dX3_sizeOfRemainder_65 (t_Fl_pack x23 v26 _ _ H) (fun v28 h27 H => ?_)
      exact wp_iret trivial dX3_sizeOfRemainder_68 H
  · replace H := H.2 c7
    refine wp_iload_n 0 rfl rfl dX3_sizeOfRemainder_14 ?_
    refine wp_ldc (2147483647 : Int32) cI_X3_10 dX3_sizeOfRemainder_15 ?_
    refine wp_iand dX3_sizeOfRemainder_17 ?_
    exact wp_iret trivial dX3_sizeOfRemainder_18 H
def p_Fl_remainderBits (l0 : Int32) (l1 : Int32) (h : xH) (Q : Int32 → xH → Prop) : Prop := p_Fl_isNumber l0 h (fun (v2 : Int32) (h1 : xH) => ((v2 = 0 → Q (2143289344 : Int32) h1) ∧ (¬ v2 = 0 → p_Fl_isNoNumber l1 h1 (fun (v5 : Int32) (h4 : xH) => ((¬ v5 = 0 → Q (2143289344 : Int32) h4) ∧ (v5 = 0 → ((¬ (l1 &&& (2147483647 : Int32)) = 0 → p_Fl_isNumber l1 h4 (fun (v9 : Int32) (h8 : xH) => ((v9 = 0 → Q l0 h8) ∧ (¬ v9 = 0 → p_Fl_sizeOfRemainder l0 l1 h8 (fun (v12 : Int32) (h11 : xH) => Q (v12 ||| (l0 &&& (-2147483648 : Int32))) h11))))) ∧ ((l1 &&& (2147483647 : Int32)) = 0 → Q (2143289344 : Int32) h4))))))))
set_option maxRecDepth 100000 in
set_option maxHeartbeats 4000000 in
theorem t_Fl_remainderBits (l0 : Int32) (l1 : Int32) (h : xH) (Q : Int32 → xH → Prop) (H : p_Fl_remainderBits l0 l1 h Q) : WP M_Fl_remainderBits 0 [(0, xi l0), (1, xi l1)] [] h 0 (qi Q) := by
  unfold p_Fl_remainderBits at H
  refine wp_iload_n 0 rfl rfl dX3_remainderBits_0 ?_
  refine WP.at 1 rfl ?_
  refine wp_cSi (M2 := M_Fl_isNumber) [xi l0] rfl ls_X3_38 mo_Fl_isNumber (Nat.le_of_ble_eq_true rfl) ⟨(Nat.le_of_ble_eq_true rfl), (Nat.le_of_ble_eq_true rfl)⟩ (Nat.le_of_ble_eq_true rfl) (Nat.le_of_ble_eq_true rfl) dX3_remainderBits_1 (t_Fl_isNumber l0 _ _ H) (fun v2 h1 H => ?_)
  refine WP.at 4 rfl ?_
  refine wp_if_eq 21 (by decide) dX3_remainderBits_4 (fun c3 => ?_) (fun c3 => ?_)
  · replace H := H.1 c3
    refine wp_ldc (2143289344 : Int32) cI_X3_45 dX3_remainderBits_21 ?_
    exact wp_iret trivial dX3_remainderBits_23 H
  · replace H := H.2 c3
    refine wp_iload_n 1 rfl rfl dX3_remainderBits_7 ?_
    refine WP.at 8 rfl ?_
    refine wp_cSi (M2 := M_Fl_isNoNumber) [xi l1] rfl ls_X3_42 mo_Fl_isNoNumber (Nat.le_of_ble_eq_true rfl) ⟨(Nat.le_of_ble_eq_true rfl), (Nat.le_of_ble_eq_true rfl)⟩ (Nat.le_of_ble_eq_true rfl) (Nat.le_of_ble_eq_true rfl) dX3_remainderBits_8 (t_Fl_isNoNumber l1 _ _ H) (fun v5 h4 H => ?_)
    refine WP.at 11 rfl ?_
    refine wp_if_ne 21 (by decide) dX3_remainderBits_11 (fun c6 => ?_) (fun c6 => ?_)
    · replace H := H.1 c6
      refine wp_ldc (2143289344 : Int32) cI_X3_45 dX3_remainderBits_21 ?_
      exact wp_iret trivial dX3_remainderBits_23 H
    · replace H := H.2 c6
      refine wp_iload_n 1 rfl rfl dX3_remainderBits_14 ?_
      refine wp_ldc (2147483647 : Int32) cI_X3_10 dX3_remainderBits_15 ?_
      refine wp_iand dX3_remainderBits_17 ?_
      refine WP.at 18 rfl ?_
      refine wp_if_ne 24 (by decide) dX3_remainderBits_18 (fun c7 => ?_) (fun c7 => ?_)
      · replace H := H.1 c7
        refine wp_iload_n 1 rfl rfl dX3_remainderBits_24 ?_
        refine WP.at 25 rfl ?_
        refine wp_cSi (M2 := M_Fl_isNumber) [xi l1] rfl ls_X3_38 mo_Fl_isNumber (Nat.le_of_ble_eq_true rfl) ⟨(Nat.le_of_ble_eq_true rfl), (Nat.le_of_ble_eq_true rfl)⟩ (Nat.le_of_ble_eq_true rfl) (Nat.le_of_ble_eq_true rfl) dX3_remainderBits_25 (t_Fl_isNumber l1 _ _ H) (fun v9 h8 H => ?_)
        refine WP.at 28 rfl ?_
        refine wp_if_eq 44 (by decide) dX3_remainderBits_28 (fun c10 => ?_) (fun c10 => ?_)
        · replace H := H.1 c10
          refine wp_iload_n 0 rfl rfl dX3_remainderBits_44 ?_
          exact wp_iret trivial dX3_remainderBits_45 H
        · replace H := H.2 c10
          refine wp_iload_n 0 rfl rfl dX3_remainderBits_31 ?_
          refine wp_iload_n 1 rfl rfl dX3_remainderBits_32 ?_
          refine WP.at 33 rfl ?_
          refine wp_cSi (M2 := M_Fl_sizeOfRemainder) [xi l0, xi l1] rfl ls_X3_46 mo_Fl_sizeOfRemainder (Nat.le_of_ble_eq_true rfl) ⟨(Nat.le_of_ble_eq_true rfl), (Nat.le_of_ble_eq_true rfl)⟩ (Nat.le_of_ble_eq_true rfl) (Nat.le_of_ble_eq_true rfl) dX3_remainderBits_33 (t_Fl_sizeOfRemainder l0 l1 _ _ H) (fun v12 h11 H => ?_)
          refine wp_iload_n 0 rfl rfl dX3_remainderBits_36 ?_
          refine wp_ldc (-2147483648 : Int32) cI_X3_31 dX3_remainderBits_37 ?_
          refine wp_iand dX3_remainderBits_39 ?_
          refine wp_ior dX3_remainderBits_40 ?_
          refine WP.at 41 rfl ?_
          refine WP.at 41 rfl ?_
          refine wp_goto 45 (by decide) dX3_remainderBits_41 ?_
          exact wp_iret trivial dX3_remainderBits_45 H
      · replace H := H.2 c7
        refine wp_ldc (2143289344 : Int32) cI_X3_45 dX3_remainderBits_21 ?_
        exact wp_iret trivial dX3_remainderBits_23 H
def p_T_remainder (l0 : xN) (l1 : Int32) (l2 : Int32) (l3 : Int32) (h : xH) (Q : Int32 → xH → Prop) : Prop := (kd l0.1 = (1, 9)) ∧ p_T_findRace l0 l1 h (fun (v3 : xN) (h2 : xH) => ((v3.1 = 0 → Q (0 : Int32) h2) ∧ (¬ v3.1 = 0 → p_T_isLap l0 v3 l2 h2 (fun (v6 : Int32) (h5 : xH) => ((¬ v6 = 0 → (kd v3.1 = (1, 4)) ∧ (kd (hR h5 v3 4).1 = (2, 0)) ∧ (vp_in l2 (hS h5 (hR h5 v3 4) - 1)) ∧ p_Fl_remainderBits (hI h5 (hR h5 v3 4) l2.toNatClampNeg) l3 h5 (fun (v12 : Int32) (h11 : xH) => Q v12 h11)) ∧ (v6 = 0 → Q (0 : Int32) h5))))))
set_option maxRecDepth 100000 in
set_option maxHeartbeats 4000000 in
theorem t_T_remainder (l0 : xN) (l1 : Int32) (l2 : Int32) (l3 : Int32) (h : xH) (Q : Int32 → xH → Prop) (H : p_T_remainder l0 l1 l2 l3 h Q) : WP M_T_remainder 0 [(0, xr l0), (1, xi l1), (2, xi l2), (3, xi l3)] [] h 0 (qi Q) := by
  unfold p_T_remainder at H
  refine wp_aload_n 0 rfl rfl dX10_remainder_0 ?_
  refine wp_iload_n 1 rfl rfl dX10_remainder_1 ?_
  refine WP.at 2 rfl ?_
  obtain ⟨q1, H⟩ := H
  refine wp_cVr (M2 := M_T_findRace) coX10 l0 q1 [xi l1] rfl lv_X10_76 mo_T_findRace (Nat.le_of_ble_eq_true rfl) ⟨(Nat.le_of_ble_eq_true rfl), (Nat.le_of_ble_eq_true rfl)⟩ (Nat.le_of_ble_eq_true rfl) (Nat.le_of_ble_eq_true rfl) dX10_remainder_2 (t_T_findRace l0 l1 _ _ H) (fun v3 h2 H => ?_)
  refine wp_astore (Nat.le_of_ble_eq_true rfl) dX10_remainder_5 (ls' := [(4, xr v3), (0, xr l0), (1, xi l1), (2, xi l2), (3, xi l3)]) rfl ?_
  refine wp_aload rfl dX10_remainder_7 ?_
  refine WP.at 9 rfl ?_
  refine wp_ifnull 22 (by decide) dX10_remainder_9 (fun c4 => ?_) (fun c4 => ?_)
  · replace H := H.1 c4
    refine wp_iconst (0 : Int32) (by decide) dX10_remainder_22 ?_
    refine WP.at 23 rfl ?_
    refine wp_goto 37 (by decide) dX10_remainder_23 ?_
    exact wp_iret trivial dX10_remainder_37 H
  · replace H := H.2 c4
    refine wp_aload_n 0 rfl rfl dX10_remainder_12 ?_
    refine wp_aload rfl dX10_remainder_13 ?_
    refine wp_iload_n 2 rfl rfl dX10_remainder_15 ?_
    refine WP.at 16 rfl ?_
    refine wp_cVi (M2 := M_T_isLap) coX10 l0 q1 [xr v3, xi l2] rfl lv_X10_364 mo_T_isLap (Nat.le_of_ble_eq_true rfl) ⟨(Nat.le_of_ble_eq_true rfl), (Nat.le_of_ble_eq_true rfl)⟩ (Nat.le_of_ble_eq_true rfl) (Nat.le_of_ble_eq_true rfl) dX10_remainder_16 (t_T_isLap l0 v3 l2 _ _ H) (fun v6 h5 H => ?_)
    refine WP.at 19 rfl ?_
    refine wp_if_ne 26 (by decide) dX10_remainder_19 (fun c7 => ?_) (fun c7 => ?_)
    · replace H := H.1 c7
      refine wp_aload rfl dX10_remainder_26 ?_
      obtain ⟨q8, H⟩ := H
      refine wp_getr coX5 4 (Nat.le_of_ble_eq_true rfl) fl_X10_355 rfl q8 dX10_remainder_28 ?_
      refine wp_iload_n 2 rfl rfl dX10_remainder_31 ?_
      obtain ⟨q9, H⟩ := H
      obtain ⟨q10, H⟩ := H
      refine wp_iaload q9 q10 dX10_remainder_32 ?_
      refine wp_iload_n 3 rfl rfl dX10_remainder_33 ?_
      refine WP.at 34 rfl ?_
      refine wp_cSi (M2 := M_Fl_remainderBits) [xi (hI h5 (hR h5 v3 4) l2.toNatClampNeg), xi l3] rfl ls_X10_382 mo_Fl_remainderBits (Nat.le_of_ble_eq_true rfl) ⟨(Nat.le_of_ble_eq_true rfl), (Nat.le_of_ble_eq_true rfl)⟩ (Nat.le_of_ble_eq_true rfl) (Nat.le_of_ble_eq_true rfl) dX10_remainder_34 (t_Fl_remainderBits (hI h5 (hR h5 v3 4) l2.toNatClampNeg) l3 _ _ H) (fun v12 h11 H => ?_)
      exact wp_iret trivial dX10_remainder_37 H
    · replace H := H.2 c7
      refine wp_iconst (0 : Int32) (by decide) dX10_remainder_22 ?_
      refine WP.at 23 rfl ?_
      refine wp_goto 37 (by decide) dX10_remainder_23 ?_
      exact wp_iret trivial dX10_remainder_37 H
def p_M_remainder (l0 : xN) (l1 : Int32) (l2 : Int32) (l3 : Int32) (h : xH) (Q : Int32 → xH → Prop) : Prop := (kd l0.1 = (1, 10)) ∧ p_M_isRace l0 l1 h (fun (v3 : Int32) (h2 : xH) => ((¬ v3 = 0 → (kd (hR h2 l0 64).1 = (2, 0)) ∧ (vp_in l1 (hS h2 (hR h2 l0 64) - 1)) ∧ p_M_in l2 (0 : Int32) ((hI h2 (hR h2 l0 64) l1.toNatClampNeg) - (1 : Int32)) h2 (fun (v8 : Int32) (h7 : xH) => ((¬ v8 = 0 → (kd (hR h7 l0 65).1 = (4, 0)) ∧ (vp_in (((12 : Int32) * l1) + l2) (hS h7 (hR h7 l0 65) - 1)) ∧ ∀ v12 : UInt32, v12 = (hI h7 (hR h7 l0 65) (((12 : Int32) * l1) + l2).toNatClampNeg).toUInt32 → p_M_single l3 h7 (fun (v15 : UInt32) (h14 : xH) => p_M_isNumber v12 h14 (fun (v17 : Int32) (h16 : xH) => ((v17 = 0 → Q (2143289344 : Int32) h16) ∧ (¬ v17 = 0 → ((¬ (Op.cmpValue (FP.fcmp v15 v15) (.l : CmpOp)) = 0 → Q (2143289344 : Int32) h16) ∧ ((Op.cmpValue (FP.fcmp v15 v15) (.l : CmpOp)) = 0 → ((¬ (Op.cmpValue (FP.fcmp v15 (0 : UInt32)) (.l : CmpOp)) = 0 → (vf_n32 (FP.frem v12 v15)) ∧ p_M_bitsOf (FP.frem v12 v15) h16 (fun (v23 : Int32) (h22 : xH) => Q v23 h22)) ∧ ((Op.cmpValue (FP.fcmp v15 (0 : UInt32)) (.l : CmpOp)) = 0 → Q (2143289344 : Int32) h16))))))))) ∧ (v8 = 0 → p_M_none l0 (2 : Int32) h7 (fun (v25 : Int32) (h24 : xH) => Q v25 h24))))) ∧ (v3 = 0 → Q (0 : Int32) h2)))
set_option maxRecDepth 100000 in
set_option maxHeartbeats 4000000 in
theorem t_M_remainder (l0 : xN) (l1 : Int32) (l2 : Int32) (l3 : Int32) (h : xH) (Q : Int32 → xH → Prop) (H : p_M_remainder l0 l1 l2 l3 h Q) : WP M_M_remainder 0 [(0, xr l0), (1, xi l1), (2, xi l2), (3, xi l3)] [] h 0 (qi Q) := by
  unfold p_M_remainder at H
  refine wp_aload_n 0 rfl rfl dX11_remainder_0 ?_
  refine wp_iload_n 1 rfl rfl dX11_remainder_1 ?_
  refine WP.at 2 rfl ?_
  obtain ⟨q1, H⟩ := H
  refine wp_cVi (M2 := M_M_isRace) coX11 l0 q1 [xi l1] rfl lv_X11_179 mo_M_isRace (Nat.le_of_ble_eq_true rfl) ⟨(Nat.le_of_ble_eq_true rfl), (Nat.le_of_ble_eq_true rfl)⟩ (Nat.le_of_ble_eq_true rfl) (Nat.le_of_ble_eq_true rfl) dX11_remainder_2 (t_M_isRace l0 l1 _ _ H) (fun v3 h2 H => ?_)
  refine WP.at 5 rfl ?_
  refine wp_if_ne 10 (by decide) dX11_remainder_5 (fun c4 => ?_) (fun c4 => ?_)
  · replace H := H.1 c4
    refine wp_iload_n 2 rfl rfl dX11_remainder_10 ?_
    refine wp_iconst (0 : Int32) (by decide) dX11_remainder_11 ?_
    refine wp_aload_n 0 rfl rfl dX11_remainder_12 ?_
    refine wp_getr coX11 64 (Nat.le_of_ble_eq_true rfl) fl_X11_158 rfl q1 dX11_remainder_13 ?_
    refine wp_iload_n 1 rfl rfl dX11_remainder_16 ?_
    obtain ⟨q5, H⟩ := H
    obtain ⟨q6, H⟩ := H
    refine wp_iaload q5 q6 dX11_remainder_17 ?_
    refine wp_iconst (1 : Int32) (by decide) dX11_remainder_18 ?_
    refine WP.at 19 rfl ?_
    refine wp_isub dX11_remainder_19 ?_
    refine WP.at 20 rfl ?_
    refine wp_cSi (M2 := M_M_in) [xi l2, xi (0 : Int32), xi ((hI h2 (hR h2 l0 64) l1.toNatClampNeg) - (1 : Int32))] rfl ls_X11_172 mo_M_in (Nat.le_of_ble_eq_true rfl) ⟨(Nat.le_of_ble_eq_true rfl), (Nat.le_of_ble_eq_true rfl)⟩ (Nat.le_of_ble_eq_true rfl) (Nat.le_of_ble_eq_true rfl) dX11_remainder_20 (t_M_in l2 (0 : Int32) ((hI h2 (hR h2 l0 64) l1.toNatClampNeg) - (1 : Int32)) _ _ H) (fun v8 h7 H => ?_)
    refine WP.at 23 rfl ?_
    refine wp_if_ne 32 (by decide) dX11_remainder_23 (fun c9 => ?_) (fun c9 => ?_)
    · replace H := H.1 c9
      refine wp_aload_n 0 rfl rfl dX11_remainder_32 ?_
      refine wp_getr coX11 65 (Nat.le_of_ble_eq_true rfl) fl_X11_161 rfl q1 dX11_remainder_33 ?_
      refine wp_bipush (12 : Int32) (by decide) dX11_remainder_36 ?_
      refine wp_iload_n 1 rfl rfl dX11_remainder_38 ?_
      refine wp_imul dX11_remainder_39 ?_
      refine wp_iload_n 2 rfl rfl dX11_remainder_40 ?_
      refine wp_iadd dX11_remainder_41 ?_
      refine WP.at 42 rfl ?_
      obtain ⟨q10, H⟩ := H
      obtain ⟨q11, H⟩ := H
      refine wp_faload q10 q11 dX11_remainder_42 ?_
      refine wp_nmf (fun v12 e13 => ?_)
      replace H := H v12 e13
      refine wp_fstore (Nat.le_of_ble_eq_true rfl) dX11_remainder_43 (ls' := [(4, xf v12), (0, xr l0), (1, xi l1), (2, xi l2), (3, xi l3)]) rfl ?_
      refine wp_iload_n 3 rfl rfl dX11_remainder_45 ?_
      refine WP.at 46 rfl ?_
      refine wp_cSf (M2 := M_M_single) [xi l3] rfl ls_X11_374 mo_M_single (Nat.le_of_ble_eq_true rfl) ⟨(Nat.le_of_ble_eq_true rfl), (Nat.le_of_ble_eq_true rfl)⟩ (Nat.le_of_ble_eq_true rfl) (Nat.le_of_ble_eq_true rfl) dX11_remainder_46 (t_M_single l3 _ _ H) (fun v15 h14 H => ?_)
      refine wp_fstore (Nat.le_of_ble_eq_true rfl) dX11_remainder_49 (ls' := [(5, xf v15), (4, xf v12), (0, xr l0), (1, xi l1), (2, xi l2), (3, xi l3)]) rfl ?_
      refine wp_fload rfl dX11_remainder_51 ?_
      refine WP.at 53 rfl ?_
      refine wp_cSi (M2 := M_M_isNumber) [xf v12] rfl ls_X11_380 mo_M_isNumber (Nat.le_of_ble_eq_true rfl) ⟨(Nat.le_of_ble_eq_true rfl), (Nat.le_of_ble_eq_true rfl)⟩ (Nat.le_of_ble_eq_true rfl) (Nat.le_of_ble_eq_true rfl) dX11_remainder_53 (t_M_isNumber v12 _ _ H) (fun v17 h16 H => ?_)
      refine WP.at 56 rfl ?_
      refine wp_if_eq 74 (by decide) dX11_remainder_56 (fun c18 => ?_) (fun c18 => ?_)
      · replace H := H.1 c18
        refine wp_ldcw (2143289344 : Int32) cI_X11_361 dX11_remainder_74 ?_
        refine WP.at 77 rfl ?_
        refine wp_goto 88 (by decide) dX11_remainder_77 ?_
        exact wp_iret trivial dX11_remainder_88 H
      · replace H := H.2 c18
        refine wp_fload rfl dX11_remainder_59 ?_
        refine wp_fload rfl dX11_remainder_61 ?_
        refine wp_fcmp dX11_remainder_63 ?_
        refine WP.at 64 rfl ?_
        refine wp_if_ne 74 (by decide) dX11_remainder_64 (fun c19 => ?_) (fun c19 => ?_)
        · replace H := H.1 c19
          refine wp_ldcw (2143289344 : Int32) cI_X11_361 dX11_remainder_74 ?_
          refine WP.at 77 rfl ?_
          refine wp_goto 88 (by decide) dX11_remainder_77 ?_
          exact wp_iret trivial dX11_remainder_88 H
        · replace H := H.2 c19
          refine wp_fload rfl dX11_remainder_67 ?_
          refine wp_fconst0 dX11_remainder_69 ?_
          refine wp_fcmp dX11_remainder_70 ?_
          refine WP.at 71 rfl ?_
          refine wp_if_ne 80 (by decide) dX11_remainder_71 (fun c20 => ?_) (fun c20 => ?_)
          · replace H := H.1 c20
            refine wp_fload rfl dX11_remainder_80 ?_
            refine wp_fload rfl dX11_remainder_82 ?_
            obtain ⟨q21, H⟩ := H
            refine wp_frem q21 dX11_remainder_84 ?_
            refine WP.at 85 rfl ?_
            refine wp_cSi (M2 := M_M_bitsOf) [xf (FP.frem v12 v15)] rfl ls_X11_377 mo_M_bitsOf (Nat.le_of_ble_eq_true rfl) ⟨(Nat.le_of_ble_eq_true rfl), (Nat.le_of_ble_eq_true rfl)⟩ (Nat.le_of_ble_eq_true rfl) (Nat.le_of_ble_eq_true rfl) dX11_remainder_85 (t_M_bitsOf (FP.frem v12 v15) _ _ H) (fun v23 h22 H => ?_)
            exact wp_iret trivial dX11_remainder_88 H
          · replace H := H.2 c20
            refine wp_ldcw (2143289344 : Int32) cI_X11_361 dX11_remainder_74 ?_
            refine WP.at 77 rfl ?_
            refine wp_goto 88 (by decide) dX11_remainder_77 ?_
            exact wp_iret trivial dX11_remainder_88 H
    · replace H := H.2 c9
      refine wp_aload_n 0 rfl rfl dX11_remainder_26 ?_
      refine wp_iconst (2 : Int32) (by decide) dX11_remainder_27 ?_
      refine WP.at 28 rfl ?_
      refine wp_cVi (M2 := M_M_none) coX11 l0 q1 [xi (2 : Int32)] rfl lv_X11_344 mo_M_none (Nat.le_of_ble_eq_true rfl) ⟨(Nat.le_of_ble_eq_true rfl), (Nat.le_of_ble_eq_true rfl)⟩ (Nat.le_of_ble_eq_true rfl) (Nat.le_of_ble_eq_true rfl) dX11_remainder_28 (t_M_none l0 (2 : Int32) _ _ H) (fun v25 h24 H => ?_)
      exact wp_iret trivial dX11_remainder_31 H
  · replace H := H.2 c4
    refine wp_iconst (0 : Int32) (by decide) dX11_remainder_8 ?_
    exact wp_iret trivial dX11_remainder_9 H
def p_B_write (l0 : xN) (l1 : Int32) (h : xH) (Q : xH → Prop) : Prop := (kd l0.1 = (1, 0)) ∧ (((100 : Int32) ≤ (hI h l0 1) → Q h) ∧ (¬ (100 : Int32) ≤ (hI h l0 1) → (kd (hR h l0 0).1 = (2, 0)) ∧ (vp_in (hI h l0 1) (hS h (hR h l0 0) - 1)) ∧ ∀ h5 : xH, h5 = sI h (hR h l0 0) (hI h l0 1).toNatClampNeg l1 → ∀ h7 : xH, h7 = sI h5 l0 1 ((hI h5 l0 1) + (1 : Int32)) → Q h7))
set_option maxRecDepth 100000 in
set_option maxHeartbeats 4000000 in
theorem t_B_write (l0 : xN) (l1 : Int32) (h : xH) (Q : xH → Prop) (H : p_B_write l0 l1 h Q) : WP M_B_write 0 [(0, xr l0), (1, xi l1)] [] h 0 (qv Q) := by
  unfold p_B_write at H
  refine wp_aload_n 0 rfl rfl dX0_write_0 ?_
  obtain ⟨q1, H⟩ := H
  refine wp_geti coX0 1 (Nat.le_of_ble_eq_true rfl) fl_X0_15 rfl q1 dX0_write_1 ?_
  refine wp_bipush (100 : Int32) (by decide) dX0_write_4 ?_
  refine WP.at 6 rfl ?_
  refine wp_icmp_ge 29 (by decide) dX0_write_6 (fun c2 => ?_) (fun c2 => ?_)
  · replace H := H.1 c2
    exact wp_vret trivial dX0_write_29 H
  · replace H := H.2 c2
    refine wp_aload_n 0 rfl rfl dX0_write_9 ?_
    refine wp_getr coX0 0 (Nat.le_of_ble_eq_true rfl) fl_X0_9 rfl q1 dX0_write_10 ?_
    refine wp_aload_n 0 rfl rfl dX0_write_13 ?_
    refine wp_geti coX0 1 (Nat.le_of_ble_eq_true rfl) fl_X0_15 rfl q1 dX0_write_14 ?_
    refine wp_iload_n 1 rfl rfl dX0_write_17 ?_
    obtain ⟨q3, H⟩ := H
    obtain ⟨q4, H⟩ := H
    refine wp_iastore q3 q4 dX0_write_18 ?_
    refine wp_nh (fun h5 e6 => ?_)
    replace H := H h5 e6
    refine wp_aload_n 0 rfl rfl dX0_write_19 ?_
    refine WP.at 20 rfl ?_
    refine wp_dup rfl dX0_write_20 ?_
    refine wp_geti coX0 1 (Nat.le_of_ble_eq_true rfl) fl_X0_15 rfl q1 dX0_write_21 ?_
    refine wp_iconst (1 : Int32) (by decide) dX0_write_24 ?_
    refine wp_iadd dX0_write_25 ?_
    refine wp_puti coX0 1 (Nat.le_of_ble_eq_true rfl) fl_X0_15 rfl rfl ⟨rfl, rfl⟩ q1 dX0_write_26 ?_
    refine wp_nh (fun h7 e8 => ?_)
    replace H := H h7 e8
    exact wp_vret trivial dX0_write_29 H
def p_B_weighWin (l0 : xN) (l1 : Int32) (h : xH) (Q : Int32 → xH → Prop) : Prop := (kd l0.1 = (1, 0)) ∧ p_B_write l0 (10 : Int32) h (fun h2 : xH => Q l1 h2)
set_option maxRecDepth 100000 in
set_option maxHeartbeats 4000000 in
theorem t_B_weighWin (l0 : xN) (l1 : Int32) (h : xH) (Q : Int32 → xH → Prop) (H : p_B_weighWin l0 l1 h Q) : WP M_B_weighWin 0 [(0, xr l0), (1, xi l1)] [] h 0 (qi Q) := by
  unfold p_B_weighWin at H
  refine wp_aload_n 0 rfl rfl dX0_weighWin_0 ?_
  refine wp_bipush (10 : Int32) (by decide) dX0_weighWin_1 ?_
  refine WP.at 3 rfl ?_
  obtain ⟨q1, H⟩ := H
  refine wp_cVv (M2 := M_B_write) coX0 l0 q1 [xi (10 : Int32)] rfl lv_X0_35 mo_B_write (Nat.le_of_ble_eq_true rfl) ⟨(Nat.le_of_ble_eq_true rfl), (Nat.le_of_ble_eq_true rfl)⟩ (Nat.le_of_ble_eq_true rfl) (Nat.le_of_ble_eq_true rfl) dX0_weighWin_3 (t_B_write l0 (10 : Int32) _ _ H) (fun h2 H => ?_)
  refine wp_iload_n 1 rfl rfl dX0_weighWin_6 ?_
  exact wp_iret trivial dX0_weighWin_7 H
def p_B_weighPlace (l0 : xN) (l1 : Int32) (h : xH) (Q : Int32 → xH → Prop) : Prop := (kd l0.1 = (1, 0)) ∧ p_B_write l0 (11 : Int32) h (fun h2 : xH => p_B_weighWin l0 l1 h2 (fun (v4 : Int32) (h3 : xH) => Q (v4 / (2 : Int32)) h3))
set_option maxRecDepth 100000 in
set_option maxHeartbeats 4000000 in
theorem t_B_weighPlace (l0 : xN) (l1 : Int32) (h : xH) (Q : Int32 → xH → Prop) (H : p_B_weighPlace l0 l1 h Q) : WP M_B_weighPlace 0 [(0, xr l0), (1, xi l1)] [] h 0 (qi Q) := by
  unfold p_B_weighPlace at H
  refine wp_aload_n 0 rfl rfl dX0_weighPlace_0 ?_
  refine wp_bipush (11 : Int32) (by decide) dX0_weighPlace_1 ?_
  refine WP.at 3 rfl ?_
  obtain ⟨q1, H⟩ := H
  refine wp_cVv (M2 := M_B_write) coX0 l0 q1 [xi (11 : Int32)] rfl lv_X0_35 mo_B_write (Nat.le_of_ble_eq_true rfl) ⟨(Nat.le_of_ble_eq_true rfl), (Nat.le_of_ble_eq_true rfl)⟩ (Nat.le_of_ble_eq_true rfl) (Nat.le_of_ble_eq_true rfl) dX0_weighPlace_3 (t_B_write l0 (11 : Int32) _ _ H) (fun h2 H => ?_)
  refine wp_aload_n 0 rfl rfl dX0_weighPlace_6 ?_
  refine wp_iload_n 1 rfl rfl dX0_weighPlace_7 ?_
  refine WP.at 8 rfl ?_
  refine wp_cVi (M2 := M_B_weighWin) coX0 l0 q1 [xi l1] rfl lv_X0_32 mo_B_weighWin (Nat.le_of_ble_eq_true rfl) ⟨(Nat.le_of_ble_eq_true rfl), (Nat.le_of_ble_eq_true rfl)⟩ (Nat.le_of_ble_eq_true rfl) (Nat.le_of_ble_eq_true rfl) dX0_weighPlace_8 (t_B_weighWin l0 l1 _ _ H) (fun v4 h3 H => ?_)
  refine wp_iconst (2 : Int32) (by decide) dX0_weighPlace_11 ?_
  refine WP.at 12 rfl ?_
  refine wp_idiv (by decide) dX0_weighPlace_12 ?_
  exact wp_iret trivial dX0_weighPlace_13 H
def p_B_weighPair (l0 : xN) (l1 : Int32) (h : xH) (Q : Int32 → xH → Prop) : Prop := (kd l0.1 = (1, 0)) ∧ p_B_write l0 (12 : Int32) h (fun h2 : xH => p_B_weighWin l0 l1 h2 (fun (v4 : Int32) (h3 : xH) => Q (v4 * (3 : Int32)) h3))
set_option maxRecDepth 100000 in
set_option maxHeartbeats 4000000 in
theorem t_B_weighPair (l0 : xN) (l1 : Int32) (h : xH) (Q : Int32 → xH → Prop) (H : p_B_weighPair l0 l1 h Q) : WP M_B_weighPair 0 [(0, xr l0), (1, xi l1)] [] h 0 (qi Q) := by
  unfold p_B_weighPair at H
  refine wp_aload_n 0 rfl rfl dX0_weighPair_0 ?_
  refine wp_bipush (12 : Int32) (by decide) dX0_weighPair_1 ?_
  refine WP.at 3 rfl ?_
  obtain ⟨q1, H⟩ := H
  refine wp_cVv (M2 := M_B_write) coX0 l0 q1 [xi (12 : Int32)] rfl lv_X0_35 mo_B_write (Nat.le_of_ble_eq_true rfl) ⟨(Nat.le_of_ble_eq_true rfl), (Nat.le_of_ble_eq_true rfl)⟩ (Nat.le_of_ble_eq_true rfl) (Nat.le_of_ble_eq_true rfl) dX0_weighPair_3 (t_B_write l0 (12 : Int32) _ _ H) (fun h2 H => ?_)
  refine wp_aload_n 0 rfl rfl dX0_weighPair_6 ?_
  refine wp_iload_n 1 rfl rfl dX0_weighPair_7 ?_
  refine WP.at 8 rfl ?_
  refine wp_cVi (M2 := M_B_weighWin) coX0 l0 q1 [xi l1] rfl lv_X0_32 mo_B_weighWin (Nat.le_of_ble_eq_true rfl) ⟨(Nat.le_of_ble_eq_true rfl), (Nat.le_of_ble_eq_true rfl)⟩ (Nat.le_of_ble_eq_true rfl) (Nat.le_of_ble_eq_true rfl) dX0_weighPair_8 (t_B_weighWin l0 l1 _ _ H) (fun v4 h3 H => ?_)
  refine wp_iconst (3 : Int32) (by decide) dX0_weighPair_11 ?_
  refine WP.at 12 rfl ?_
  refine wp_imul dX0_weighPair_12 ?_
  exact wp_iret trivial dX0_weighPair_13 H
def p_B_weighOrder (l0 : xN) (l1 : Int32) (h : xH) (Q : Int32 → xH → Prop) : Prop := (kd l0.1 = (1, 0)) ∧ p_B_write l0 (13 : Int32) h (fun h2 : xH => p_B_weighPair l0 l1 h2 (fun (v4 : Int32) (h3 : xH) => Q ((2 : Int32) * v4) h3))
set_option maxRecDepth 100000 in
set_option maxHeartbeats 4000000 in
theorem t_B_weighOrder (l0 : xN) (l1 : Int32) (h : xH) (Q : Int32 → xH → Prop) (H : p_B_weighOrder l0 l1 h Q) : WP M_B_weighOrder 0 [(0, xr l0), (1, xi l1)] [] h 0 (qi Q) := by
  unfold p_B_weighOrder at H
  refine wp_aload_n 0 rfl rfl dX0_weighOrder_0 ?_
  refine wp_bipush (13 : Int32) (by decide) dX0_weighOrder_1 ?_
  refine WP.at 3 rfl ?_
  obtain ⟨q1, H⟩ := H
  refine wp_cVv (M2 := M_B_write) coX0 l0 q1 [xi (13 : Int32)] rfl lv_X0_35 mo_B_write (Nat.le_of_ble_eq_true rfl) ⟨(Nat.le_of_ble_eq_true rfl), (Nat.le_of_ble_eq_true rfl)⟩ (Nat.le_of_ble_eq_true rfl) (Nat.le_of_ble_eq_true rfl) dX0_weighOrder_3 (t_B_write l0 (13 : Int32) _ _ H) (fun h2 H => ?_)
  refine wp_iconst (2 : Int32) (by decide) dX0_weighOrder_6 ?_
  refine wp_aload_n 0 rfl rfl dX0_weighOrder_7 ?_
  refine wp_iload_n 1 rfl rfl dX0_weighOrder_8 ?_
  refine WP.at 9 rfl ?_
  refine wp_cVi (M2 := M_B_weighPair) coX0 l0 q1 [xi l1] rfl lv_X0_23 mo_B_weighPair (Nat.le_of_ble_eq_true rfl) ⟨(Nat.le_of_ble_eq_true rfl), (Nat.le_of_ble_eq_true rfl)⟩ (Nat.le_of_ble_eq_true rfl) (Nat.le_of_ble_eq_true rfl) dX0_weighOrder_9 (t_B_weighPair l0 l1 _ _ H) (fun v4 h3 H => ?_)
  refine WP.at 12 rfl ?_
  refine wp_imul dX0_weighOrder_12 ?_
  exact wp_iret trivial dX0_weighOrder_13 H
def p_B_weighDouble (l0 : xN) (l1 : Int32) (h : xH) (Q : Int32 → xH → Prop) : Prop := (kd l0.1 = (1, 0)) ∧ p_B_write l0 (14 : Int32) h (fun h2 : xH => p_B_weighWin l0 l1 h2 (fun (v4 : Int32) (h3 : xH) => Q (v4 + (1 : Int32)) h3))
set_option maxRecDepth 100000 in
set_option maxHeartbeats 4000000 in
theorem t_B_weighDouble (l0 : xN) (l1 : Int32) (h : xH) (Q : Int32 → xH → Prop) (H : p_B_weighDouble l0 l1 h Q) : WP M_B_weighDouble 0 [(0, xr l0), (1, xi l1)] [] h 0 (qi Q) := by
  unfold p_B_weighDouble at H
  refine wp_aload_n 0 rfl rfl dX0_weighDouble_0 ?_
  refine wp_bipush (14 : Int32) (by decide) dX0_weighDouble_1 ?_
  refine WP.at 3 rfl ?_
  obtain ⟨q1, H⟩ := H
  refine wp_cVv (M2 := M_B_write) coX0 l0 q1 [xi (14 : Int32)] rfl lv_X0_35 mo_B_write (Nat.le_of_ble_eq_true rfl) ⟨(Nat.le_of_ble_eq_true rfl), (Nat.le_of_ble_eq_true rfl)⟩ (Nat.le_of_ble_eq_true rfl) (Nat.le_of_ble_eq_true rfl) dX0_weighDouble_3 (t_B_write l0 (14 : Int32) _ _ H) (fun h2 H => ?_)
  refine wp_aload_n 0 rfl rfl dX0_weighDouble_6 ?_
  refine wp_iload_n 1 rfl rfl dX0_weighDouble_7 ?_
  refine WP.at 8 rfl ?_
  refine wp_cVi (M2 := M_B_weighWin) coX0 l0 q1 [xi l1] rfl lv_X0_32 mo_B_weighWin (Nat.le_of_ble_eq_true rfl) ⟨(Nat.le_of_ble_eq_true rfl), (Nat.le_of_ble_eq_true rfl)⟩ (Nat.le_of_ble_eq_true rfl) (Nat.le_of_ble_eq_true rfl) dX0_weighDouble_8 (t_B_weighWin l0 l1 _ _ H) (fun v4 h3 H => ?_)
  refine wp_iconst (1 : Int32) (by decide) dX0_weighDouble_11 ?_
  refine WP.at 12 rfl ?_
  refine wp_iadd dX0_weighDouble_12 ?_
  exact wp_iret trivial dX0_weighDouble_13 H
def p_B_weigh (l0 : xN) (l1 : Int32) (l2 : Int32) (h : xH) (Q : Int32 → xH → Prop) : Prop := ((l1 = (1 : Int32) → (kd l0.1 = (1, 0)) ∧ p_B_weighPlace l0 l2 h (fun (v3 : Int32) (h2 : xH) => Q v3 h2)) ∧ (l1 = (2 : Int32) → (kd l0.1 = (1, 0)) ∧ p_B_weighPair l0 l2 h (fun (v6 : Int32) (h5 : xH) => Q v6 h5)) ∧ (l1 = (3 : Int32) → (kd l0.1 = (1, 0)) ∧ p_B_weighOrder l0 l2 h (fun (v9 : Int32) (h8 : xH) => Q v9 h8)) ∧ (l1 = (4 : Int32) → (kd l0.1 = (1, 0)) ∧ p_B_weighDouble l0 l2 h (fun (v12 : Int32) (h11 : xH) => Q v12 h11)) ∧ ((∀ q ∈ ([(1 : Int32), (2 : Int32), (3 : Int32), (4 : Int32)] : List Int32), l1 ≠ q) → (kd l0.1 = (1, 0)) ∧ p_B_weighWin l0 l2 h (fun (v15 : Int32) (h14 : xH) => Q v15 h14)))
set_option maxRecDepth 100000 in
set_option maxHeartbeats 4000000 in
theorem t_B_weigh (l0 : xN) (l1 : Int32) (l2 : Int32) (h : xH) (Q : Int32 → xH → Prop) (H : p_B_weigh l0 l1 l2 h Q) : WP M_B_weigh 0 [(0, xr l0), (1, xi l1), (2, xi l2)] [] h 0 (qi Q) := by
  unfold p_B_weigh at H
  refine wp_iload_n 1 rfl rfl dX0_weigh_0 ?_
  refine WP.at 1 rfl ?_
  refine wp_tsw dX0_weigh_1 [((1 : Int32), 32), ((2 : Int32), 38), ((3 : Int32), 44), ((4 : Int32), 50)] 56 (by decide) (by decide +kernel) (by decide +kernel) ?_ ?_
  · refine List.forall_mem_cons.mpr ⟨fun c0 => ?_, List.forall_mem_cons.mpr ⟨fun c0 => ?_, List.forall_mem_cons.mpr ⟨fun c0 => ?_, List.forall_mem_cons.mpr ⟨fun c0 => ?_, fun _ z => absurd z List.not_mem_nil⟩⟩⟩⟩
    · replace H := H.1 c0
      refine wp_aload_n 0 rfl rfl dX0_weigh_32 ?_
      refine wp_iload_n 2 rfl rfl dX0_weigh_33 ?_
      refine WP.at 34 rfl ?_
      obtain ⟨q1, H⟩ := H
      refine wp_cVi (M2 := M_B_weighPlace) coX0 l0 q1 [xi l2] rfl lv_X0_19 mo_B_weighPlace (Nat.le_of_ble_eq_true rfl) ⟨(Nat.le_of_ble_eq_true rfl), (Nat.le_of_ble_eq_true rfl)⟩ (Nat.le_of_ble_eq_true rfl) (Nat.le_of_ble_eq_true rfl) dX0_weigh_34 (t_B_weighPlace l0 l2 _ _ H) (fun v3 h2 H => ?_)
      exact wp_iret trivial dX0_weigh_37 H
    · replace H := H.2.1 c0
      refine wp_aload_n 0 rfl rfl dX0_weigh_38 ?_
      refine wp_iload_n 2 rfl rfl dX0_weigh_39 ?_
      refine WP.at 40 rfl ?_
      obtain ⟨q4, H⟩ := H
      refine wp_cVi (M2 := M_B_weighPair) coX0 l0 q4 [xi l2] rfl lv_X0_23 mo_B_weighPair (Nat.le_of_ble_eq_true rfl) ⟨(Nat.le_of_ble_eq_true rfl), (Nat.le_of_ble_eq_true rfl)⟩ (Nat.le_of_ble_eq_true rfl) (Nat.le_of_ble_eq_true rfl) dX0_weigh_40 (t_B_weighPair l0 l2 _ _ H) (fun v6 h5 H => ?_)
      exact wp_iret trivial dX0_weigh_43 H
    · replace H := H.2.2.1 c0
      refine wp_aload_n 0 rfl rfl dX0_weigh_44 ?_
      refine wp_iload_n 2 rfl rfl dX0_weigh_45 ?_
      refine WP.at 46 rfl ?_
      obtain ⟨q7, H⟩ := H
      refine wp_cVi (M2 := M_B_weighOrder) coX0 l0 q7 [xi l2] rfl lv_X0_26 mo_B_weighOrder (Nat.le_of_ble_eq_true rfl) ⟨(Nat.le_of_ble_eq_true rfl), (Nat.le_of_ble_eq_true rfl)⟩ (Nat.le_of_ble_eq_true rfl) (Nat.le_of_ble_eq_true rfl) dX0_weigh_46 (t_B_weighOrder l0 l2 _ _ H) (fun v9 h8 H => ?_)
      exact wp_iret trivial dX0_weigh_49 H
    · replace H := H.2.2.2.1 c0
      refine wp_aload_n 0 rfl rfl dX0_weigh_50 ?_
      refine wp_iload_n 2 rfl rfl dX0_weigh_51 ?_
      refine WP.at 52 rfl ?_
      obtain ⟨q10, H⟩ := H
      refine wp_cVi (M2 := M_B_weighDouble) coX0 l0 q10 [xi l2] rfl lv_X0_29 mo_B_weighDouble (Nat.le_of_ble_eq_true rfl) ⟨(Nat.le_of_ble_eq_true rfl), (Nat.le_of_ble_eq_true rfl)⟩ (Nat.le_of_ble_eq_true rfl) (Nat.le_of_ble_eq_true rfl) dX0_weigh_52 (t_B_weighDouble l0 l2 _ _ H) (fun v12 h11 H => ?_)
      exact wp_iret trivial dX0_weigh_55 H
  · intro c0
    replace H := H.2.2.2.2 c0
    refine wp_aload_n 0 rfl rfl dX0_weigh_56 ?_
    refine wp_iload_n 2 rfl rfl dX0_weigh_57 ?_
    refine WP.at 58 rfl ?_
    obtain ⟨q13, H⟩ := H
    refine wp_cVi (M2 := M_B_weighWin) coX0 l0 q13 [xi l2] rfl lv_X0_32 mo_B_weighWin (Nat.le_of_ble_eq_true rfl) ⟨(Nat.le_of_ble_eq_true rfl), (Nat.le_of_ble_eq_true rfl)⟩ (Nat.le_of_ble_eq_true rfl) (Nat.le_of_ble_eq_true rfl) dX0_weigh_58 (t_B_weighWin l0 l2 _ _ H) (fun v15 h14 H => ?_)
    exact wp_iret trivial dX0_weigh_61 H
def p_B_score_j34 (l0 : xN) (l1 : Int32) (l2 : Int32) (h : xH) (Q : Int32 → xH → Prop) : Prop := (kd l0.1 = (1, 0)) ∧ p_B_write l0 (20 : Int32) h (fun h5 : xH => p_B_weigh l0 l1 l2 h5 (fun (v7 : Int32) (h6 : xH) => ∀ v8 : Int32, v8 = (5 : Int32) * v7 → ((¬ l1 = (3 : Int32) → Q v8 h6) ∧ (l1 = (3 : Int32) → Q (v8 - (7 : Int32)) h6))))
set_option maxRecDepth 100000 in
set_option maxHeartbeats 4000000 in
theorem t_B_score_j34 (l0 : xN) (l1 : Int32) (l2 : Int32) (h : xH) (Q : Int32 → xH → Prop) (H : p_B_score_j34 l0 l1 l2 h Q) : WP M_B_score 34 [(0, xr l0), (1, xi l1), (2, xi l2)] [] h 0 (qi Q) := by
  unfold p_B_score_j34 at H
  refine wp_aload_n 0 rfl rfl dX0_score_34 ?_
  refine wp_bipush (20 : Int32) (by decide) dX0_score_35 ?_
  refine WP.at 37 rfl ?_
  obtain ⟨q4, H⟩ := H
  refine wp_cVv (M2 := M_B_write) coX0 l0 q4 [xi (20 : Int32)] rfl lv_X0_35 mo_B_write (Nat.le_of_ble_eq_true rfl) ⟨(Nat.le_of_ble_eq_true rfl), (Nat.le_of_ble_eq_true rfl)⟩ (Nat.le_of_ble_eq_true rfl) (Nat.le_of_ble_eq_true rfl) dX0_score_37 (t_B_write l0 (20 : Int32) _ _ H) (fun h5 H => ?_)
  refine wp_iconst (5 : Int32) (by decide) dX0_score_40 ?_
  refine wp_aload_n 0 rfl rfl dX0_score_41 ?_
  refine wp_iload_n 1 rfl rfl dX0_score_42 ?_
  refine wp_iload_n 2 rfl rfl dX0_score_43 ?_
  refine WP.at 44 rfl ?_
  refine WP.at 44 rfl ?_
  refine wp_cVi (M2 := M_B_weigh) coX0 l0 q4 [xi l1, xi l2] rfl lv_X0_39 mo_B_weigh (Nat.le_of_ble_eq_true rfl) ⟨(Nat.le_of_ble_eq_true rfl), (Nat.le_of_ble_eq_true rfl)⟩ (Nat.le_of_ble_eq_true rfl) (Nat.le_of_ble_eq_true rfl) dX0_score_44 (t_B_weigh l0 l1 l2 _ _ H) (fun v7 h6 H => ?_)
  refine wp_imul dX0_score_47 ?_
  refine wp_nm (fun v8 e9 => ?_)
  replace H := H v8 e9
  refine wp_istore_n 3 rfl (Nat.le_of_ble_eq_true rfl) dX0_score_48 (ls' := [(3, xi v8), (0, xr l0), (1, xi l1), (2, xi l2)]) rfl ?_
  refine wp_iload_n 1 rfl rfl dX0_score_49 ?_
  refine wp_iconst (3 : Int32) (by decide) dX0_score_50 ?_
  refine WP.at 51 rfl ?_
  refine wp_icmp_ne 61 (by decide) dX0_score_51 (fun c10 => ?_) (fun c10 => ?_)
  · replace H := H.1 c10
    refine wp_iload_n 3 rfl rfl dX0_score_61 ?_
    exact wp_iret trivial dX0_score_62 H
  · replace H := H.2 c10
    refine wp_iload_n 3 rfl rfl dX0_score_54 ?_
    refine wp_bipush (7 : Int32) (by decide) dX0_score_55 ?_
    refine wp_isub dX0_score_57 ?_
    refine WP.at 58 rfl ?_
    refine wp_goto 62 (by decide) dX0_score_58 ?_
    exact wp_iret trivial dX0_score_62 H
def p_B_score_j22 (l0 : xN) (l1 : Int32) (l2 : Int32) (h : xH) (Q : Int32 → xH → Prop) : Prop := ((¬ l1 = (1 : Int32) → p_B_score_j34 l0 l1 l2 h Q) ∧ (l1 = (1 : Int32) → ((¬ l2 = (1 : Int32) → p_B_score_j34 l0 l1 l2 h Q) ∧ (l2 = (1 : Int32) → Q (3 : Int32) h))))
set_option maxRecDepth 100000 in
set_option maxHeartbeats 4000000 in
theorem t_B_score_j22 (l0 : xN) (l1 : Int32) (l2 : Int32) (h : xH) (Q : Int32 → xH → Prop) (H : p_B_score_j22 l0 l1 l2 h Q) : WP M_B_score 22 [(0, xr l0), (1, xi l1), (2, xi l2)] [] h 0 (qi Q) := by
  unfold p_B_score_j22 at H
  refine wp_iload_n 1 rfl rfl dX0_score_22 ?_
  refine wp_iconst (1 : Int32) (by decide) dX0_score_23 ?_
  refine WP.at 24 rfl ?_
  refine wp_icmp_ne 34 (by decide) dX0_score_24 (fun c3 => ?_) (fun c3 => ?_)
  · replace H := H.1 c3
    exact WP.pick [0, 1, 2] rfl (t_B_score_j34 l0 l1 l2 _ _ H)
  · replace H := H.2 c3
    refine wp_iload_n 2 rfl rfl dX0_score_27 ?_
    refine wp_iconst (1 : Int32) (by decide) dX0_score_28 ?_
    refine WP.at 29 rfl ?_
    refine wp_icmp_ne 34 (by decide) dX0_score_29 (fun c11 => ?_) (fun c11 => ?_)
    · replace H := H.1 c11
      exact WP.pick [0, 1, 2] rfl (t_B_score_j34 l0 l1 l2 _ _ H)
    · replace H := H.2 c11
      refine wp_iconst (3 : Int32) (by decide) dX0_score_32 ?_
      exact wp_iret trivial dX0_score_33 H
def p_B_score_j11 (l0 : xN) (l1 : Int32) (l2 : Int32) (h : xH) (Q : Int32 → xH → Prop) : Prop := ((¬ l1 = (1 : Int32) → p_B_score_j22 l0 l1 l2 h Q) ∧ (l1 = (1 : Int32) → (kd l0.1 = (1, 0)) ∧ p_B_write l0 (22 : Int32) h (fun h13 : xH => p_B_score_j22 l0 l1 l2 h13 Q)))
set_option maxRecDepth 100000 in
set_option maxHeartbeats 4000000 in
theorem t_B_score_j11 (l0 : xN) (l1 : Int32) (l2 : Int32) (h : xH) (Q : Int32 → xH → Prop) (H : p_B_score_j11 l0 l1 l2 h Q) : WP M_B_score 11 [(0, xr l0), (1, xi l1), (2, xi l2)] [] h 0 (qi Q) := by
  unfold p_B_score_j11 at H
  refine wp_iload_n 1 rfl rfl dX0_score_11 ?_
  refine wp_iconst (1 : Int32) (by decide) dX0_score_12 ?_
  refine WP.at 13 rfl ?_
  refine wp_icmp_ne 22 (by decide) dX0_score_13 (fun c2 => ?_) (fun c2 => ?_)
  · replace H := H.1 c2
    exact WP.pick [0, 1, 2] rfl (t_B_score_j22 l0 l1 l2 _ _ H)
  · replace H := H.2 c2
    refine wp_aload_n 0 rfl rfl dX0_score_16 ?_
    refine wp_bipush (22 : Int32) (by decide) dX0_score_17 ?_
    refine WP.at 19 rfl ?_
    obtain ⟨q12, H⟩ := H
    refine wp_cVv (M2 := M_B_write) coX0 l0 q12 [xi (22 : Int32)] rfl lv_X0_35 mo_B_write (Nat.le_of_ble_eq_true rfl) ⟨(Nat.le_of_ble_eq_true rfl), (Nat.le_of_ble_eq_true rfl)⟩ (Nat.le_of_ble_eq_true rfl) (Nat.le_of_ble_eq_true rfl) dX0_score_19 (t_B_write l0 (22 : Int32) _ _ H) (fun h13 H => ?_)
    refine WP.at 22 rfl ?_
    exact WP.pick [0, 1, 2] rfl (t_B_score_j22 l0 l1 l2 _ _ H)
def p_B_score (l0 : xN) (l1 : Int32) (l2 : Int32) (h : xH) (Q : Int32 → xH → Prop) : Prop := ((¬ l1 = (3 : Int32) → p_B_score_j11 l0 l1 l2 h Q) ∧ (l1 = (3 : Int32) → (kd l0.1 = (1, 0)) ∧ p_B_write l0 (21 : Int32) h (fun h15 : xH => p_B_score_j11 l0 l1 l2 h15 Q)))
set_option maxRecDepth 100000 in
set_option maxHeartbeats 4000000 in
theorem t_B_score (l0 : xN) (l1 : Int32) (l2 : Int32) (h : xH) (Q : Int32 → xH → Prop) (H : p_B_score l0 l1 l2 h Q) : WP M_B_score 0 [(0, xr l0), (1, xi l1), (2, xi l2)] [] h 0 (qi Q) := by
  unfold p_B_score at H
  refine wp_iload_n 1 rfl rfl dX0_score_0 ?_
  refine wp_iconst (3 : Int32) (by decide) dX0_score_1 ?_
  refine WP.at 2 rfl ?_
  refine wp_icmp_ne 11 (by decide) dX0_score_2 (fun c1 => ?_) (fun c1 => ?_)
  · replace H := H.1 c1
    exact WP.pick [0, 1, 2] rfl (t_B_score_j11 l0 l1 l2 _ _ H)
  · replace H := H.2 c1
    refine wp_aload_n 0 rfl rfl dX0_score_5 ?_
    refine wp_bipush (21 : Int32) (by decide) dX0_score_6 ?_
    refine WP.at 8 rfl ?_
    obtain ⟨q14, H⟩ := H
    refine wp_cVv (M2 := M_B_write) coX0 l0 q14 [xi (21 : Int32)] rfl lv_X0_35 mo_B_write (Nat.le_of_ble_eq_true rfl) ⟨(Nat.le_of_ble_eq_true rfl), (Nat.le_of_ble_eq_true rfl)⟩ (Nat.le_of_ble_eq_true rfl) (Nat.le_of_ble_eq_true rfl) dX0_score_8 (t_B_write l0 (21 : Int32) _ _ H) (fun h15 H => ?_)
    refine WP.at 11 rfl ?_
    exact WP.pick [0, 1, 2] rfl (t_B_score_j11 l0 l1 l2 _ _ H)
def p_T_ask (l0 : xN) (l1 : Int32) (l2 : Int32) (h : xH) (Q : Int32 → xH → Prop) : Prop := (kd l0.1 = (1, 9)) ∧ (kd (hR h l0 5).1 = (1, 0)) ∧ ∀ h3 : xH, h3 = sI h (hR h l0 5) 1 (0 : Int32) → p_T_findTicket l0 l1 h3 (fun (v6 : xN) (h5 : xH) => ((¬ v6.1 = 0 → ((¬ l2 = 0 → ((¬ l2 = (1 : Int32) → Q (-3 : Int32) h5) ∧ (l2 = (1 : Int32) → (kd v6.1 = (1, 8)) ∧ (kd (hR h5 v6 0).1 = (1, 3)) ∧ (kd (hR h5 l0 5).1 = (1, 0)) ∧ p_B_score (hR h5 l0 5) (hI h5 (hR h5 v6 0) 1) (hI h5 v6 2) h5 (fun (v14 : Int32) (h13 : xH) => Q v14 h13)))) ∧ (l2 = 0 → (kd v6.1 = (1, 8)) ∧ (kd (hR h5 v6 0).1 = (1, 3)) ∧ (kd (hR h5 l0 5).1 = (1, 0)) ∧ p_B_weigh (hR h5 l0 5) (hI h5 (hR h5 v6 0) 1) (hI h5 v6 2) h5 (fun (v19 : Int32) (h18 : xH) => Q v19 h18)))) ∧ (v6.1 = 0 → Q (-2 : Int32) h5)))
set_option maxRecDepth 100000 in
set_option maxHeartbeats 4000000 in
theorem t_T_ask (l0 : xN) (l1 : Int32) (l2 : Int32) (h : xH) (Q : Int32 → xH → Prop) (H : p_T_ask l0 l1 l2 h Q) : WP M_T_ask 0 [(0, xr l0), (1, xi l1), (2, xi l2)] [] h 0 (qi Q) := by
  unfold p_T_ask at H
  refine wp_aload_n 0 rfl rfl dX10_ask_0 ?_
  obtain ⟨q1, H⟩ := H
  refine wp_getr coX10 5 (Nat.le_of_ble_eq_true rfl) fl_X10_42 rfl q1 dX10_ask_1 ?_
  refine wp_iconst (0 : Int32) (by decide) dX10_ask_4 ?_
  obtain ⟨q2, H⟩ := H
  refine wp_puti coX0 1 (Nat.le_of_ble_eq_true rfl) fl_X10_385 rfl rfl ⟨rfl, rfl⟩ q2 dX10_ask_5 ?_
  refine wp_nh (fun h3 e4 => ?_)
  replace H := H h3 e4
  refine wp_aload_n 0 rfl rfl dX10_ask_8 ?_
  refine wp_iload_n 1 rfl rfl dX10_ask_9 ?_
  refine WP.at 10 rfl ?_
  refine wp_cVr (M2 := M_T_findTicket) coX10 l0 q1 [xi l1] rfl lv_X10_187 mo_T_findTicket (Nat.le_of_ble_eq_true rfl) ⟨(Nat.le_of_ble_eq_true rfl), (Nat.le_of_ble_eq_true rfl)⟩ (Nat.le_of_ble_eq_true rfl) (Nat.le_of_ble_eq_true rfl) dX10_ask_10 (t_T_findTicket l0 l1 _ _ H) (fun v6 h5 H => ?_)
  refine WP.at 13 rfl ?_
  refine wp_astore_n 3 rfl (Nat.le_of_ble_eq_true rfl) dX10_ask_13 (ls' := [(3, xr v6), (0, xr l0), (1, xi l1), (2, xi l2)]) rfl ?_
  refine wp_aload_n 3 rfl rfl dX10_ask_14 ?_
  refine WP.at 15 rfl ?_
  refine wp_ifnonnull 21 (by decide) dX10_ask_15 (fun c7 => ?_) (fun c7 => ?_)
  · replace H := H.1 c7
    refine wp_iload_n 2 rfl rfl dX10_ask_21 ?_
    refine WP.at 22 rfl ?_
    refine wp_if_ne 44 (by decide) dX10_ask_22 (fun c8 => ?_) (fun c8 => ?_)
    · replace H := H.1 c8
      refine wp_iload_n 2 rfl rfl dX10_ask_44 ?_
      refine wp_iconst (1 : Int32) (by decide) dX10_ask_45 ?_
      refine WP.at 46 rfl ?_
      refine wp_icmp_ne 70 (by decide) dX10_ask_46 (fun c9 => ?_) (fun c9 => ?_)
      · replace H := H.1 c9
        refine wp_bipush (-3 : Int32) (by decide) dX10_ask_70 ?_
        exact wp_iret trivial dX10_ask_72 H
      · replace H := H.2 c9
        refine wp_aload_n 0 rfl rfl dX10_ask_49 ?_
        refine wp_getr coX10 5 (Nat.le_of_ble_eq_true rfl) fl_X10_42 rfl q1 dX10_ask_50 ?_
        refine wp_aload_n 3 rfl rfl dX10_ask_53 ?_
        obtain ⟨q10, H⟩ := H
        refine wp_getr coX9 0 (Nat.le_of_ble_eq_true rfl) fl_X10_191 rfl q10 dX10_ask_54 ?_
        obtain ⟨q11, H⟩ := H
        refine wp_geti coX4 1 (Nat.le_of_ble_eq_true rfl) fl_X10_242 rfl q11 dX10_ask_57 ?_
        refine wp_aload_n 3 rfl rfl dX10_ask_60 ?_
        refine wp_geti coX9 2 (Nat.le_of_ble_eq_true rfl) fl_X10_221 rfl q10 dX10_ask_61 ?_
        refine WP.at 64 rfl ?_
        refine WP.at 64 rfl ?_
        obtain ⟨q12, H⟩ := H
        refine wp_cVi (M2 := M_B_score) coX0 (hR h5 l0 5) q12 [xi (hI h5 (hR h5 v6 0) 1), xi (hI h5 v6 2)] rfl lv_X10_391 mo_B_score (Nat.le_of_ble_eq_true rfl) ⟨(Nat.le_of_ble_eq_true rfl), (Nat.le_of_ble_eq_true rfl)⟩ (Nat.le_of_ble_eq_true rfl) (Nat.le_of_ble_eq_true rfl) dX10_ask_64 (t_B_score (hR h5 l0 5) (hI h5 (hR h5 v6 0) 1) (hI h5 v6 2) _ _ H) (fun v14 h13 H => ?_)
        refine WP.at 67 rfl ?_
        refine wp_goto 72 (by decide) dX10_ask_67 ?_
        exact wp_iret trivial dX10_ask_72 H
    · replace H := H.2 c8
      refine wp_aload_n 0 rfl rfl dX10_ask_25 ?_
      refine wp_getr coX10 5 (Nat.le_of_ble_eq_true rfl) fl_X10_42 rfl q1 dX10_ask_26 ?_
      refine wp_aload_n 3 rfl rfl dX10_ask_29 ?_
      obtain ⟨q15, H⟩ := H
      refine wp_getr coX9 0 (Nat.le_of_ble_eq_true rfl) fl_X10_191 rfl q15 dX10_ask_30 ?_
      obtain ⟨q16, H⟩ := H
      refine wp_geti coX4 1 (Nat.le_of_ble_eq_true rfl) fl_X10_242 rfl q16 dX10_ask_33 ?_
      refine wp_aload_n 3 rfl rfl dX10_ask_36 ?_
      refine wp_geti coX9 2 (Nat.le_of_ble_eq_true rfl) fl_X10_221 rfl q15 dX10_ask_37 ?_
      refine WP.at 40 rfl ?_
      refine WP.at 40 rfl ?_
      obtain ⟨q17, H⟩ := H
      refine wp_cVi (M2 := M_B_weigh) coX0 (hR h5 l0 5) q17 [xi (hI h5 (hR h5 v6 0) 1), xi (hI h5 v6 2)] rfl lv_X10_388 mo_B_weigh (Nat.le_of_ble_eq_true rfl) ⟨(Nat.le_of_ble_eq_true rfl), (Nat.le_of_ble_eq_true rfl)⟩ (Nat.le_of_ble_eq_true rfl) (Nat.le_of_ble_eq_true rfl) dX10_ask_40 (t_B_weigh (hR h5 l0 5) (hI h5 (hR h5 v6 0) 1) (hI h5 v6 2) _ _ H) (fun v19 h18 H => ?_)
      exact wp_iret trivial dX10_ask_43 H
  · replace H := H.2 c7
    refine wp_bipush (-2 : Int32) (by decide) dX10_ask_18 ?_
    exact wp_iret trivial dX10_ask_20 H
def p_M_begins (l0 : xN) (l1 : Int32) (h : xH) (Q : xH → Prop) : Prop := (kd l0.1 = (1, 10)) ∧ (((100 : Int32) ≤ (hI h l0 66) → Q h) ∧ (¬ (100 : Int32) ≤ (hI h l0 66) → (kd (hR h l0 67).1 = (2, 0)) ∧ (vp_in (hI h l0 66) (hS h (hR h l0 67) - 1)) ∧ ∀ h5 : xH, h5 = sI h (hR h l0 67) (hI h l0 66).toNatClampNeg l1 → ∀ h7 : xH, h7 = sI h5 l0 66 ((hI h5 l0 66) + (1 : Int32)) → Q h7))
set_option maxRecDepth 100000 in
set_option maxHeartbeats 4000000 in
theorem t_M_begins (l0 : xN) (l1 : Int32) (h : xH) (Q : xH → Prop) (H : p_M_begins l0 l1 h Q) : WP M_M_begins 0 [(0, xr l0), (1, xi l1)] [] h 0 (qv Q) := by
  unfold p_M_begins at H
  refine wp_aload_n 0 rfl rfl dX11_begins_0 ?_
  obtain ⟨q1, H⟩ := H
  refine wp_geti coX11 66 (Nat.le_of_ble_eq_true rfl) fl_X11_384 rfl q1 dX11_begins_1 ?_
  refine wp_bipush (100 : Int32) (by decide) dX11_begins_4 ?_
  refine WP.at 6 rfl ?_
  refine wp_icmp_ge 29 (by decide) dX11_begins_6 (fun c2 => ?_) (fun c2 => ?_)
  · replace H := H.1 c2
    exact wp_vret trivial dX11_begins_29 H
  · replace H := H.2 c2
    refine wp_aload_n 0 rfl rfl dX11_begins_9 ?_
    refine wp_getr coX11 67 (Nat.le_of_ble_eq_true rfl) fl_X11_165 rfl q1 dX11_begins_10 ?_
    refine wp_aload_n 0 rfl rfl dX11_begins_13 ?_
    refine wp_geti coX11 66 (Nat.le_of_ble_eq_true rfl) fl_X11_384 rfl q1 dX11_begins_14 ?_
    refine wp_iload_n 1 rfl rfl dX11_begins_17 ?_
    obtain ⟨q3, H⟩ := H
    obtain ⟨q4, H⟩ := H
    refine wp_iastore q3 q4 dX11_begins_18 ?_
    refine wp_nh (fun h5 e6 => ?_)
    replace H := H h5 e6
    refine wp_aload_n 0 rfl rfl dX11_begins_19 ?_
    refine WP.at 20 rfl ?_
    refine wp_dup rfl dX11_begins_20 ?_
    refine wp_geti coX11 66 (Nat.le_of_ble_eq_true rfl) fl_X11_384 rfl q1 dX11_begins_21 ?_
    refine wp_iconst (1 : Int32) (by decide) dX11_begins_24 ?_
    refine wp_iadd dX11_begins_25 ?_
    refine wp_puti coX11 66 (Nat.le_of_ble_eq_true rfl) fl_X11_384 rfl rfl ⟨rfl, rfl⟩ q1 dX11_begins_26 ?_
    refine wp_nh (fun h7 e8 => ?_)
    replace H := H h7 e8
    exact wp_vret trivial dX11_begins_29 H
def p_M_weight (l0 : xN) (l1 : Int32) (h : xH) (Q : Int32 → xH → Prop) : Prop := (kd l0.1 = (1, 10)) ∧ (kd (hR h l0 28).1 = (2, 0)) ∧ (vp_in l1 (hS h (hR h l0 28) - 1)) ∧ ∀ v4 : Int32, v4 = hI h (hR h l0 28) l1.toNatClampNeg → (kd (hR h l0 24).1 = (2, 0)) ∧ (vp_in l1 (hS h (hR h l0 24) - 1)) ∧ p_M_kindOf (hI h (hR h l0 24) l1.toNatClampNeg) h (fun (v9 : Int32) (h8 : xH) => ((v9 = (0 : Int32) → p_M_begins l0 (10 : Int32) h8 (fun h10 : xH => Q v4 h10)) ∧ (v9 = (1 : Int32) → p_M_begins l0 (11 : Int32) h8 (fun h11 : xH => p_M_begins l0 (10 : Int32) h11 (fun h12 : xH => Q (v4 / (2 : Int32)) h12))) ∧ (v9 = (2 : Int32) → p_M_begins l0 (12 : Int32) h8 (fun h13 : xH => p_M_begins l0 (10 : Int32) h13 (fun h14 : xH => Q ((3 : Int32) * v4) h14))) ∧ (v9 = (3 : Int32) → p_M_begins l0 (13 : Int32) h8 (fun h15 : xH => p_M_begins l0 (12 : Int32) h15 (fun h16 : xH => p_M_begins l0 (10 : Int32) h16 (fun h17 : xH => Q ((6 : Int32) * v4) h17)))) ∧ ((∀ q ∈ ([(0 : Int32), (1 : Int32), (2 : Int32), (3 : Int32)] : List Int32), v9 ≠ q) → p_M_begins l0 (14 : Int32) h8 (fun h18 : xH => p_M_begins l0 (10 : Int32) h18 (fun h19 : xH => Q (v4 + (1 : Int32)) h19)))))
set_option maxRecDepth 100000 in
set_option maxHeartbeats 4000000 in
theorem t_M_weight (l0 : xN) (l1 : Int32) (h : xH) (Q : Int32 → xH → Prop) (H : p_M_weight l0 l1 h Q) : WP M_M_weight 0 [(0, xr l0), (1, xi l1)] [] h 0 (qi Q) := by
  unfold p_M_weight at H
  refine wp_aload_n 0 rfl rfl dX11_weight_0 ?_
  obtain ⟨q1, H⟩ := H
  refine wp_getr coX11 28 (Nat.le_of_ble_eq_true rfl) fl_X11_80 rfl q1 dX11_weight_1 ?_
  refine wp_iload_n 1 rfl rfl dX11_weight_4 ?_
  obtain ⟨q2, H⟩ := H
  obtain ⟨q3, H⟩ := H
  refine wp_iaload q2 q3 dX11_weight_5 ?_
  refine wp_nm (fun v4 e5 => ?_)
  replace H := H v4 e5
  refine wp_istore_n 2 rfl (Nat.le_of_ble_eq_true rfl) dX11_weight_6 (ls' := [(2, xi v4), (0, xr l0), (1, xi l1)]) rfl ?_
  refine wp_aload_n 0 rfl rfl dX11_weight_7 ?_
  refine wp_getr coX11 24 (Nat.le_of_ble_eq_true rfl) fl_X11_68 rfl q1 dX11_weight_8 ?_
  refine WP.at 11 rfl ?_
  refine wp_iload_n 1 rfl rfl dX11_weight_11 ?_
  obtain ⟨q6, H⟩ := H
  obtain ⟨q7, H⟩ := H
  refine wp_iaload q6 q7 dX11_weight_12 ?_
  refine WP.at 13 rfl ?_
  refine wp_cSi (M2 := M_M_kindOf) [xi (hI h (hR h l0 24) l1.toNatClampNeg)] rfl ls_X11_218 mo_M_kindOf (Nat.le_of_ble_eq_true rfl) ⟨(Nat.le_of_ble_eq_true rfl), (Nat.le_of_ble_eq_true rfl)⟩ (Nat.le_of_ble_eq_true rfl) (Nat.le_of_ble_eq_true rfl) dX11_weight_13 (t_M_kindOf (hI h (hR h l0 24) l1.toNatClampNeg) _ _ H) (fun v9 h8 H => ?_)
  refine WP.at 16 rfl ?_
  refine wp_tsw dX11_weight_16 [((0 : Int32), 48), ((1 : Int32), 56), ((2 : Int32), 72), ((3 : Int32), 88)] 111 (by decide) (by decide +kernel) (by decide +kernel) ?_ ?_
  · refine List.forall_mem_cons.mpr ⟨fun c0 => ?_, List.forall_mem_cons.mpr ⟨fun c0 => ?_, List.forall_mem_cons.mpr ⟨fun c0 => ?_, List.forall_mem_cons.mpr ⟨fun c0 => ?_, fun _ z => absurd z List.not_mem_nil⟩⟩⟩⟩
    · replace H := H.1 c0
      refine wp_aload_n 0 rfl rfl dX11_weight_48 ?_
      refine wp_bipush (10 : Int32) (by decide) dX11_weight_49 ?_
      refine WP.at 51 rfl ?_
      refine wp_cVv (M2 := M_M_begins) coX11 l0 q1 [xi (10 : Int32)] rfl lv_X11_387 mo_M_begins (Nat.le_of_ble_eq_true rfl) ⟨(Nat.le_of_ble_eq_true rfl), (Nat.le_of_ble_eq_true rfl)⟩ (Nat.le_of_ble_eq_true rfl) (Nat.le_of_ble_eq_true rfl) dX11_weight_51 (t_M_begins l0 (10 : Int32) _ _ H) (fun h10 H => ?_)
      refine wp_iload_n 2 rfl rfl dX11_weight_54 ?_
      exact wp_iret trivial dX11_weight_55 H
    · replace H := H.2.1 c0
      refine wp_aload_n 0 rfl rfl dX11_weight_56 ?_
      refine wp_bipush (11 : Int32) (by decide) dX11_weight_57 ?_
      refine WP.at 59 rfl ?_
      refine wp_cVv (M2 := M_M_begins) coX11 l0 q1 [xi (11 : Int32)] rfl lv_X11_387 mo_M_begins (Nat.le_of_ble_eq_true rfl) ⟨(Nat.le_of_ble_eq_true rfl), (Nat.le_of_ble_eq_true rfl)⟩ (Nat.le_of_ble_eq_true rfl) (Nat.le_of_ble_eq_true rfl) dX11_weight_59 (t_M_begins l0 (11 : Int32) _ _ H) (fun h11 H => ?_)
      refine wp_aload_n 0 rfl rfl dX11_weight_62 ?_
      refine wp_bipush (10 : Int32) (by decide) dX11_weight_63 ?_
      refine WP.at 65 rfl ?_
      refine wp_cVv (M2 := M_M_begins) coX11 l0 q1 [xi (10 : Int32)] rfl lv_X11_387 mo_M_begins (Nat.le_of_ble_eq_true rfl) ⟨(Nat.le_of_ble_eq_true rfl), (Nat.le_of_ble_eq_true rfl)⟩ (Nat.le_of_ble_eq_true rfl) (Nat.le_of_ble_eq_true rfl) dX11_weight_65 (t_M_begins l0 (10 : Int32) _ _ H) (fun h12 H => ?_)
      refine wp_iload_n 2 rfl rfl dX11_weight_68 ?_
      refine WP.at 69 rfl ?_
      refine wp_iconst (2 : Int32) (by decide) dX11_weight_69 ?_
      refine wp_idiv (by decide) dX11_weight_70 ?_
      exact wp_iret trivial dX11_weight_71 H
    · replace H := H.2.2.1 c0
      refine wp_aload_n 0 rfl rfl dX11_weight_72 ?_
      refine wp_bipush (12 : Int32) (by decide) dX11_weight_73 ?_
      refine WP.at 75 rfl ?_
      refine wp_cVv (M2 := M_M_begins) coX11 l0 q1 [xi (12 : Int32)] rfl lv_X11_387 mo_M_begins (Nat.le_of_ble_eq_true rfl) ⟨(Nat.le_of_ble_eq_true rfl), (Nat.le_of_ble_eq_true rfl)⟩ (Nat.le_of_ble_eq_true rfl) (Nat.le_of_ble_eq_true rfl) dX11_weight_75 (t_M_begins l0 (12 : Int32) _ _ H) (fun h13 H => ?_)
      refine wp_aload_n 0 rfl rfl dX11_weight_78 ?_
      refine wp_bipush (10 : Int32) (by decide) dX11_weight_79 ?_
      refine WP.at 81 rfl ?_
      refine wp_cVv (M2 := M_M_begins) coX11 l0 q1 [xi (10 : Int32)] rfl lv_X11_387 mo_M_begins (Nat.le_of_ble_eq_true rfl) ⟨(Nat.le_of_ble_eq_true rfl), (Nat.le_of_ble_eq_true rfl)⟩ (Nat.le_of_ble_eq_true rfl) (Nat.le_of_ble_eq_true rfl) dX11_weight_81 (t_M_begins l0 (10 : Int32) _ _ H) (fun h14 H => ?_)
      refine wp_iconst (3 : Int32) (by decide) dX11_weight_84 ?_
      refine WP.at 85 rfl ?_
      refine wp_iload_n 2 rfl rfl dX11_weight_85 ?_
      refine wp_imul dX11_weight_86 ?_
      exact wp_iret trivial dX11_weight_87 H
    · replace H := H.2.2.2.1 c0
      refine wp_aload_n 0 rfl rfl dX11_weight_88 ?_
      refine wp_bipush (13 : Int32) (by decide) dX11_weight_89 ?_
      refine WP.at 91 rfl ?_
      refine wp_cVv (M2 := M_M_begins) coX11 l0 q1 [xi (13 : Int32)] rfl lv_X11_387 mo_M_begins (Nat.le_of_ble_eq_true rfl) ⟨(Nat.le_of_ble_eq_true rfl), (Nat.le_of_ble_eq_true rfl)⟩ (Nat.le_of_ble_eq_true rfl) (Nat.le_of_ble_eq_true rfl) dX11_weight_91 (t_M_begins l0 (13 : Int32) _ _ H) (fun h15 H => ?_)
      refine wp_aload_n 0 rfl rfl dX11_weight_94 ?_
      refine wp_bipush (12 : Int32) (by decide) dX11_weight_95 ?_
      refine WP.at 97 rfl ?_
      refine wp_cVv (M2 := M_M_begins) coX11 l0 q1 [xi (12 : Int32)] rfl lv_X11_387 mo_M_begins (Nat.le_of_ble_eq_true rfl) ⟨(Nat.le_of_ble_eq_true rfl), (Nat.le_of_ble_eq_true rfl)⟩ (Nat.le_of_ble_eq_true rfl) (Nat.le_of_ble_eq_true rfl) dX11_weight_97 (t_M_begins l0 (12 : Int32) _ _ H) (fun h16 H => ?_)
      refine wp_aload_n 0 rfl rfl dX11_weight_100 ?_
      refine WP.at 101 rfl ?_
      refine wp_bipush (10 : Int32) (by decide) dX11_weight_101 ?_
      refine WP.at 103 rfl ?_
      refine wp_cVv (M2 := M_M_begins) coX11 l0 q1 [xi (10 : Int32)] rfl lv_X11_387 mo_M_begins (Nat.le_of_ble_eq_true rfl) ⟨(Nat.le_of_ble_eq_true rfl), (Nat.le_of_ble_eq_true rfl)⟩ (Nat.le_of_ble_eq_true rfl) (Nat.le_of_ble_eq_true rfl) dX11_weight_103 (t_M_begins l0 (10 : Int32) _ _ H) (fun h17 H => ?_)
      refine wp_bipush (6 : Int32) (by decide) dX11_weight_106 ?_
      refine wp_iload_n 2 rfl rfl dX11_weight_108 ?_
      refine wp_imul dX11_weight_109 ?_
      exact wp_iret trivial dX11_weight_110 H
  · intro c0
    replace H := H.2.2.2.2 c0
    refine wp_aload_n 0 rfl rfl dX11_weight_111 ?_
    refine wp_bipush (14 : Int32) (by decide) dX11_weight_112 ?_
    refine WP.at 114 rfl ?_
    refine wp_cVv (M2 := M_M_begins) coX11 l0 q1 [xi (14 : Int32)] rfl lv_X11_387 mo_M_begins (Nat.le_of_ble_eq_true rfl) ⟨(Nat.le_of_ble_eq_true rfl), (Nat.le_of_ble_eq_true rfl)⟩ (Nat.le_of_ble_eq_true rfl) (Nat.le_of_ble_eq_true rfl) dX11_weight_114 (t_M_begins l0 (14 : Int32) _ _ H) (fun h18 H => ?_)
    refine wp_aload_n 0 rfl rfl dX11_weight_117 ?_
    refine wp_bipush (10 : Int32) (by decide) dX11_weight_118 ?_
    refine WP.at 120 rfl ?_
    refine wp_cVv (M2 := M_M_begins) coX11 l0 q1 [xi (10 : Int32)] rfl lv_X11_387 mo_M_begins (Nat.le_of_ble_eq_true rfl) ⟨(Nat.le_of_ble_eq_true rfl), (Nat.le_of_ble_eq_true rfl)⟩ (Nat.le_of_ble_eq_true rfl) (Nat.le_of_ble_eq_true rfl) dX11_weight_120 (t_M_begins l0 (10 : Int32) _ _ H) (fun h19 H => ?_)
    refine wp_iload_n 2 rfl rfl dX11_weight_123 ?_
    refine WP.at 124 rfl ?_
    refine wp_iconst (1 : Int32) (by decide) dX11_weight_124 ?_
    refine wp_iadd dX11_weight_125 ?_
    exact wp_iret trivial dX11_weight_126 H
def p_M_points_j44 (l0 : xN) (l1 : Int32) (l2 : Int32) (h : xH) (Q : Int32 → xH → Prop) : Prop := (kd l0.1 = (1, 10)) ∧ p_M_begins l0 (20 : Int32) h (fun h9 : xH => p_M_weight l0 l1 h9 (fun (v11 : Int32) (h10 : xH) => ∀ v12 : Int32, v12 = (5 : Int32) * v11 → ((¬ l2 = (3 : Int32) → Q v12 h10) ∧ (l2 = (3 : Int32) → Q (v12 - (7 : Int32)) h10))))
set_option maxRecDepth 100000 in
set_option maxHeartbeats 4000000 in
theorem t_M_points_j44 (l0 : xN) (l1 : Int32) (l2 : Int32) (h : xH) (Q : Int32 → xH → Prop) (H : p_M_points_j44 l0 l1 l2 h Q) : WP M_M_points 44 [(0, xr l0), (1, xi l1), (2, xi l2)] [] h 0 (qi Q) := by
  unfold p_M_points_j44 at H
  refine wp_aload_n 0 rfl rfl dX11_points_44 ?_
  refine wp_bipush (20 : Int32) (by decide) dX11_points_45 ?_
  refine WP.at 47 rfl ?_
  obtain ⟨q8, H⟩ := H
  refine wp_cVv (M2 := M_M_begins) coX11 l0 q8 [xi (20 : Int32)] rfl lv_X11_387 mo_M_begins (Nat.le_of_ble_eq_true rfl) ⟨(Nat.le_of_ble_eq_true rfl), (Nat.le_of_ble_eq_true rfl)⟩ (Nat.le_of_ble_eq_true rfl) (Nat.le_of_ble_eq_true rfl) dX11_points_47 (t_M_begins l0 (20 : Int32) _ _ H) (fun h9 H => ?_)
  refine wp_iconst (5 : Int32) (by decide) dX11_points_50 ?_
  refine wp_aload_n 0 rfl rfl dX11_points_51 ?_
  refine wp_iload_n 1 rfl rfl dX11_points_52 ?_
  refine WP.at 53 rfl ?_
  refine wp_cVi (M2 := M_M_weight) coX11 l0 q8 [xi l1] rfl lv_X11_390 mo_M_weight (Nat.le_of_ble_eq_true rfl) ⟨(Nat.le_of_ble_eq_true rfl), (Nat.le_of_ble_eq_true rfl)⟩ (Nat.le_of_ble_eq_true rfl) (Nat.le_of_ble_eq_true rfl) dX11_points_53 (t_M_weight l0 l1 _ _ H) (fun v11 h10 H => ?_)
  refine WP.at 56 rfl ?_
  refine wp_imul dX11_points_56 ?_
  refine wp_nm (fun v12 e13 => ?_)
  replace H := H v12 e13
  refine wp_istore_n 3 rfl (Nat.le_of_ble_eq_true rfl) dX11_points_57 (ls' := [(3, xi v12), (0, xr l0), (1, xi l1), (2, xi l2)]) rfl ?_
  refine wp_iload_n 2 rfl rfl dX11_points_58 ?_
  refine wp_iconst (3 : Int32) (by decide) dX11_points_59 ?_
  refine WP.at 60 rfl ?_
  refine wp_icmp_ne 70 (by decide) dX11_points_60 (fun c14 => ?_) (fun c14 => ?_)
  · replace H := H.1 c14
    refine wp_iload_n 3 rfl rfl dX11_points_70 ?_
    exact wp_iret trivial dX11_points_71 H
  · replace H := H.2 c14
    refine wp_iload_n 3 rfl rfl dX11_points_63 ?_
    refine wp_bipush (7 : Int32) (by decide) dX11_points_64 ?_
    refine wp_isub dX11_points_66 ?_
    refine WP.at 67 rfl ?_
    refine wp_goto 71 (by decide) dX11_points_67 ?_
    exact wp_iret trivial dX11_points_71 H
def p_M_points (l0 : xN) (l1 : Int32) (h : xH) (Q : Int32 → xH → Prop) : Prop := (kd l0.1 = (1, 10)) ∧ (kd (hR h l0 24).1 = (2, 0)) ∧ (vp_in l1 (hS h (hR h l0 24) - 1)) ∧ p_M_kindOf (hI h (hR h l0 24) l1.toNatClampNeg) h (fun (v5 : Int32) (h4 : xH) => ((¬ v5 = (1 : Int32) → ((¬ v5 = (3 : Int32) → p_M_points_j44 l0 l1 v5 h4 Q) ∧ (v5 = (3 : Int32) → p_M_begins l0 (21 : Int32) h4 (fun h15 : xH => p_M_points_j44 l0 l1 v5 h15 Q)))) ∧ (v5 = (1 : Int32) → p_M_begins l0 (22 : Int32) h4 (fun h16 : xH => (kd (hR h16 l0 28).1 = (2, 0)) ∧ (vp_in l1 (hS h16 (hR h16 l0 28) - 1)) ∧ ((¬ (hI h16 (hR h16 l0 28) l1.toNatClampNeg) = (1 : Int32) → p_M_points_j44 l0 l1 v5 h16 Q) ∧ ((hI h16 (hR h16 l0 28) l1.toNatClampNeg) = (1 : Int32) → Q (3 : Int32) h16))))))
set_option maxRecDepth 100000 in
set_option maxHeartbeats 4000000 in
theorem t_M_points (l0 : xN) (l1 : Int32) (h : xH) (Q : Int32 → xH → Prop) (H : p_M_points l0 l1 h Q) : WP M_M_points 0 [(0, xr l0), (1, xi l1)] [] h 0 (qi Q) := by
  unfold p_M_points at H
  refine wp_aload_n 0 rfl rfl dX11_points_0 ?_
  obtain ⟨q1, H⟩ := H
  refine wp_getr coX11 24 (Nat.le_of_ble_eq_true rfl) fl_X11_68 rfl q1 dX11_points_1 ?_
  refine wp_iload_n 1 rfl rfl dX11_points_4 ?_
  obtain ⟨q2, H⟩ := H
  obtain ⟨q3, H⟩ := H
  refine wp_iaload q2 q3 dX11_points_5 ?_
  refine WP.at 6 rfl ?_
  refine wp_cSi (M2 := M_M_kindOf) [xi (hI h (hR h l0 24) l1.toNatClampNeg)] rfl ls_X11_218 mo_M_kindOf (Nat.le_of_ble_eq_true rfl) ⟨(Nat.le_of_ble_eq_true rfl), (Nat.le_of_ble_eq_true rfl)⟩ (Nat.le_of_ble_eq_true rfl) (Nat.le_of_ble_eq_true rfl) dX11_points_6 (t_M_kindOf (hI h (hR h l0 24) l1.toNatClampNeg) _ _ H) (fun v5 h4 H => ?_)
  refine wp_istore_n 2 rfl (Nat.le_of_ble_eq_true rfl) dX11_points_9 (ls' := [(2, xi v5), (0, xr l0), (1, xi l1)]) rfl ?_
  refine wp_iload_n 2 rfl rfl dX11_points_10 ?_
  refine WP.at 11 rfl ?_
  refine wp_iconst (1 : Int32) (by decide) dX11_points_11 ?_
  refine WP.at 12 rfl ?_
  refine wp_icmp_ne 33 (by decide) dX11_points_12 (fun c6 => ?_) (fun c6 => ?_)
  · replace H := H.1 c6
    refine wp_iload_n 2 rfl rfl dX11_points_33 ?_
    refine wp_iconst (3 : Int32) (by decide) dX11_points_34 ?_
    refine WP.at 35 rfl ?_
    refine wp_icmp_ne 44 (by decide) dX11_points_35 (fun c7 => ?_) (fun c7 => ?_)
    · replace H := H.1 c7
      exact WP.pick [1, 2, 0] rfl (t_M_points_j44 l0 l1 v5 _ _ H)
    · replace H := H.2 c7
      refine wp_aload_n 0 rfl rfl dX11_points_38 ?_
      refine wp_bipush (21 : Int32) (by decide) dX11_points_39 ?_
      refine WP.at 41 rfl ?_
      refine wp_cVv (M2 := M_M_begins) coX11 l0 q1 [xi (21 : Int32)] rfl lv_X11_387 mo_M_begins (Nat.le_of_ble_eq_true rfl) ⟨(Nat.le_of_ble_eq_true rfl), (Nat.le_of_ble_eq_true rfl)⟩ (Nat.le_of_ble_eq_true rfl) (Nat.le_of_ble_eq_true rfl) dX11_points_41 (t_M_begins l0 (21 : Int32) _ _ H) (fun h15 H => ?_)
      refine WP.at 44 rfl ?_
      exact WP.pick [1, 2, 0] rfl (t_M_points_j44 l0 l1 v5 _ _ H)
  · replace H := H.2 c6
    refine wp_aload_n 0 rfl rfl dX11_points_15 ?_
    refine wp_bipush (22 : Int32) (by decide) dX11_points_16 ?_
    refine WP.at 18 rfl ?_
    refine wp_cVv (M2 := M_M_begins) coX11 l0 q1 [xi (22 : Int32)] rfl lv_X11_387 mo_M_begins (Nat.le_of_ble_eq_true rfl) ⟨(Nat.le_of_ble_eq_true rfl), (Nat.le_of_ble_eq_true rfl)⟩ (Nat.le_of_ble_eq_true rfl) (Nat.le_of_ble_eq_true rfl) dX11_points_18 (t_M_begins l0 (22 : Int32) _ _ H) (fun h16 H => ?_)
    refine wp_aload_n 0 rfl rfl dX11_points_21 ?_
    refine wp_getr coX11 28 (Nat.le_of_ble_eq_true rfl) fl_X11_80 rfl q1 dX11_points_22 ?_
    refine wp_iload_n 1 rfl rfl dX11_points_25 ?_
    obtain ⟨q17, H⟩ := H
    obtain ⟨q18, H⟩ := H
    refine wp_iaload q17 q18 dX11_points_26 ?_
    refine WP.at 27 rfl ?_
    refine wp_iconst (1 : Int32) (by decide) dX11_points_27 ?_
    refine WP.at 28 rfl ?_
    refine wp_icmp_ne 44 (by decide) dX11_points_28 (fun c19 => ?_) (fun c19 => ?_)
    · replace H := H.1 c19
      exact WP.pick [1, 2, 0] rfl (t_M_points_j44 l0 l1 v5 _ _ H)
    · replace H := H.2 c19
      refine wp_iconst (3 : Int32) (by decide) dX11_points_31 ?_
      exact wp_iret trivial dX11_points_32 H
def p_M_ask (l0 : xN) (l1 : Int32) (l2 : Int32) (h : xH) (Q : Int32 → xH → Prop) : Prop := (kd l0.1 = (1, 10)) ∧ ∀ h2 : xH, h2 = sI h l0 66 (0 : Int32) → p_M_isTicket l0 l1 h2 (fun (v5 : Int32) (h4 : xH) => ((¬ v5 = 0 → ((¬ l2 = 0 → ((¬ l2 = (1 : Int32) → Q (-3 : Int32) h4) ∧ (l2 = (1 : Int32) → p_M_points l0 l1 h4 (fun (v10 : Int32) (h9 : xH) => Q v10 h9)))) ∧ (l2 = 0 → p_M_weight l0 l1 h4 (fun (v12 : Int32) (h11 : xH) => Q v12 h11)))) ∧ (v5 = 0 → Q (-2 : Int32) h4)))
set_option maxRecDepth 100000 in
set_option maxHeartbeats 4000000 in
theorem t_M_ask (l0 : xN) (l1 : Int32) (l2 : Int32) (h : xH) (Q : Int32 → xH → Prop) (H : p_M_ask l0 l1 l2 h Q) : WP M_M_ask 0 [(0, xr l0), (1, xi l1), (2, xi l2)] [] h 0 (qi Q) := by
  unfold p_M_ask at H
  refine wp_aload_n 0 rfl rfl dX11_ask_0 ?_
  refine wp_iconst (0 : Int32) (by decide) dX11_ask_1 ?_
  obtain ⟨q1, H⟩ := H
  refine wp_puti coX11 66 (Nat.le_of_ble_eq_true rfl) fl_X11_384 rfl rfl ⟨rfl, rfl⟩ q1 dX11_ask_2 ?_
  refine wp_nh (fun h2 e3 => ?_)
  replace H := H h2 e3
  refine wp_aload_n 0 rfl rfl dX11_ask_5 ?_
  refine wp_iload_n 1 rfl rfl dX11_ask_6 ?_
  refine WP.at 7 rfl ?_
  refine wp_cVi (M2 := M_M_isTicket) coX11 l0 q1 [xi l1] rfl lv_X11_291 mo_M_isTicket (Nat.le_of_ble_eq_true rfl) ⟨(Nat.le_of_ble_eq_true rfl), (Nat.le_of_ble_eq_true rfl)⟩ (Nat.le_of_ble_eq_true rfl) (Nat.le_of_ble_eq_true rfl) dX11_ask_7 (t_M_isTicket l0 l1 _ _ H) (fun v5 h4 H => ?_)
  refine WP.at 10 rfl ?_
  refine wp_if_ne 16 (by decide) dX11_ask_10 (fun c6 => ?_) (fun c6 => ?_)
  · replace H := H.1 c6
    refine wp_iload_n 2 rfl rfl dX11_ask_16 ?_
    refine WP.at 17 rfl ?_
    refine wp_if_ne 28 (by decide) dX11_ask_17 (fun c7 => ?_) (fun c7 => ?_)
    · replace H := H.1 c7
      refine wp_iload_n 2 rfl rfl dX11_ask_28 ?_
      refine wp_iconst (1 : Int32) (by decide) dX11_ask_29 ?_
      refine WP.at 30 rfl ?_
      refine wp_icmp_ne 41 (by decide) dX11_ask_30 (fun c8 => ?_) (fun c8 => ?_)
      · replace H := H.1 c8
        refine wp_bipush (-3 : Int32) (by decide) dX11_ask_41 ?_
        exact wp_iret trivial dX11_ask_43 H
      · replace H := H.2 c8
        refine wp_aload_n 0 rfl rfl dX11_ask_33 ?_
        refine wp_iload_n 1 rfl rfl dX11_ask_34 ?_
        refine WP.at 35 rfl ?_
        refine wp_cVi (M2 := M_M_points) coX11 l0 q1 [xi l1] rfl lv_X11_393 mo_M_points (Nat.le_of_ble_eq_true rfl) ⟨(Nat.le_of_ble_eq_true rfl), (Nat.le_of_ble_eq_true rfl)⟩ (Nat.le_of_ble_eq_true rfl) (Nat.le_of_ble_eq_true rfl) dX11_ask_35 (t_M_points l0 l1 _ _ H) (fun v10 h9 H => ?_)
        refine WP.at 38 rfl ?_
        refine wp_goto 43 (by decide) dX11_ask_38 ?_
        exact wp_iret trivial dX11_ask_43 H
    · replace H := H.2 c7
      refine wp_aload_n 0 rfl rfl dX11_ask_20 ?_
      refine wp_iload_n 1 rfl rfl dX11_ask_21 ?_
      refine WP.at 22 rfl ?_
      refine wp_cVi (M2 := M_M_weight) coX11 l0 q1 [xi l1] rfl lv_X11_390 mo_M_weight (Nat.le_of_ble_eq_true rfl) ⟨(Nat.le_of_ble_eq_true rfl), (Nat.le_of_ble_eq_true rfl)⟩ (Nat.le_of_ble_eq_true rfl) (Nat.le_of_ble_eq_true rfl) dX11_ask_22 (t_M_weight l0 l1 _ _ H) (fun v12 h11 H => ?_)
      refine WP.at 25 rfl ?_
      refine wp_goto 43 (by decide) dX11_ask_25 ?_
      exact wp_iret trivial dX11_ask_43 H
  · replace H := H.2 c6
    refine wp_bipush (-2 : Int32) (by decide) dX11_ask_13 ?_
    exact wp_iret trivial dX11_ask_15 H
def p_T_trace (l0 : xN) (l1 : Int32) (h : xH) (Q : Int32 → xH → Prop) : Prop := ((l1 < 0 → Q (-1 : Int32) h) ∧ (¬ l1 < 0 → (kd l0.1 = (1, 9)) ∧ (kd (hR h l0 5).1 = (1, 0)) ∧ ((l1 < (hI h (hR h l0 5) 1) → (kd (hR h (hR h l0 5) 0).1 = (2, 0)) ∧ (vp_in l1 (hS h (hR h (hR h l0 5) 0) - 1)) ∧ Q (hI h (hR h (hR h l0 5) 0) l1.toNatClampNeg) h) ∧ (¬ l1 < (hI h (hR h l0 5) 1) → Q (-1 : Int32) h))))
set_option maxRecDepth 100000 in
set_option maxHeartbeats 4000000 in
theorem t_T_trace (l0 : xN) (l1 : Int32) (h : xH) (Q : Int32 → xH → Prop) (H : p_T_trace l0 l1 h Q) : WP M_T_trace 0 [(0, xr l0), (1, xi l1)] [] h 0 (qi Q) := by
  unfold p_T_trace at H
  refine wp_iload_n 1 rfl rfl dX10_trace_0 ?_
  refine WP.at 1 rfl ?_
  refine wp_if_lt 15 (by decide) dX10_trace_1 (fun c1 => ?_) (fun c1 => ?_)
  · replace H := H.1 c1
    refine wp_iconst (-1 : Int32) (by decide) dX10_trace_15 ?_
    refine WP.at 16 rfl ?_
    refine wp_goto 28 (by decide) dX10_trace_16 ?_
    exact wp_iret trivial dX10_trace_28 H
  · replace H := H.2 c1
    refine wp_iload_n 1 rfl rfl dX10_trace_4 ?_
    refine wp_aload_n 0 rfl rfl dX10_trace_5 ?_
    obtain ⟨q2, H⟩ := H
    refine wp_getr coX10 5 (Nat.le_of_ble_eq_true rfl) fl_X10_42 rfl q2 dX10_trace_6 ?_
    obtain ⟨q3, H⟩ := H
    refine wp_geti coX0 1 (Nat.le_of_ble_eq_true rfl) fl_X10_385 rfl q3 dX10_trace_9 ?_
    refine WP.at 12 rfl ?_
    refine wp_icmp_lt 19 (by decide) dX10_trace_12 (fun c4 => ?_) (fun c4 => ?_)
    · replace H := H.1 c4
      refine wp_aload_n 0 rfl rfl dX10_trace_19 ?_
      refine wp_getr coX10 5 (Nat.le_of_ble_eq_true rfl) fl_X10_42 rfl q2 dX10_trace_20 ?_
      refine wp_getr coX0 0 (Nat.le_of_ble_eq_true rfl) fl_X10_394 rfl q3 dX10_trace_23 ?_
      refine wp_iload_n 1 rfl rfl dX10_trace_26 ?_
      obtain ⟨q5, H⟩ := H
      obtain ⟨q6, H⟩ := H
      refine wp_iaload q5 q6 dX10_trace_27 ?_
      exact wp_iret trivial dX10_trace_28 H
    · replace H := H.2 c4
      refine wp_iconst (-1 : Int32) (by decide) dX10_trace_15 ?_
      refine WP.at 16 rfl ?_
      refine wp_goto 28 (by decide) dX10_trace_16 ?_
      exact wp_iret trivial dX10_trace_28 H
def p_M_trace (l0 : xN) (l1 : Int32) (h : xH) (Q : Int32 → xH → Prop) : Prop := (kd l0.1 = (1, 10)) ∧ p_M_in l1 (0 : Int32) ((hI h l0 66) - (1 : Int32)) h (fun (v3 : Int32) (h2 : xH) => ((v3 = 0 → Q (-1 : Int32) h2) ∧ (¬ v3 = 0 → (kd (hR h2 l0 67).1 = (2, 0)) ∧ (vp_in l1 (hS h2 (hR h2 l0 67) - 1)) ∧ Q (hI h2 (hR h2 l0 67) l1.toNatClampNeg) h2)))
set_option maxRecDepth 100000 in
set_option maxHeartbeats 4000000 in
theorem t_M_trace (l0 : xN) (l1 : Int32) (h : xH) (Q : Int32 → xH → Prop) (H : p_M_trace l0 l1 h Q) : WP M_M_trace 0 [(0, xr l0), (1, xi l1)] [] h 0 (qi Q) := by
  unfold p_M_trace at H
  refine wp_iload_n 1 rfl rfl dX11_trace_0 ?_
  refine wp_iconst (0 : Int32) (by decide) dX11_trace_1 ?_
  refine wp_aload_n 0 rfl rfl dX11_trace_2 ?_
  obtain ⟨q1, H⟩ := H
  refine wp_geti coX11 66 (Nat.le_of_ble_eq_true rfl) fl_X11_384 rfl q1 dX11_trace_3 ?_
  refine wp_iconst (1 : Int32) (by decide) dX11_trace_6 ?_
  refine wp_isub dX11_trace_7 ?_
  refine WP.at 8 rfl ?_
  refine wp_cSi (M2 := M_M_in) [xi l1, xi (0 : Int32), xi ((hI h l0 66) - (1 : Int32))] rfl ls_X11_172 mo_M_in (Nat.le_of_ble_eq_true rfl) ⟨(Nat.le_of_ble_eq_true rfl), (Nat.le_of_ble_eq_true rfl)⟩ (Nat.le_of_ble_eq_true rfl) (Nat.le_of_ble_eq_true rfl) dX11_trace_8 (t_M_in l1 (0 : Int32) ((hI h l0 66) - (1 : Int32)) _ _ H) (fun v3 h2 H => ?_)
  refine WP.at 11 rfl ?_
  refine WP.at 11 rfl ?_
  refine wp_if_eq 23 (by decide) dX11_trace_11 (fun c4 => ?_) (fun c4 => ?_)
  · replace H := H.1 c4
    refine wp_iconst (-1 : Int32) (by decide) dX11_trace_23 ?_
    exact wp_iret trivial dX11_trace_24 H
  · replace H := H.2 c4
    refine wp_aload_n 0 rfl rfl dX11_trace_14 ?_
    refine wp_getr coX11 67 (Nat.le_of_ble_eq_true rfl) fl_X11_165 rfl q1 dX11_trace_15 ?_
    refine wp_iload_n 1 rfl rfl dX11_trace_18 ?_
    obtain ⟨q5, H⟩ := H
    obtain ⟨q6, H⟩ := H
    refine wp_iaload q5 q6 dX11_trace_19 ?_
    refine WP.at 20 rfl ?_
    refine wp_goto 24 (by decide) dX11_trace_20 ?_
    exact wp_iret trivial dX11_trace_24 H
def p_T_finding (l0 : xN) (h : xH) (Q : Int32 → xH → Prop) : Prop := (kd l0.1 = (1, 9)) ∧ Q (hI h l0 15) h
set_option maxRecDepth 100000 in
set_option maxHeartbeats 4000000 in
theorem t_T_finding (l0 : xN) (h : xH) (Q : Int32 → xH → Prop) (H : p_T_finding l0 h Q) : WP M_T_finding 0 [(0, xr l0)] [] h 0 (qi Q) := by
  unfold p_T_finding at H
  refine wp_aload_n 0 rfl rfl dX10_finding_0 ?_
  obtain ⟨q1, H⟩ := H
  refine wp_geti coX10 15 (Nat.le_of_ble_eq_true rfl) fl_X10_397 rfl q1 dX10_finding_1 ?_
  exact wp_iret trivial dX10_finding_4 H
def p_M_finding (l0 : xN) (h : xH) (Q : Int32 → xH → Prop) : Prop := (kd l0.1 = (1, 10)) ∧ Q (hI h l0 49) h
set_option maxRecDepth 100000 in
set_option maxHeartbeats 4000000 in
theorem t_M_finding (l0 : xN) (h : xH) (Q : Int32 → xH → Prop) (H : p_M_finding l0 h Q) : WP M_M_finding 0 [(0, xr l0)] [] h 0 (qi Q) := by
  unfold p_M_finding at H
  refine wp_aload_n 0 rfl rfl dX11_finding_0 ?_
  obtain ⟨q1, H⟩ := H
  refine wp_geti coX11 49 (Nat.le_of_ble_eq_true rfl) fl_X11_323 rfl q1 dX11_finding_1 ?_
  exact wp_iret trivial dX11_finding_4 H
def p_T_countPools_L4 (l0 : xN) (K4_33 : Int32 → xH → Prop) (Q : Int32 → xH → Prop) : Nat → Int32 → Int32 → xH → Prop
  | 0, _, _, _ => False
  | f + 1, l1, l2, h => (((48 : Int32) < l2 → K4_33 l1 h) ∧ (¬ (48 : Int32) < l2 → (kd l0.1 = (1, 9)) ∧ (kd (hR h l0 1).1 = (5, 3)) ∧ (vp_in l2 (hS h (hR h l0 1) - 1)) ∧ ((¬ (hR h (hR h l0 1) l2.toNatClampNeg).1 = 0 → ∀ v6 : Int32, v6 = l1 + (1 : Int32) → ∀ v8 : Int32, v8 = l2 + (1 : Int32) → (p_T_countPools_L4 l0 K4_33 Q f) v6 v8 h) ∧ ((hR h (hR h l0 1) l2.toNatClampNeg).1 = 0 → ∀ v10 : Int32, v10 = l1 + (0 : Int32) → ∀ v12 : Int32, v12 = l2 + (1 : Int32) → (p_T_countPools_L4 l0 K4_33 Q f) v10 v12 h))))
set_option maxRecDepth 100000 in
set_option maxHeartbeats 4000000 in
theorem t_T_countPools_L4 (l0 : xN) (K4_33 : Int32 → xH → Prop) (Q : Int32 → xH → Prop) (hK4_33 : ∀ (x1 : Int32) (h : xH), K4_33 x1 h → WP M_T_countPools 33 [(1, xi x1)] [] h 0 (qi Q)) : ∀ (f : Nat) (l1 : Int32) (l2 : Int32) (h : xH), p_T_countPools_L4 l0 K4_33 Q f l1 l2 h → WP M_T_countPools 4 [(0, xr l0), (1, xi l1), (2, xi l2)] [] h 0 (qi Q) := by
  intro f
  induction f with
  | zero => exact fun _ _ _ H => H.elim
  | succ f hB4 =>
    intro l1 l2 h H
    unfold p_T_countPools_L4 at H
    refine wp_iload_n 2 rfl rfl dX10_countPools_4 ?_
    refine wp_bipush (48 : Int32) (by decide) dX10_countPools_5 ?_
    refine WP.at 7 rfl ?_
    refine wp_icmp_gt 33 (by decide) dX10_countPools_7 (fun c1 => ?_) (fun c1 => ?_)
    · replace H := H.1 c1
      exact WP.pick [1] rfl (hK4_33 l1 _ H)
    · replace H := H.2 c1
      refine wp_iload_n 1 rfl rfl dX10_countPools_10 ?_
      refine wp_aload_n 0 rfl rfl dX10_countPools_11 ?_
      obtain ⟨q2, H⟩ := H
      refine wp_getr coX10 1 (Nat.le_of_ble_eq_true rfl) fl_X10_17 rfl q2 dX10_countPools_12 ?_
      refine wp_iload_n 2 rfl rfl dX10_countPools_15 ?_
      obtain ⟨q3, H⟩ := H
      obtain ⟨q4, H⟩ := H
      refine wp_aaload q3 q4 dX10_countPools_16 ?_
      refine WP.at 17 rfl ?_
      refine wp_ifnonnull 24 (by decide) dX10_countPools_17 (fun c5 => ?_) (fun c5 => ?_)
      · replace H := H.1 c5
        refine wp_iconst (1 : Int32) (by decide) dX10_countPools_24 ?_
        refine wp_iadd dX10_countPools_25 ?_
        refine wp_nm (fun v6 e7 => ?_)
        replace H := H v6 e7
        refine wp_istore_n 1 rfl (Nat.le_of_ble_eq_true rfl) dX10_countPools_26 (ls' := [(1, xi v6), (0, xr l0), (2, xi l2)]) rfl ?_
        refine wp_iincN (1 : Int32) (by decide) rfl (Nat.le_of_ble_eq_true rfl) dX10_countPools_27 (ls' := fun v8 => [(2, xi v8), (1, xi v6), (0, xr l0)]) (fun _ => rfl) (fun v8 e9 => ?_)
        replace H := H v8 e9
        refine WP.at 30 rfl ?_
        refine wp_goto 4 (by decide) dX10_countPools_30 ?_
        exact WP.pick [2, 1, 0] rfl (hB4 v6 v8 _ H)
      · replace H := H.2 c5
        refine wp_iconst (0 : Int32) (by decide) dX10_countPools_20 ?_
        refine WP.at 21 rfl ?_
        refine wp_goto 25 (by decide) dX10_countPools_21 ?_
        refine wp_iadd dX10_countPools_25 ?_
        refine wp_nm (fun v10 e11 => ?_)
        replace H := H v10 e11
        refine wp_istore_n 1 rfl (Nat.le_of_ble_eq_true rfl) dX10_countPools_26 (ls' := [(1, xi v10), (0, xr l0), (2, xi l2)]) rfl ?_
        refine wp_iincN (1 : Int32) (by decide) rfl (Nat.le_of_ble_eq_true rfl) dX10_countPools_27 (ls' := fun v12 => [(2, xi v12), (1, xi v10), (0, xr l0)]) (fun _ => rfl) (fun v12 e13 => ?_)
        replace H := H v12 e13
        refine WP.at 30 rfl ?_
        refine wp_goto 4 (by decide) dX10_countPools_30 ?_
        exact WP.pick [2, 1, 0] rfl (hB4 v10 v12 _ H)
def p_T_countPools (l0 : xN) (h : xH) (Q : Int32 → xH → Prop) : Prop := (∃ f16, p_T_countPools_L4 l0 (fun (x14 : Int32) (h15 : xH) => Q x14 h15) Q f16 (0 : Int32) (0 : Int32) h)
set_option maxRecDepth 100000 in
set_option maxHeartbeats 4000000 in
theorem t_T_countPools (l0 : xN) (h : xH) (Q : Int32 → xH → Prop) (H : p_T_countPools l0 h Q) : WP M_T_countPools 0 [(0, xr l0)] [] h 0 (qi Q) := by
  unfold p_T_countPools at H
  refine wp_iconst (0 : Int32) (by decide) dX10_countPools_0 ?_
  refine wp_istore_n 1 rfl (Nat.le_of_ble_eq_true rfl) dX10_countPools_1 (ls' := [(1, xi (0 : Int32)), (0, xr l0)]) rfl ?_
  refine wp_iconst (0 : Int32) (by decide) dX10_countPools_2 ?_
  refine wp_istore_n 2 rfl (Nat.le_of_ble_eq_true rfl) dX10_countPools_3 (ls' := [(2, xi (0 : Int32)), (1, xi (0 : Int32)), (0, xr l0)]) rfl ?_
  refine WP.at 4 rfl ?_
  obtain ⟨f16, H⟩ := H
  refine WP.pick [2, 1, 0] rfl (t_T_countPools_L4 l0 _ Q ?_ f16 (0 : Int32) (0 : Int32) _ H)
  · intro x14 h15 H
    refine wp_iload_n 1 rfl rfl dX10_countPools_33 ?_
    exact wp_iret trivial dX10_countPools_34 H
def p_T_countLive_L4 (l0 : xN) (K4_38 : Int32 → xH → Prop) (Q : Int32 → xH → Prop) : Nat → Int32 → Int32 → xH → Prop
  | 0, _, _, _ => False
  | f + 1, l1, l2, h => (kd l0.1 = (1, 9)) ∧ (((hI h l0 11) ≤ l2 → K4_38 l1 h) ∧ (¬ (hI h l0 11) ≤ l2 → (kd (hR h l0 2).1 = (5, 8)) ∧ (vp_in l2 (hS h (hR h l0 2) - 1)) ∧ (kd (hR h (hR h l0 2) l2.toNatClampNeg).1 = (1, 8)) ∧ ((¬ (hI h (hR h (hR h l0 2) l2.toNatClampNeg) 6) = 0 → ∀ v7 : Int32, v7 = l1 + (0 : Int32) → ∀ v9 : Int32, v9 = l2 + (1 : Int32) → (p_T_countLive_L4 l0 K4_38 Q f) v7 v9 h) ∧ ((hI h (hR h (hR h l0 2) l2.toNatClampNeg) 6) = 0 → ∀ v11 : Int32, v11 = l1 + (1 : Int32) → ∀ v13 : Int32, v13 = l2 + (1 : Int32) → (p_T_countLive_L4 l0 K4_38 Q f) v11 v13 h))))
set_option maxRecDepth 100000 in
set_option maxHeartbeats 4000000 in
theorem t_T_countLive_L4 (l0 : xN) (K4_38 : Int32 → xH → Prop) (Q : Int32 → xH → Prop) (hK4_38 : ∀ (x1 : Int32) (h : xH), K4_38 x1 h → WP M_T_countLive 38 [(1, xi x1)] [] h 0 (qi Q)) : ∀ (f : Nat) (l1 : Int32) (l2 : Int32) (h : xH), p_T_countLive_L4 l0 K4_38 Q f l1 l2 h → WP M_T_countLive 4 [(0, xr l0), (1, xi l1), (2, xi l2)] [] h 0 (qi Q) := by
  intro f
  induction f with
  | zero => exact fun _ _ _ H => H.elim
  | succ f hB4 =>
    intro l1 l2 h H
    unfold p_T_countLive_L4 at H
    refine wp_iload_n 2 rfl rfl dX10_countLive_4 ?_
    refine wp_aload_n 0 rfl rfl dX10_countLive_5 ?_
    obtain ⟨q1, H⟩ := H
    refine wp_geti coX10 11 (Nat.le_of_ble_eq_true rfl) fl_X10_104 rfl q1 dX10_countLive_6 ?_
    refine WP.at 9 rfl ?_
    refine wp_icmp_ge 38 (by decide) dX10_countLive_9 (fun c2 => ?_) (fun c2 => ?_)
    · replace H := H.1 c2
      exact WP.pick [1] rfl (hK4_38 l1 _ H)
    · replace H := H.2 c2
      refine wp_iload_n 1 rfl rfl dX10_countLive_12 ?_
      refine wp_aload_n 0 rfl rfl dX10_countLive_13 ?_
      refine wp_getr coX10 2 (Nat.le_of_ble_eq_true rfl) fl_X10_23 rfl q1 dX10_countLive_14 ?_
      refine wp_iload_n 2 rfl rfl dX10_countLive_17 ?_
      obtain ⟨q3, H⟩ := H
      obtain ⟨q4, H⟩ := H
      refine wp_aaload q3 q4 dX10_countLive_18 ?_
      obtain ⟨q5, H⟩ := H
      refine wp_geti coX9 6 (Nat.le_of_ble_eq_true rfl) fl_X10_107 rfl q5 dX10_countLive_19 ?_
      refine WP.at 22 rfl ?_
      refine wp_if_ne 29 (by decide) dX10_countLive_22 (fun c6 => ?_) (fun c6 => ?_)
      · replace H := H.1 c6
        refine wp_iconst (0 : Int32) (by decide) dX10_countLive_29 ?_
        refine wp_iadd dX10_countLive_30 ?_
        refine wp_nm (fun v7 e8 => ?_)
        replace H := H v7 e8
        refine wp_istore_n 1 rfl (Nat.le_of_ble_eq_true rfl) dX10_countLive_31 (ls' := [(1, xi v7), (0, xr l0), (2, xi l2)]) rfl ?_
        refine wp_iincN (1 : Int32) (by decide) rfl (Nat.le_of_ble_eq_true rfl) dX10_countLive_32 (ls' := fun v9 => [(2, xi v9), (1, xi v7), (0, xr l0)]) (fun _ => rfl) (fun v9 e10 => ?_)
        replace H := H v9 e10
        refine WP.at 35 rfl ?_
        refine wp_goto 4 (by decide) dX10_countLive_35 ?_
        exact WP.pick [2, 1, 0] rfl (hB4 v7 v9 _ H)
      · replace H := H.2 c6
        refine wp_iconst (1 : Int32) (by decide) dX10_countLive_25 ?_
        refine WP.at 26 rfl ?_
        refine wp_goto 30 (by decide) dX10_countLive_26 ?_
        refine wp_iadd dX10_countLive_30 ?_
        refine wp_nm (fun v11 e12 => ?_)
        replace H := H v11 e12
        refine wp_istore_n 1 rfl (Nat.le_of_ble_eq_true rfl) dX10_countLive_31 (ls' := [(1, xi v11), (0, xr l0), (2, xi l2)]) rfl ?_
        refine wp_iincN (1 : Int32) (by decide) rfl (Nat.le_of_ble_eq_true rfl) dX10_countLive_32 (ls' := fun v13 => [(2, xi v13), (1, xi v11), (0, xr l0)]) (fun _ => rfl) (fun v13 e14 => ?_)
        replace H := H v13 e14
        refine WP.at 35 rfl ?_
        refine wp_goto 4 (by decide) dX10_countLive_35 ?_
        exact WP.pick [2, 1, 0] rfl (hB4 v11 v13 _ H)
def p_T_countLive (l0 : xN) (h : xH) (Q : Int32 → xH → Prop) : Prop := (∃ f17, p_T_countLive_L4 l0 (fun (x15 : Int32) (h16 : xH) => Q x15 h16) Q f17 (0 : Int32) (0 : Int32) h)
set_option maxRecDepth 100000 in
set_option maxHeartbeats 4000000 in
theorem t_T_countLive (l0 : xN) (h : xH) (Q : Int32 → xH → Prop) (H : p_T_countLive l0 h Q) : WP M_T_countLive 0 [(0, xr l0)] [] h 0 (qi Q) := by
  unfold p_T_countLive at H
  refine wp_iconst (0 : Int32) (by decide) dX10_countLive_0 ?_
  refine wp_istore_n 1 rfl (Nat.le_of_ble_eq_true rfl) dX10_countLive_1 (ls' := [(1, xi (0 : Int32)), (0, xr l0)]) rfl ?_
  refine wp_iconst (0 : Int32) (by decide) dX10_countLive_2 ?_
  refine wp_istore_n 2 rfl (Nat.le_of_ble_eq_true rfl) dX10_countLive_3 (ls' := [(2, xi (0 : Int32)), (1, xi (0 : Int32)), (0, xr l0)]) rfl ?_
  refine WP.at 4 rfl ?_
  obtain ⟨f17, H⟩ := H
  refine WP.pick [2, 1, 0] rfl (t_T_countLive_L4 l0 _ Q ?_ f17 (0 : Int32) (0 : Int32) _ H)
  · intro x15 h16 H
    refine wp_iload_n 1 rfl rfl dX10_countLive_38 ?_
    exact wp_iret trivial dX10_countLive_39 H
def p_T_count (l0 : xN) (l1 : Int32) (h : xH) (Q : Int32 → xH → Prop) : Prop := ((l1 = (0 : Int32) → (kd l0.1 = (1, 9)) ∧ Q (hI h l0 10) h) ∧ (l1 = (1 : Int32) → (kd l0.1 = (1, 9)) ∧ p_T_countPools l0 h (fun (v4 : Int32) (h3 : xH) => Q v4 h3)) ∧ (l1 = (2 : Int32) → (kd l0.1 = (1, 9)) ∧ Q (hI h l0 11) h) ∧ (l1 = (3 : Int32) → (kd l0.1 = (1, 9)) ∧ p_T_countLive l0 h (fun (v8 : Int32) (h7 : xH) => Q v8 h7)) ∧ (l1 = (4 : Int32) → (kd l0.1 = (1, 9)) ∧ (kd (hR h l0 5).1 = (1, 0)) ∧ Q (hI h (hR h l0 5) 1) h) ∧ (l1 = (5 : Int32) → (kd l0.1 = (1, 9)) ∧ p_T_allDeducted l0 h (fun (v13 : Int64) (h12 : xH) => Q (v13.toInt32) h12)) ∧ ((∀ q ∈ ([(0 : Int32), (1 : Int32), (2 : Int32), (3 : Int32), (4 : Int32), (5 : Int32)] : List Int32), l1 ≠ q) → ((l1 < (11 : Int32) → Q (-3 : Int32) h) ∧ (¬ l1 < (11 : Int32) → (((16 : Int32) < l1 → Q (-3 : Int32) h) ∧ (¬ (16 : Int32) < l1 → (kd l0.1 = (1, 9)) ∧ (kd (hR h l0 9).1 = (2, 0)) ∧ (vp_in (l1 - (10 : Int32)) (hS h (hR h l0 9) - 1)) ∧ Q (hI h (hR h l0 9) (l1 - (10 : Int32)).toNatClampNeg) h))))))
set_option maxRecDepth 100000 in
set_option maxHeartbeats 4000000 in
theorem t_T_count (l0 : xN) (l1 : Int32) (h : xH) (Q : Int32 → xH → Prop) (H : p_T_count l0 l1 h Q) : WP M_T_count 0 [(0, xr l0), (1, xi l1)] [] h 0 (qi Q) := by
  unfold p_T_count at H
  refine wp_iload_n 1 rfl rfl dX10_count_0 ?_
  refine WP.at 1 rfl ?_
  refine wp_tsw dX10_count_1 [((0 : Int32), 40), ((1 : Int32), 45), ((2 : Int32), 50), ((3 : Int32), 55), ((4 : Int32), 60), ((5 : Int32), 68)] 74 (by decide) (by decide +kernel) (by decide +kernel) ?_ ?_
  · refine List.forall_mem_cons.mpr ⟨fun c0 => ?_, List.forall_mem_cons.mpr ⟨fun c0 => ?_, List.forall_mem_cons.mpr ⟨fun c0 => ?_, List.forall_mem_cons.mpr ⟨fun c0 => ?_, List.forall_mem_cons.mpr ⟨fun c0 => ?_, List.forall_mem_cons.mpr ⟨fun c0 => ?_, fun _ z => absurd z List.not_mem_nil⟩⟩⟩⟩⟩⟩
    · replace H := H.1 c0
      refine wp_aload_n 0 rfl rfl dX10_count_40 ?_
      obtain ⟨q1, H⟩ := H
      refine wp_geti coX10 10 (Nat.le_of_ble_eq_true rfl) fl_X10_69 rfl q1 dX10_count_41 ?_
      exact wp_iret trivial dX10_count_44 H
    · replace H := H.2.1 c0
      refine wp_aload_n 0 rfl rfl dX10_count_45 ?_
      refine WP.at 46 rfl ?_
      obtain ⟨q2, H⟩ := H
      refine wp_cVi (M2 := M_T_countPools) coX10 l0 q2 [] rfl lv_X10_400 mo_T_countPools (Nat.le_of_ble_eq_true rfl) ⟨(Nat.le_of_ble_eq_true rfl), (Nat.le_of_ble_eq_true rfl)⟩ (Nat.le_of_ble_eq_true rfl) (Nat.le_of_ble_eq_true rfl) dX10_count_46 (t_T_countPools l0 _ _ H) (fun v4 h3 H => ?_)
      exact wp_iret trivial dX10_count_49 H
    · replace H := H.2.2.1 c0
      refine wp_aload_n 0 rfl rfl dX10_count_50 ?_
      obtain ⟨q5, H⟩ := H
      refine wp_geti coX10 11 (Nat.le_of_ble_eq_true rfl) fl_X10_104 rfl q5 dX10_count_51 ?_
      exact wp_iret trivial dX10_count_54 H
    · replace H := H.2.2.2.1 c0
      refine wp_aload_n 0 rfl rfl dX10_count_55 ?_
      refine WP.at 56 rfl ?_
      obtain ⟨q6, H⟩ := H
      refine wp_cVi (M2 := M_T_countLive) coX10 l0 q6 [] rfl lv_X10_403 mo_T_countLive (Nat.le_of_ble_eq_true rfl) ⟨(Nat.le_of_ble_eq_true rfl), (Nat.le_of_ble_eq_true rfl)⟩ (Nat.le_of_ble_eq_true rfl) (Nat.le_of_ble_eq_true rfl) dX10_count_56 (t_T_countLive l0 _ _ H) (fun v8 h7 H => ?_)
      exact wp_iret trivial dX10_count_59 H
    · replace H := H.2.2.2.2.1 c0
      refine wp_aload_n 0 rfl rfl dX10_count_60 ?_
      obtain ⟨q9, H⟩ := H
      refine wp_getr coX10 5 (Nat.le_of_ble_eq_true rfl) fl_X10_42 rfl q9 dX10_count_61 ?_
      obtain ⟨q10, H⟩ := H
      refine wp_geti coX0 1 (Nat.le_of_ble_eq_true rfl) fl_X10_385 rfl q10 dX10_count_64 ?_
      exact wp_iret trivial dX10_count_67 H
    · replace H := H.2.2.2.2.2.1 c0
      refine wp_aload_n 0 rfl rfl dX10_count_68 ?_
      refine WP.at 69 rfl ?_
      obtain ⟨q11, H⟩ := H
      refine wp_cVl (M2 := M_T_allDeducted) coX10 l0 q11 [] rfl lv_X10_275 mo_T_allDeducted (Nat.le_of_ble_eq_true rfl) ⟨(Nat.le_of_ble_eq_true rfl), (Nat.le_of_ble_eq_true rfl)⟩ (Nat.le_of_ble_eq_true rfl) (Nat.le_of_ble_eq_true rfl) dX10_count_69 (t_T_allDeducted l0 _ _ H) (fun v13 h12 H => ?_)
      refine wp_l2i dX10_count_72 ?_
      exact wp_iret trivial dX10_count_73 H
  · intro c0
    replace H := H.2.2.2.2.2.2 c0
    refine wp_iload_n 1 rfl rfl dX10_count_74 ?_
    refine wp_bipush (11 : Int32) (by decide) dX10_count_75 ?_
    refine WP.at 77 rfl ?_
    refine wp_icmp_lt 98 (by decide) dX10_count_77 (fun c14 => ?_) (fun c14 => ?_)
    · replace H := H.1 c14
      refine wp_bipush (-3 : Int32) (by decide) dX10_count_98 ?_
      exact wp_iret trivial dX10_count_100 H
    · replace H := H.2 c14
      refine wp_iload_n 1 rfl rfl dX10_count_80 ?_
      refine wp_bipush (16 : Int32) (by decide) dX10_count_81 ?_
      refine WP.at 83 rfl ?_
      refine wp_icmp_gt 98 (by decide) dX10_count_83 (fun c15 => ?_) (fun c15 => ?_)
      · replace H := H.1 c15
        refine wp_bipush (-3 : Int32) (by decide) dX10_count_98 ?_
        exact wp_iret trivial dX10_count_100 H
      · replace H := H.2 c15
        refine wp_aload_n 0 rfl rfl dX10_count_86 ?_
        obtain ⟨q16, H⟩ := H
        refine wp_getr coX10 9 (Nat.le_of_ble_eq_true rfl) fl_X10_64 rfl q16 dX10_count_87 ?_
        refine wp_iload_n 1 rfl rfl dX10_count_90 ?_
        refine wp_bipush (10 : Int32) (by decide) dX10_count_91 ?_
        refine wp_isub dX10_count_93 ?_
        obtain ⟨q17, H⟩ := H
        obtain ⟨q18, H⟩ := H
        refine wp_iaload q17 q18 dX10_count_94 ?_
        refine WP.at 95 rfl ?_
        refine wp_goto 100 (by decide) dX10_count_95 ?_
        exact wp_iret trivial dX10_count_100 H
def p_M_pools_L4 (l0 : xN) (K4_33 : Int32 → xH → Prop) (Q : Int32 → xH → Prop) : Nat → Int32 → Int32 → xH → Prop
  | 0, _, _, _ => False
  | f + 1, l1, l2, h => (((49 : Int32) ≤ l2 → K4_33 l1 h) ∧ (¬ (49 : Int32) ≤ l2 → (kd l0.1 = (1, 10)) ∧ (kd (hR h l0 6).1 = (3, 0)) ∧ (vp_in l2 (hS h (hR h l0 6) - 1)) ∧ (((hI h (hR h l0 6) l2.toNatClampNeg) = 0 → ∀ v6 : Int32, v6 = l1 + (0 : Int32) → ∀ v8 : Int32, v8 = l2 + (1 : Int32) → (p_M_pools_L4 l0 K4_33 Q f) v6 v8 h) ∧ (¬ (hI h (hR h l0 6) l2.toNatClampNeg) = 0 → ∀ v10 : Int32, v10 = l1 + (1 : Int32) → ∀ v12 : Int32, v12 = l2 + (1 : Int32) → (p_M_pools_L4 l0 K4_33 Q f) v10 v12 h))))
set_option maxRecDepth 100000 in
set_option maxHeartbeats 4000000 in
theorem t_M_pools_L4 (l0 : xN) (K4_33 : Int32 → xH → Prop) (Q : Int32 → xH → Prop) (hK4_33 : ∀ (x1 : Int32) (h : xH), K4_33 x1 h → WP M_M_pools 33 [(1, xi x1)] [] h 0 (qi Q)) : ∀ (f : Nat) (l1 : Int32) (l2 : Int32) (h : xH), p_M_pools_L4 l0 K4_33 Q f l1 l2 h → WP M_M_pools 4 [(0, xr l0), (1, xi l1), (2, xi l2)] [] h 0 (qi Q) := by
  intro f
  induction f with
  | zero => exact fun _ _ _ H => H.elim
  | succ f hB4 =>
    intro l1 l2 h H
    unfold p_M_pools_L4 at H
    refine wp_iload_n 2 rfl rfl dX11_pools_4 ?_
    refine wp_bipush (49 : Int32) (by decide) dX11_pools_5 ?_
    refine WP.at 7 rfl ?_
    refine wp_icmp_ge 33 (by decide) dX11_pools_7 (fun c1 => ?_) (fun c1 => ?_)
    · replace H := H.1 c1
      exact WP.pick [1] rfl (hK4_33 l1 _ H)
    · replace H := H.2 c1
      refine wp_iload_n 1 rfl rfl dX11_pools_10 ?_
      refine wp_aload_n 0 rfl rfl dX11_pools_11 ?_
      obtain ⟨q2, H⟩ := H
      refine wp_getr coX11 6 (Nat.le_of_ble_eq_true rfl) fl_X11_26 rfl q2 dX11_pools_12 ?_
      refine wp_iload_n 2 rfl rfl dX11_pools_15 ?_
      obtain ⟨q3, H⟩ := H
      obtain ⟨q4, H⟩ := H
      refine wp_baload q3 q4 dX11_pools_16 ?_
      refine WP.at 17 rfl ?_
      refine wp_if_eq 24 (by decide) dX11_pools_17 (fun c5 => ?_) (fun c5 => ?_)
      · replace H := H.1 c5
        refine wp_iconst (0 : Int32) (by decide) dX11_pools_24 ?_
        refine wp_iadd dX11_pools_25 ?_
        refine wp_nm (fun v6 e7 => ?_)
        replace H := H v6 e7
        refine wp_istore_n 1 rfl (Nat.le_of_ble_eq_true rfl) dX11_pools_26 (ls' := [(1, xi v6), (0, xr l0), (2, xi l2)]) rfl ?_
        refine wp_iincN (1 : Int32) (by decide) rfl (Nat.le_of_ble_eq_true rfl) dX11_pools_27 (ls' := fun v8 => [(2, xi v8), (1, xi v6), (0, xr l0)]) (fun _ => rfl) (fun v8 e9 => ?_)
        replace H := H v8 e9
        refine WP.at 30 rfl ?_
        refine wp_goto 4 (by decide) dX11_pools_30 ?_
        exact WP.pick [2, 1, 0] rfl (hB4 v6 v8 _ H)
      · replace H := H.2 c5
        refine wp_iconst (1 : Int32) (by decide) dX11_pools_20 ?_
        refine WP.at 21 rfl ?_
        refine wp_goto 25 (by decide) dX11_pools_21 ?_
        refine wp_iadd dX11_pools_25 ?_
        refine wp_nm (fun v10 e11 => ?_)
        replace H := H v10 e11
        refine wp_istore_n 1 rfl (Nat.le_of_ble_eq_true rfl) dX11_pools_26 (ls' := [(1, xi v10), (0, xr l0), (2, xi l2)]) rfl ?_
        refine wp_iincN (1 : Int32) (by decide) rfl (Nat.le_of_ble_eq_true rfl) dX11_pools_27 (ls' := fun v12 => [(2, xi v12), (1, xi v10), (0, xr l0)]) (fun _ => rfl) (fun v12 e13 => ?_)
        replace H := H v12 e13
        refine WP.at 30 rfl ?_
        refine wp_goto 4 (by decide) dX11_pools_30 ?_
        exact WP.pick [2, 1, 0] rfl (hB4 v10 v12 _ H)
def p_M_pools (l0 : xN) (h : xH) (Q : Int32 → xH → Prop) : Prop := (∃ f16, p_M_pools_L4 l0 (fun (x14 : Int32) (h15 : xH) => Q x14 h15) Q f16 (0 : Int32) (0 : Int32) h)
set_option maxRecDepth 100000 in
set_option maxHeartbeats 4000000 in
theorem t_M_pools (l0 : xN) (h : xH) (Q : Int32 → xH → Prop) (H : p_M_pools l0 h Q) : WP M_M_pools 0 [(0, xr l0)] [] h 0 (qi Q) := by
  unfold p_M_pools at H
  refine wp_iconst (0 : Int32) (by decide) dX11_pools_0 ?_
  refine wp_istore_n 1 rfl (Nat.le_of_ble_eq_true rfl) dX11_pools_1 (ls' := [(1, xi (0 : Int32)), (0, xr l0)]) rfl ?_
  refine wp_iconst (0 : Int32) (by decide) dX11_pools_2 ?_
  refine wp_istore_n 2 rfl (Nat.le_of_ble_eq_true rfl) dX11_pools_3 (ls' := [(2, xi (0 : Int32)), (1, xi (0 : Int32)), (0, xr l0)]) rfl ?_
  refine WP.at 4 rfl ?_
  obtain ⟨f16, H⟩ := H
  refine WP.pick [2, 1, 0] rfl (t_M_pools_L4 l0 _ Q ?_ f16 (0 : Int32) (0 : Int32) _ H)
  · intro x14 h15 H
    refine wp_iload_n 1 rfl rfl dX11_pools_33 ?_
    exact wp_iret trivial dX11_pools_34 H
def p_M_count_L59 (l0 : xN) (K59_90 : Int32 → xH → Prop) (Q : Int32 → xH → Prop) : Nat → Int32 → Int32 → xH → Prop
  | 0, _, _, _ => False
  | f + 1, l2, l3, h => (kd l0.1 = (1, 10)) ∧ (((hI h l0 23) ≤ l3 → K59_90 l2 h) ∧ (¬ (hI h l0 23) ≤ l3 → (kd (hR h l0 29).1 = (2, 0)) ∧ (vp_in l3 (hS h (hR h l0 29) - 1)) ∧ ((¬ (hI h (hR h l0 29) l3.toNatClampNeg) = 0 → ∀ v11 : Int32, v11 = l2 + (0 : Int32) → ∀ v13 : Int32, v13 = l3 + (1 : Int32) → (p_M_count_L59 l0 K59_90 Q f) v11 v13 h) ∧ ((hI h (hR h l0 29) l3.toNatClampNeg) = 0 → ∀ v15 : Int32, v15 = l2 + (1 : Int32) → ∀ v17 : Int32, v17 = l3 + (1 : Int32) → (p_M_count_L59 l0 K59_90 Q f) v15 v17 h))))
set_option maxRecDepth 100000 in
set_option maxHeartbeats 4000000 in
theorem t_M_count_L59 (l0 : xN) (K59_90 : Int32 → xH → Prop) (Q : Int32 → xH → Prop) (hK59_90 : ∀ (x2 : Int32) (h : xH), K59_90 x2 h → WP M_M_count 90 [(2, xi x2)] [] h 0 (qi Q)) : ∀ (f : Nat) (l2 : Int32) (l3 : Int32) (h : xH), p_M_count_L59 l0 K59_90 Q f l2 l3 h → WP M_M_count 59 [(0, xr l0), (2, xi l2), (3, xi l3)] [] h 0 (qi Q) := by
  intro f
  induction f with
  | zero => exact fun _ _ _ H => H.elim
  | succ f hB59 =>
    intro l2 l3 h H
    unfold p_M_count_L59 at H
    refine wp_iload_n 3 rfl rfl dX11_count_59 ?_
    refine wp_aload_n 0 rfl rfl dX11_count_60 ?_
    obtain ⟨q6, H⟩ := H
    refine wp_geti coX11 23 (Nat.le_of_ble_eq_true rfl) fl_X11_205 rfl q6 dX11_count_61 ?_
    refine WP.at 64 rfl ?_
    refine wp_icmp_ge 90 (by decide) dX11_count_64 (fun c7 => ?_) (fun c7 => ?_)
    · replace H := H.1 c7
      exact WP.pick [1] rfl (hK59_90 l2 _ H)
    · replace H := H.2 c7
      refine wp_iload_n 2 rfl rfl dX11_count_67 ?_
      refine wp_aload_n 0 rfl rfl dX11_count_68 ?_
      refine wp_getr coX11 29 (Nat.le_of_ble_eq_true rfl) fl_X11_83 rfl q6 dX11_count_69 ?_
      refine wp_iload_n 3 rfl rfl dX11_count_72 ?_
      obtain ⟨q8, H⟩ := H
      obtain ⟨q9, H⟩ := H
      refine wp_iaload q8 q9 dX11_count_73 ?_
      refine WP.at 74 rfl ?_
      refine wp_if_ne 81 (by decide) dX11_count_74 (fun c10 => ?_) (fun c10 => ?_)
      · replace H := H.1 c10
        refine wp_iconst (0 : Int32) (by decide) dX11_count_81 ?_
        refine wp_iadd dX11_count_82 ?_
        refine wp_nm (fun v11 e12 => ?_)
        replace H := H v11 e12
        refine wp_istore_n 2 rfl (Nat.le_of_ble_eq_true rfl) dX11_count_83 (ls' := [(2, xi v11), (0, xr l0), (3, xi l3)]) rfl ?_
        refine wp_iincN (1 : Int32) (by decide) rfl (Nat.le_of_ble_eq_true rfl) dX11_count_84 (ls' := fun v13 => [(3, xi v13), (2, xi v11), (0, xr l0)]) (fun _ => rfl) (fun v13 e14 => ?_)
        replace H := H v13 e14
        refine WP.at 87 rfl ?_
        refine wp_goto 59 (by decide) dX11_count_87 ?_
        exact WP.pick [2, 1, 0] rfl (hB59 v11 v13 _ H)
      · replace H := H.2 c10
        refine wp_iconst (1 : Int32) (by decide) dX11_count_77 ?_
        refine WP.at 78 rfl ?_
        refine wp_goto 82 (by decide) dX11_count_78 ?_
        refine wp_iadd dX11_count_82 ?_
        refine wp_nm (fun v15 e16 => ?_)
        replace H := H v15 e16
        refine wp_istore_n 2 rfl (Nat.le_of_ble_eq_true rfl) dX11_count_83 (ls' := [(2, xi v15), (0, xr l0), (3, xi l3)]) rfl ?_
        refine wp_iincN (1 : Int32) (by decide) rfl (Nat.le_of_ble_eq_true rfl) dX11_count_84 (ls' := fun v17 => [(3, xi v17), (2, xi v15), (0, xr l0)]) (fun _ => rfl) (fun v17 e18 => ?_)
        replace H := H v17 e18
        refine WP.at 87 rfl ?_
        refine wp_goto 59 (by decide) dX11_count_87 ?_
        exact WP.pick [2, 1, 0] rfl (hB59 v15 v17 _ H)
def p_M_count (l0 : xN) (l1 : Int32) (h : xH) (Q : Int32 → xH → Prop) : Prop := ((l1 = (0 : Int32) → (kd l0.1 = (1, 10)) ∧ Q (hI h l0 0) h) ∧ (l1 = (1 : Int32) → (kd l0.1 = (1, 10)) ∧ p_M_pools l0 h (fun (v4 : Int32) (h3 : xH) => Q v4 h3)) ∧ (l1 = (2 : Int32) → (kd l0.1 = (1, 10)) ∧ Q (hI h l0 23) h) ∧ (l1 = (3 : Int32) → (∃ f21, p_M_count_L59 l0 (fun (x19 : Int32) (h20 : xH) => Q x19 h20) Q f21 (0 : Int32) (0 : Int32) h)) ∧ (l1 = (4 : Int32) → (kd l0.1 = (1, 10)) ∧ Q (hI h l0 66) h) ∧ (l1 = (5 : Int32) → (kd l0.1 = (1, 10)) ∧ p_M_allDeducted l0 h (fun (v25 : Int32) (h24 : xH) => Q v25 h24)) ∧ ((∀ q ∈ ([(0 : Int32), (1 : Int32), (2 : Int32), (3 : Int32), (4 : Int32), (5 : Int32)] : List Int32), l1 ≠ q) → p_M_in l1 (11 : Int32) (16 : Int32) h (fun (v27 : Int32) (h26 : xH) => ((v27 = 0 → Q (-3 : Int32) h26) ∧ (¬ v27 = 0 → (kd l0.1 = (1, 10)) ∧ (kd (hR h26 l0 50).1 = (2, 0)) ∧ (vp_in (l1 - (10 : Int32)) (hS h26 (hR h26 l0 50) - 1)) ∧ Q (hI h26 (hR h26 l0 50) (l1 - (10 : Int32)).toNatClampNeg) h26)))))
set_option maxRecDepth 100000 in
set_option maxHeartbeats 4000000 in
theorem t_M_count (l0 : xN) (l1 : Int32) (h : xH) (Q : Int32 → xH → Prop) (H : p_M_count l0 l1 h Q) : WP M_M_count 0 [(0, xr l0), (1, xi l1)] [] h 0 (qi Q) := by
  unfold p_M_count at H
  refine wp_iload_n 1 rfl rfl dX11_count_0 ?_
  refine WP.at 1 rfl ?_
  refine wp_tsw dX11_count_1 [((0 : Int32), 40), ((1 : Int32), 45), ((2 : Int32), 50), ((3 : Int32), 55), ((4 : Int32), 92), ((5 : Int32), 97)] 102 (by decide) (by decide +kernel) (by decide +kernel) ?_ ?_
  · refine List.forall_mem_cons.mpr ⟨fun c0 => ?_, List.forall_mem_cons.mpr ⟨fun c0 => ?_, List.forall_mem_cons.mpr ⟨fun c0 => ?_, List.forall_mem_cons.mpr ⟨fun c0 => ?_, List.forall_mem_cons.mpr ⟨fun c0 => ?_, List.forall_mem_cons.mpr ⟨fun c0 => ?_, fun _ z => absurd z List.not_mem_nil⟩⟩⟩⟩⟩⟩
    · replace H := H.1 c0
      refine wp_aload_n 0 rfl rfl dX11_count_40 ?_
      obtain ⟨q1, H⟩ := H
      refine wp_geti coX11 0 (Nat.le_of_ble_eq_true rfl) fl_X11_168 rfl q1 dX11_count_41 ?_
      exact wp_iret trivial dX11_count_44 H
    · replace H := H.2.1 c0
      refine wp_aload_n 0 rfl rfl dX11_count_45 ?_
      refine WP.at 46 rfl ?_
      obtain ⟨q2, H⟩ := H
      refine wp_cVi (M2 := M_M_pools) coX11 l0 q2 [] rfl lv_X11_396 mo_M_pools (Nat.le_of_ble_eq_true rfl) ⟨(Nat.le_of_ble_eq_true rfl), (Nat.le_of_ble_eq_true rfl)⟩ (Nat.le_of_ble_eq_true rfl) (Nat.le_of_ble_eq_true rfl) dX11_count_46 (t_M_pools l0 _ _ H) (fun v4 h3 H => ?_)
      exact wp_iret trivial dX11_count_49 H
    · replace H := H.2.2.1 c0
      refine wp_aload_n 0 rfl rfl dX11_count_50 ?_
      obtain ⟨q5, H⟩ := H
      refine wp_geti coX11 23 (Nat.le_of_ble_eq_true rfl) fl_X11_205 rfl q5 dX11_count_51 ?_
      exact wp_iret trivial dX11_count_54 H
    · replace H := H.2.2.2.1 c0
      refine wp_iconst (0 : Int32) (by decide) dX11_count_55 ?_
      refine wp_istore_n 2 rfl (Nat.le_of_ble_eq_true rfl) dX11_count_56 (ls' := [(2, xi (0 : Int32)), (0, xr l0), (1, xi l1)]) rfl ?_
      refine wp_iconst (0 : Int32) (by decide) dX11_count_57 ?_
      refine wp_istore_n 3 rfl (Nat.le_of_ble_eq_true rfl) dX11_count_58 (ls' := [(3, xi (0 : Int32)), (2, xi (0 : Int32)), (0, xr l0), (1, xi l1)]) rfl ?_
      refine WP.at 59 rfl ?_
      obtain ⟨f21, H⟩ := H
      refine WP.pick [2, 1, 0] rfl (t_M_count_L59 l0 _ Q ?_ f21 (0 : Int32) (0 : Int32) _ H)
      · intro x19 h20 H
        refine wp_iload_n 2 rfl rfl dX11_count_90 ?_
        exact wp_iret trivial dX11_count_91 H
    · replace H := H.2.2.2.2.1 c0
      refine wp_aload_n 0 rfl rfl dX11_count_92 ?_
      obtain ⟨q22, H⟩ := H
      refine wp_geti coX11 66 (Nat.le_of_ble_eq_true rfl) fl_X11_384 rfl q22 dX11_count_93 ?_
      exact wp_iret trivial dX11_count_96 H
    · replace H := H.2.2.2.2.2.1 c0
      refine wp_aload_n 0 rfl rfl dX11_count_97 ?_
      refine WP.at 98 rfl ?_
      obtain ⟨q23, H⟩ := H
      refine wp_cVi (M2 := M_M_allDeducted) coX11 l0 q23 [] rfl lv_X11_319 mo_M_allDeducted (Nat.le_of_ble_eq_true rfl) ⟨(Nat.le_of_ble_eq_true rfl), (Nat.le_of_ble_eq_true rfl)⟩ (Nat.le_of_ble_eq_true rfl) (Nat.le_of_ble_eq_true rfl) dX11_count_98 (t_M_allDeducted l0 _ _ H) (fun v25 h24 H => ?_)
      exact wp_iret trivial dX11_count_101 H
  · intro c0
    replace H := H.2.2.2.2.2.2 c0
    refine wp_iload_n 1 rfl rfl dX11_count_102 ?_
    refine wp_bipush (11 : Int32) (by decide) dX11_count_103 ?_
    refine wp_bipush (16 : Int32) (by decide) dX11_count_105 ?_
    refine WP.at 107 rfl ?_
    refine wp_cSi (M2 := M_M_in) [xi l1, xi (11 : Int32), xi (16 : Int32)] rfl ls_X11_172 mo_M_in (Nat.le_of_ble_eq_true rfl) ⟨(Nat.le_of_ble_eq_true rfl), (Nat.le_of_ble_eq_true rfl)⟩ (Nat.le_of_ble_eq_true rfl) (Nat.le_of_ble_eq_true rfl) dX11_count_107 (t_M_in l1 (11 : Int32) (16 : Int32) _ _ H) (fun v27 h26 H => ?_)
    refine WP.at 110 rfl ?_
    refine wp_if_eq 125 (by decide) dX11_count_110 (fun c28 => ?_) (fun c28 => ?_)
    · replace H := H.1 c28
      refine wp_bipush (-3 : Int32) (by decide) dX11_count_125 ?_
      exact wp_iret trivial dX11_count_127 H
    · replace H := H.2 c28
      refine wp_aload_n 0 rfl rfl dX11_count_113 ?_
      obtain ⟨q29, H⟩ := H
      refine wp_getr coX11 50 (Nat.le_of_ble_eq_true rfl) fl_X11_119 rfl q29 dX11_count_114 ?_
      refine wp_iload_n 1 rfl rfl dX11_count_117 ?_
      refine wp_bipush (10 : Int32) (by decide) dX11_count_118 ?_
      refine wp_isub dX11_count_120 ?_
      obtain ⟨q30, H⟩ := H
      obtain ⟨q31, H⟩ := H
      refine wp_iaload q30 q31 dX11_count_121 ?_
      refine WP.at 122 rfl ?_
      refine wp_goto 127 (by decide) dX11_count_122 ?_
      exact wp_iret trivial dX11_count_127 H
def p_Po_digestOnto_L14 (l0 : xN) (K14_40 : Int64 → xH → Prop) (Q : Int64 → xH → Prop) : Nat → Int64 → Int32 → xH → Prop
  | 0, _, _, _ => False
  | f + 1, l1, l3, h => (((11 : Int32) ≤ l3 → K14_40 l1 h) ∧ (¬ (11 : Int32) ≤ l3 → (kd l0.1 = (1, 3)) ∧ (kd (hR h l0 8).1 = (2, 0)) ∧ (vp_in l3 (hS h (hR h l0 8) - 1)) ∧ ∀ v8 : Int64, v8 = ((31 : Int64) * l1) + ((hI h (hR h l0 8) l3.toNatClampNeg).toInt64) → ∀ v10 : Int32, v10 = l3 + (1 : Int32) → (p_Po_digestOnto_L14 l0 K14_40 Q f) v8 v10 h))
set_option maxRecDepth 100000 in
set_option maxHeartbeats 4000000 in
theorem t_Po_digestOnto_L14 (l0 : xN) (K14_40 : Int64 → xH → Prop) (Q : Int64 → xH → Prop) (hK14_40 : ∀ (x1 : Int64) (h : xH), K14_40 x1 h → WP M_Po_digestOnto 40 [(1, xl x1)] [] h 0 (ql Q)) : ∀ (f : Nat) (l1 : Int64) (l3 : Int32) (h : xH), p_Po_digestOnto_L14 l0 K14_40 Q f l1 l3 h → WP M_Po_digestOnto 14 [(0, xr l0), (1, xl l1), (3, xi l3)] [] h 0 (ql Q) := by
  intro f
  induction f with
  | zero => exact fun _ _ _ H => H.elim
  | succ f hB14 =>
    intro l1 l3 h H
    unfold p_Po_digestOnto_L14 at H
    refine wp_iload_n 3 rfl rfl dX4_digestOnto_14 ?_
    refine wp_bipush (11 : Int32) (by decide) dX4_digestOnto_15 ?_
    refine WP.at 17 rfl ?_
    refine wp_icmp_ge 40 (by decide) dX4_digestOnto_17 (fun c4 => ?_) (fun c4 => ?_)
    · replace H := H.1 c4
      exact WP.pick [1] rfl (hK14_40 l1 _ H)
    · replace H := H.2 c4
      refine wp_ldc2 (31 : Int64) cL_X4_53 dX4_digestOnto_20 ?_
      refine wp_lload_n 1 rfl rfl dX4_digestOnto_23 ?_
      refine wp_lmul dX4_digestOnto_24 ?_
      refine wp_aload_n 0 rfl rfl dX4_digestOnto_25 ?_
      obtain ⟨q5, H⟩ := H
      refine wp_getr coX4 8 (Nat.le_of_ble_eq_true rfl) fl_X4_9 rfl q5 dX4_digestOnto_26 ?_
      refine wp_iload_n 3 rfl rfl dX4_digestOnto_29 ?_
      obtain ⟨q6, H⟩ := H
      obtain ⟨q7, H⟩ := H
      refine wp_iaload q6 q7 dX4_digestOnto_30 ?_
      refine WP.at 31 rfl ?_
      refine wp_i2l dX4_digestOnto_31 ?_
      refine wp_ladd dX4_digestOnto_32 ?_
      refine wp_nml (fun v8 e9 => ?_)
      replace H := H v8 e9
      refine wp_lstore_n 1 rfl (Nat.le_of_ble_eq_true rfl) dX4_digestOnto_33 (ls' := [(1, xl v8), (0, xr l0), (3, xi l3)]) rfl ?_
      refine wp_iincN (1 : Int32) (by decide) rfl (Nat.le_of_ble_eq_true rfl) dX4_digestOnto_34 (ls' := fun v10 => [(3, xi v10), (1, xl v8), (0, xr l0)]) (fun _ => rfl) (fun v10 e11 => ?_)
      replace H := H v10 e11
      refine WP.at 37 rfl ?_
      refine wp_goto 14 (by decide) dX4_digestOnto_37 ?_
      exact WP.pick [2, 1, 0] rfl (hB14 v8 v10 _ H)
def p_Po_digestOnto (l0 : xN) (l1 : Int64) (h : xH) (Q : Int64 → xH → Prop) : Prop := (kd l0.1 = (1, 3)) ∧ ∀ v2 : Int64, v2 = ((31 : Int64) * l1) + ((hI h l0 0).toInt64) → (∃ f14, p_Po_digestOnto_L14 l0 (fun (x12 : Int64) (h13 : xH) => Q x12 h13) Q f14 v2 (0 : Int32) h)
set_option maxRecDepth 100000 in
set_option maxHeartbeats 4000000 in
theorem t_Po_digestOnto (l0 : xN) (l1 : Int64) (h : xH) (Q : Int64 → xH → Prop) (H : p_Po_digestOnto l0 l1 h Q) : WP M_Po_digestOnto 0 [(0, xr l0), (1, xl l1)] [] h 0 (ql Q) := by
  unfold p_Po_digestOnto at H
  refine wp_ldc2 (31 : Int64) cL_X4_53 dX4_digestOnto_0 ?_
  refine wp_lload_n 1 rfl rfl dX4_digestOnto_3 ?_
  refine wp_lmul dX4_digestOnto_4 ?_
  refine wp_aload_n 0 rfl rfl dX4_digestOnto_5 ?_
  obtain ⟨q1, H⟩ := H
  refine wp_geti coX4 0 (Nat.le_of_ble_eq_true rfl) fl_X4_15 rfl q1 dX4_digestOnto_6 ?_
  refine wp_i2l dX4_digestOnto_9 ?_
  refine wp_ladd dX4_digestOnto_10 ?_
  refine WP.at 11 rfl ?_
  refine wp_nml (fun v2 e3 => ?_)
  replace H := H v2 e3
  refine wp_lstore_n 1 rfl (Nat.le_of_ble_eq_true rfl) dX4_digestOnto_11 (ls' := [(1, xl v2), (0, xr l0)]) rfl ?_
  refine wp_iconst (0 : Int32) (by decide) dX4_digestOnto_12 ?_
  refine wp_istore_n 3 rfl (Nat.le_of_ble_eq_true rfl) dX4_digestOnto_13 (ls' := [(3, xi (0 : Int32)), (1, xl v2), (0, xr l0)]) rfl ?_
  refine WP.at 14 rfl ?_
  obtain ⟨f14, H⟩ := H
  refine WP.pick [2, 1, 0] rfl (t_Po_digestOnto_L14 l0 _ Q ?_ f14 v2 (0 : Int32) _ H)
  · intro x12 h13 H
    refine wp_lload_n 1 rfl rfl dX4_digestOnto_40 ?_
    exact wp_lret trivial dX4_digestOnto_41 H
def p_T_digest_L34 (l0 : xN) (l3 : Int32) (K34_73 : Int64 → xH → Prop) (Q : Int64 → xH → Prop) : Nat → Int64 → Int32 → xH → Prop
  | 0, _, _, _ => False
  | f + 1, l1, l4, h => (kd l0.1 = (1, 9)) ∧ (kd (hR h l0 0).1 = (5, 4)) ∧ (vp_in l3 (hS h (hR h l0 0) - 1)) ∧ (kd (hR h (hR h l0 0) l3.toNatClampNeg).1 = (1, 4)) ∧ (((hI h (hR h (hR h l0 0) l3.toNatClampNeg) 0) < l4 → K34_73 l1 h) ∧ (¬ (hI h (hR h (hR h l0 0) l3.toNatClampNeg) 0) < l4 → (vp_in l3 (hS h (hR h l0 0) - 1)) ∧ p_R_standing (hR h (hR h l0 0) l3.toNatClampNeg) l4 h (fun (v15 : Int32) (h14 : xH) => ∀ v16 : Int64, v16 = ((31 : Int64) * l1) + (v15.toInt64) → ∀ v18 : Int32, v18 = l4 + (1 : Int32) → (p_T_digest_L34 l0 l3 K34_73 Q f) v16 v18 h14)))
set_option maxRecDepth 100000 in
set_option maxHeartbeats 4000000 in
theorem t_T_digest_L34 (l0 : xN) (l3 : Int32) (K34_73 : Int64 → xH → Prop) (Q : Int64 → xH → Prop) (hK34_73 : ∀ (x1 : Int64) (h : xH), K34_73 x1 h → WP M_T_digest 73 [(0, xr l0), (1, xl x1), (3, xi l3)] [] h 0 (ql Q)) : ∀ (f : Nat) (l1 : Int64) (l4 : Int32) (h : xH), p_T_digest_L34 l0 l3 K34_73 Q f l1 l4 h → WP M_T_digest 34 [(0, xr l0), (1, xl l1), (3, xi l3), (4, xi l4)] [] h 0 (ql Q) := by
  intro f
  induction f with
  | zero => exact fun _ _ _ H => H.elim
  | succ f hB34 =>
    intro l1 l4 h H
    unfold p_T_digest_L34 at H
    refine wp_iload rfl dX10_digest_34 ?_
    refine wp_aload_n 0 rfl rfl dX10_digest_36 ?_
    obtain ⟨q8, H⟩ := H
    refine wp_getr coX10 0 (Nat.le_of_ble_eq_true rfl) fl_X10_11 rfl q8 dX10_digest_37 ?_
    refine wp_iload_n 3 rfl rfl dX10_digest_40 ?_
    obtain ⟨q9, H⟩ := H
    obtain ⟨q10, H⟩ := H
    refine wp_aaload q9 q10 dX10_digest_41 ?_
    obtain ⟨q11, H⟩ := H
    refine wp_geti coX5 0 (Nat.le_of_ble_eq_true rfl) fl_X10_144 rfl q11 dX10_digest_42 ?_
    refine WP.at 45 rfl ?_
    refine wp_icmp_gt 73 (by decide) dX10_digest_45 (fun c12 => ?_) (fun c12 => ?_)
    · replace H := H.1 c12
      exact WP.pick [0, 1, 2] rfl (hK34_73 l1 _ H)
    · replace H := H.2 c12
      refine wp_ldc2 (31 : Int64) cL_X10_408 dX10_digest_48 ?_
      refine wp_lload_n 1 rfl rfl dX10_digest_51 ?_
      refine wp_lmul dX10_digest_52 ?_
      refine wp_aload_n 0 rfl rfl dX10_digest_53 ?_
      refine wp_getr coX10 0 (Nat.le_of_ble_eq_true rfl) fl_X10_11 rfl q8 dX10_digest_54 ?_
      refine wp_iload_n 3 rfl rfl dX10_digest_57 ?_
      obtain ⟨q13, H⟩ := H
      refine wp_aaload q9 q13 dX10_digest_58 ?_
      refine WP.at 59 rfl ?_
      refine wp_iload rfl dX10_digest_59 ?_
      refine WP.at 61 rfl ?_
      refine wp_cVi (M2 := M_R_standing) coX5 (hR h (hR h l0 0) l3.toNatClampNeg) q11 [xi l4] rfl lv_X10_155 mo_R_standing (Nat.le_of_ble_eq_true rfl) ⟨(Nat.le_of_ble_eq_true rfl), (Nat.le_of_ble_eq_true rfl)⟩ (Nat.le_of_ble_eq_true rfl) (Nat.le_of_ble_eq_true rfl) dX10_digest_61 (t_R_standing (hR h (hR h l0 0) l3.toNatClampNeg) l4 _ _ H) (fun v15 h14 H => ?_)
      refine wp_i2l dX10_digest_64 ?_
      refine wp_ladd dX10_digest_65 ?_
      refine wp_nml (fun v16 e17 => ?_)
      replace H := H v16 e17
      refine wp_lstore_n 1 rfl (Nat.le_of_ble_eq_true rfl) dX10_digest_66 (ls' := [(1, xl v16), (0, xr l0), (3, xi l3), (4, xi l4)]) rfl ?_
      refine wp_iincN (1 : Int32) (by decide) rfl (Nat.le_of_ble_eq_true rfl) dX10_digest_67 (ls' := fun v18 => [(4, xi v18), (1, xl v16), (0, xr l0), (3, xi l3)]) (fun _ => rfl) (fun v18 e19 => ?_)
      replace H := H v18 e19
      refine WP.at 70 rfl ?_
      refine wp_goto 34 (by decide) dX10_digest_70 ?_
      exact WP.pick [2, 1, 3, 0] rfl (hB34 v16 v18 _ H)
def p_T_digest_L6 (l0 : xN) (K6_92 : Int64 → xH → Prop) (Q : Int64 → xH → Prop) : Nat → Int64 → Int32 → xH → Prop
  | 0, _, _, _ => False
  | f + 1, l1, l3, h => (kd l0.1 = (1, 9)) ∧ (((hI h l0 10) ≤ l3 → K6_92 l1 h) ∧ (¬ (hI h l0 10) ≤ l3 → (kd (hR h l0 0).1 = (5, 4)) ∧ (vp_in l3 (hS h (hR h l0 0) - 1)) ∧ (kd (hR h (hR h l0 0) l3.toNatClampNeg).1 = (1, 4)) ∧ ∀ v6 : Int64, v6 = ((31 : Int64) * l1) + ((hI h (hR h (hR h l0 0) l3.toNatClampNeg) 7).toInt64) → (∃ f28, p_T_digest_L34 l0 l3 (fun (x20 : Int64) (h21 : xH) => p_T_carriedInto l0 l3 h21 (fun (v23 : Int32) (h22 : xH) => ∀ v24 : Int64, v24 = ((31 : Int64) * x20) + (v23.toInt64) → ∀ v26 : Int32, v26 = l3 + (1 : Int32) → (p_T_digest_L6 l0 K6_92 Q f) v24 v26 h22)) Q f28 v6 (1 : Int32) h)))
set_option maxRecDepth 100000 in
set_option maxHeartbeats 4000000 in
theorem t_T_digest_L6 (l0 : xN) (K6_92 : Int64 → xH → Prop) (Q : Int64 → xH → Prop) (hK6_92 : ∀ (x1 : Int64) (h : xH), K6_92 x1 h → WP M_T_digest 92 [(0, xr l0), (1, xl x1)] [] h 0 (ql Q)) : ∀ (f : Nat) (l1 : Int64) (l3 : Int32) (h : xH), p_T_digest_L6 l0 K6_92 Q f l1 l3 h → WP M_T_digest 6 [(0, xr l0), (1, xl l1), (3, xi l3)] [] h 0 (ql Q) := by
  intro f
  induction f with
  | zero => exact fun _ _ _ H => H.elim
  | succ f hB6 =>
    intro l1 l3 h H
    unfold p_T_digest_L6 at H
    refine wp_iload_n 3 rfl rfl dX10_digest_6 ?_
    refine wp_aload_n 0 rfl rfl dX10_digest_7 ?_
    obtain ⟨q1, H⟩ := H
    refine wp_geti coX10 10 (Nat.le_of_ble_eq_true rfl) fl_X10_69 rfl q1 dX10_digest_8 ?_
    refine WP.at 11 rfl ?_
    refine wp_icmp_ge 92 (by decide) dX10_digest_11 (fun c2 => ?_) (fun c2 => ?_)
    · replace H := H.1 c2
      exact WP.pick [0, 1] rfl (hK6_92 l1 _ H)
    · replace H := H.2 c2
      refine wp_ldc2 (31 : Int64) cL_X10_408 dX10_digest_14 ?_
      refine wp_lload_n 1 rfl rfl dX10_digest_17 ?_
      refine wp_lmul dX10_digest_18 ?_
      refine wp_aload_n 0 rfl rfl dX10_digest_19 ?_
      refine wp_getr coX10 0 (Nat.le_of_ble_eq_true rfl) fl_X10_11 rfl q1 dX10_digest_20 ?_
      refine wp_iload_n 3 rfl rfl dX10_digest_23 ?_
      obtain ⟨q3, H⟩ := H
      obtain ⟨q4, H⟩ := H
      refine wp_aaload q3 q4 dX10_digest_24 ?_
      refine WP.at 25 rfl ?_
      obtain ⟨q5, H⟩ := H
      refine wp_geti coX5 7 (Nat.le_of_ble_eq_true rfl) fl_X10_88 rfl q5 dX10_digest_25 ?_
      refine wp_i2l dX10_digest_28 ?_
      refine wp_ladd dX10_digest_29 ?_
      refine wp_nml (fun v6 e7 => ?_)
      replace H := H v6 e7
      refine wp_lstore_n 1 rfl (Nat.le_of_ble_eq_true rfl) dX10_digest_30 (ls' := [(1, xl v6), (0, xr l0), (3, xi l3)]) rfl ?_
      refine wp_iconst (1 : Int32) (by decide) dX10_digest_31 ?_
      refine wp_istore (Nat.le_of_ble_eq_true rfl) dX10_digest_32 (ls' := [(4, xi (1 : Int32)), (1, xl v6), (0, xr l0), (3, xi l3)]) rfl ?_
      refine WP.at 34 rfl ?_
      obtain ⟨f28, H⟩ := H
      refine WP.pick [2, 1, 3, 0] rfl (t_T_digest_L34 l0 l3 _ Q ?_ f28 v6 (1 : Int32) _ H)
      · intro x20 h21 H
        refine wp_ldc2 (31 : Int64) cL_X10_408 dX10_digest_73 ?_
        refine wp_lload_n 1 rfl rfl dX10_digest_76 ?_
        refine wp_lmul dX10_digest_77 ?_
        refine wp_aload_n 0 rfl rfl dX10_digest_78 ?_
        refine wp_iload_n 3 rfl rfl dX10_digest_79 ?_
        refine WP.at 80 rfl ?_
        refine wp_cVi (M2 := M_T_carriedInto) coX10 l0 q1 [xi l3] rfl lv_X10_147 mo_T_carriedInto (Nat.le_of_ble_eq_true rfl) ⟨(Nat.le_of_ble_eq_true rfl), (Nat.le_of_ble_eq_true rfl)⟩ (Nat.le_of_ble_eq_true rfl) (Nat.le_of_ble_eq_true rfl) dX10_digest_80 (t_T_carriedInto l0 l3 _ _ H) (fun v23 h22 H => ?_)
        refine wp_i2l dX10_digest_83 ?_
        refine WP.at 84 rfl ?_
        refine wp_ladd dX10_digest_84 ?_
        refine wp_nml (fun v24 e25 => ?_)
        replace H := H v24 e25
        refine wp_lstore_n 1 rfl (Nat.le_of_ble_eq_true rfl) dX10_digest_85 (ls' := [(1, xl v24), (0, xr l0), (3, xi l3)]) rfl ?_
        refine wp_iincN (1 : Int32) (by decide) rfl (Nat.le_of_ble_eq_true rfl) dX10_digest_86 (ls' := fun v26 => [(3, xi v26), (1, xl v24), (0, xr l0)]) (fun _ => rfl) (fun v26 e27 => ?_)
        replace H := H v26 e27
        refine WP.at 89 rfl ?_
        refine wp_goto 6 (by decide) dX10_digest_89 ?_
        exact WP.pick [2, 1, 0] rfl (hB6 v24 v26 _ H)
def p_T_digest_L94 (l0 : xN) (K94_130 : Int64 → xH → Prop) (Q : Int64 → xH → Prop) : Nat → Int64 → Int32 → xH → Prop
  | 0, _, _, _ => False
  | f + 1, l1, l3, h => (((48 : Int32) < l3 → K94_130 l1 h) ∧ (¬ (48 : Int32) < l3 → (kd l0.1 = (1, 9)) ∧ (kd (hR h l0 1).1 = (5, 3)) ∧ (vp_in l3 (hS h (hR h l0 1) - 1)) ∧ ((¬ (hR h (hR h l0 1) l3.toNatClampNeg).1 = 0 → (vp_in l3 (hS h (hR h l0 1) - 1)) ∧ (kd (hR h (hR h l0 1) l3.toNatClampNeg).1 = (1, 3)) ∧ p_Po_digestOnto (hR h (hR h l0 1) l3.toNatClampNeg) l1 h (fun (v39 : Int64) (h38 : xH) => ∀ v40 : Int32, v40 = l3 + (1 : Int32) → (p_T_digest_L94 l0 K94_130 Q f) v39 v40 h38)) ∧ ((hR h (hR h l0 1) l3.toNatClampNeg).1 = 0 → ∀ v42 : Int32, v42 = l3 + (1 : Int32) → (p_T_digest_L94 l0 K94_130 Q f) l1 v42 h))))
set_option maxRecDepth 100000 in
set_option maxHeartbeats 4000000 in
theorem t_T_digest_L94 (l0 : xN) (K94_130 : Int64 → xH → Prop) (Q : Int64 → xH → Prop) (hK94_130 : ∀ (x1 : Int64) (h : xH), K94_130 x1 h → WP M_T_digest 130 [(0, xr l0), (1, xl x1)] [] h 0 (ql Q)) : ∀ (f : Nat) (l1 : Int64) (l3 : Int32) (h : xH), p_T_digest_L94 l0 K94_130 Q f l1 l3 h → WP M_T_digest 94 [(0, xr l0), (1, xl l1), (3, xi l3)] [] h 0 (ql Q) := by
  intro f
  induction f with
  | zero => exact fun _ _ _ H => H.elim
  | succ f hB94 =>
    intro l1 l3 h H
    unfold p_T_digest_L94 at H
    refine wp_iload_n 3 rfl rfl dX10_digest_94 ?_
    refine wp_bipush (48 : Int32) (by decide) dX10_digest_95 ?_
    refine WP.at 97 rfl ?_
    refine wp_icmp_gt 130 (by decide) dX10_digest_97 (fun c31 => ?_) (fun c31 => ?_)
    · replace H := H.1 c31
      exact WP.pick [0, 1] rfl (hK94_130 l1 _ H)
    · replace H := H.2 c31
      refine wp_aload_n 0 rfl rfl dX10_digest_100 ?_
      obtain ⟨q32, H⟩ := H
      refine wp_getr coX10 1 (Nat.le_of_ble_eq_true rfl) fl_X10_17 rfl q32 dX10_digest_101 ?_
      refine wp_iload_n 3 rfl rfl dX10_digest_104 ?_
      obtain ⟨q33, H⟩ := H
      obtain ⟨q34, H⟩ := H
      refine wp_aaload q33 q34 dX10_digest_105 ?_
      refine WP.at 106 rfl ?_
      refine wp_ifnonnull 113 (by decide) dX10_digest_106 (fun c35 => ?_) (fun c35 => ?_)
      · replace H := H.1 c35
        refine wp_aload_n 0 rfl rfl dX10_digest_113 ?_
        refine wp_getr coX10 1 (Nat.le_of_ble_eq_true rfl) fl_X10_17 rfl q32 dX10_digest_114 ?_
        refine wp_iload_n 3 rfl rfl dX10_digest_117 ?_
        obtain ⟨q36, H⟩ := H
        refine wp_aaload q33 q36 dX10_digest_118 ?_
        refine wp_lload_n 1 rfl rfl dX10_digest_119 ?_
        refine WP.at 120 rfl ?_
        obtain ⟨q37, H⟩ := H
        refine wp_cVl (M2 := M_Po_digestOnto) coX4 (hR h (hR h l0 1) l3.toNatClampNeg) q37 [xl l1] rfl lv_X10_410 mo_Po_digestOnto (Nat.le_of_ble_eq_true rfl) ⟨(Nat.le_of_ble_eq_true rfl), (Nat.le_of_ble_eq_true rfl)⟩ (Nat.le_of_ble_eq_true rfl) (Nat.le_of_ble_eq_true rfl) dX10_digest_120 (t_Po_digestOnto (hR h (hR h l0 1) l3.toNatClampNeg) l1 _ _ H) (fun v39 h38 H => ?_)
        refine wp_lstore_n 1 rfl (Nat.le_of_ble_eq_true rfl) dX10_digest_123 (ls' := [(1, xl v39), (0, xr l0), (3, xi l3)]) rfl ?_
        refine WP.at 124 rfl ?_
        refine wp_iincN (1 : Int32) (by decide) rfl (Nat.le_of_ble_eq_true rfl) dX10_digest_124 (ls' := fun v40 => [(3, xi v40), (1, xl v39), (0, xr l0)]) (fun _ => rfl) (fun v40 e41 => ?_)
        replace H := H v40 e41
        refine WP.at 127 rfl ?_
        refine wp_goto 94 (by decide) dX10_digest_127 ?_
        exact WP.pick [2, 1, 0] rfl (hB94 v39 v40 _ H)
      · replace H := H.2 c35
        refine wp_lload_n 1 rfl rfl dX10_digest_109 ?_
        refine WP.at 110 rfl ?_
        refine wp_goto 123 (by decide) dX10_digest_110 ?_
        refine wp_lstore_n 1 rfl (Nat.le_of_ble_eq_true rfl) dX10_digest_123 (ls' := [(1, xl l1), (0, xr l0), (3, xi l3)]) rfl ?_
        refine wp_iincN (1 : Int32) (by decide) rfl (Nat.le_of_ble_eq_true rfl) dX10_digest_124 (ls' := fun v42 => [(3, xi v42), (1, xl l1), (0, xr l0)]) (fun _ => rfl) (fun v42 e43 => ?_)
        replace H := H v42 e43
        refine WP.at 127 rfl ?_
        refine wp_goto 94 (by decide) dX10_digest_127 ?_
        exact WP.pick [2, 1, 0] rfl (hB94 l1 v42 _ H)
def p_T_digest_L132 (l0 : xN) (K132_214 : Int64 → xH → Prop) (Q : Int64 → xH → Prop) : Nat → Int64 → Int32 → xH → Prop
  | 0, _, _, _ => False
  | f + 1, l1, l3, h => (kd l0.1 = (1, 9)) ∧ (((hI h l0 11) ≤ l3 → K132_214 l1 h) ∧ (¬ (hI h l0 11) ≤ l3 → (kd (hR h l0 2).1 = (5, 8)) ∧ (vp_in l3 (hS h (hR h l0 2) - 1)) ∧ (kd (hR h (hR h l0 2) l3.toNatClampNeg).1 = (1, 8)) ∧ ∀ v51 : Int64, v51 = ((31 : Int64) * l1) + ((hI h (hR h (hR h l0 2) l3.toNatClampNeg) 3).toInt64) → (vp_in l3 (hS h (hR h l0 2) - 1)) ∧ ∀ v54 : Int64, v54 = ((31 : Int64) * v51) + ((hI h (hR h (hR h l0 2) l3.toNatClampNeg) 4).toInt64) → (vp_in l3 (hS h (hR h l0 2) - 1)) ∧ ∀ v57 : Int64, v57 = ((31 : Int64) * v54) + ((hI h (hR h (hR h l0 2) l3.toNatClampNeg) 2).toInt64) → (vp_in l3 (hS h (hR h l0 2) - 1)) ∧ ∀ v60 : Int64, v60 = ((31 : Int64) * v57) + ((hI h (hR h (hR h l0 2) l3.toNatClampNeg) 6).toInt64) → ∀ v62 : Int32, v62 = l3 + (1 : Int32) → (p_T_digest_L132 l0 K132_214 Q f) v60 v62 h))
set_option maxRecDepth 100000 in
set_option maxHeartbeats 4000000 in
theorem t_T_digest_L132 (l0 : xN) (K132_214 : Int64 → xH → Prop) (Q : Int64 → xH → Prop) (hK132_214 : ∀ (x1 : Int64) (h : xH), K132_214 x1 h → WP M_T_digest 214 [(0, xr l0), (1, xl x1)] [] h 0 (ql Q)) : ∀ (f : Nat) (l1 : Int64) (l3 : Int32) (h : xH), p_T_digest_L132 l0 K132_214 Q f l1 l3 h → WP M_T_digest 132 [(0, xr l0), (1, xl l1), (3, xi l3)] [] h 0 (ql Q) := by
  intro f
  induction f with
  | zero => exact fun _ _ _ H => H.elim
  | succ f hB132 =>
    intro l1 l3 h H
    unfold p_T_digest_L132 at H
    refine wp_iload_n 3 rfl rfl dX10_digest_132 ?_
    refine wp_aload_n 0 rfl rfl dX10_digest_133 ?_
    obtain ⟨q46, H⟩ := H
    refine wp_geti coX10 11 (Nat.le_of_ble_eq_true rfl) fl_X10_104 rfl q46 dX10_digest_134 ?_
    refine WP.at 137 rfl ?_
    refine wp_icmp_ge 214 (by decide) dX10_digest_137 (fun c47 => ?_) (fun c47 => ?_)
    · replace H := H.1 c47
      exact WP.pick [0, 1] rfl (hK132_214 l1 _ H)
    · replace H := H.2 c47
      refine wp_ldc2 (31 : Int64) cL_X10_408 dX10_digest_140 ?_
      refine wp_lload_n 1 rfl rfl dX10_digest_143 ?_
      refine wp_lmul dX10_digest_144 ?_
      refine wp_aload_n 0 rfl rfl dX10_digest_145 ?_
      refine wp_getr coX10 2 (Nat.le_of_ble_eq_true rfl) fl_X10_23 rfl q46 dX10_digest_146 ?_
      refine wp_iload_n 3 rfl rfl dX10_digest_149 ?_
      obtain ⟨q48, H⟩ := H
      obtain ⟨q49, H⟩ := H
      refine wp_aaload q48 q49 dX10_digest_150 ?_
      refine WP.at 151 rfl ?_
      obtain ⟨q50, H⟩ := H
      refine wp_geti coX9 3 (Nat.le_of_ble_eq_true rfl) fl_X10_212 rfl q50 dX10_digest_151 ?_
      refine wp_i2l dX10_digest_154 ?_
      refine wp_ladd dX10_digest_155 ?_
      refine wp_nml (fun v51 e52 => ?_)
      replace H := H v51 e52
      refine wp_lstore_n 1 rfl (Nat.le_of_ble_eq_true rfl) dX10_digest_156 (ls' := [(1, xl v51), (0, xr l0), (3, xi l3)]) rfl ?_
      refine wp_ldc2 (31 : Int64) cL_X10_408 dX10_digest_157 ?_
      refine wp_lload_n 1 rfl rfl dX10_digest_160 ?_
      refine wp_lmul dX10_digest_161 ?_
      refine wp_aload_n 0 rfl rfl dX10_digest_162 ?_
      refine WP.at 163 rfl ?_
      refine wp_getr coX10 2 (Nat.le_of_ble_eq_true rfl) fl_X10_23 rfl q46 dX10_digest_163 ?_
      refine wp_iload_n 3 rfl rfl dX10_digest_166 ?_
      obtain ⟨q53, H⟩ := H
      refine wp_aaload q48 q53 dX10_digest_167 ?_
      refine wp_geti coX9 4 (Nat.le_of_ble_eq_true rfl) fl_X10_215 rfl q50 dX10_digest_168 ?_
      refine wp_i2l dX10_digest_171 ?_
      refine wp_ladd dX10_digest_172 ?_
      refine wp_nml (fun v54 e55 => ?_)
      replace H := H v54 e55
      refine wp_lstore_n 1 rfl (Nat.le_of_ble_eq_true rfl) dX10_digest_173 (ls' := [(1, xl v54), (0, xr l0), (3, xi l3)]) rfl ?_
      refine wp_ldc2 (31 : Int64) cL_X10_408 dX10_digest_174 ?_
      refine WP.at 177 rfl ?_
      refine wp_lload_n 1 rfl rfl dX10_digest_177 ?_
      refine wp_lmul dX10_digest_178 ?_
      refine wp_aload_n 0 rfl rfl dX10_digest_179 ?_
      refine wp_getr coX10 2 (Nat.le_of_ble_eq_true rfl) fl_X10_23 rfl q46 dX10_digest_180 ?_
      refine wp_iload_n 3 rfl rfl dX10_digest_183 ?_
      obtain ⟨q56, H⟩ := H
      refine wp_aaload q48 q56 dX10_digest_184 ?_
      refine wp_geti coX9 2 (Nat.le_of_ble_eq_true rfl) fl_X10_221 rfl q50 dX10_digest_185 ?_
      refine wp_i2l dX10_digest_188 ?_
      refine WP.at 189 rfl ?_
      refine wp_ladd dX10_digest_189 ?_
      refine wp_nml (fun v57 e58 => ?_)
      replace H := H v57 e58
      refine wp_lstore_n 1 rfl (Nat.le_of_ble_eq_true rfl) dX10_digest_190 (ls' := [(1, xl v57), (0, xr l0), (3, xi l3)]) rfl ?_
      refine wp_ldc2 (31 : Int64) cL_X10_408 dX10_digest_191 ?_
      refine wp_lload_n 1 rfl rfl dX10_digest_194 ?_
      refine wp_lmul dX10_digest_195 ?_
      refine wp_aload_n 0 rfl rfl dX10_digest_196 ?_
      refine wp_getr coX10 2 (Nat.le_of_ble_eq_true rfl) fl_X10_23 rfl q46 dX10_digest_197 ?_
      refine wp_iload_n 3 rfl rfl dX10_digest_200 ?_
      refine WP.at 201 rfl ?_
      obtain ⟨q59, H⟩ := H
      refine wp_aaload q48 q59 dX10_digest_201 ?_
      refine wp_geti coX9 6 (Nat.le_of_ble_eq_true rfl) fl_X10_107 rfl q50 dX10_digest_202 ?_
      refine wp_i2l dX10_digest_205 ?_
      refine wp_ladd dX10_digest_206 ?_
      refine wp_nml (fun v60 e61 => ?_)
      replace H := H v60 e61
      refine wp_lstore_n 1 rfl (Nat.le_of_ble_eq_true rfl) dX10_digest_207 (ls' := [(1, xl v60), (0, xr l0), (3, xi l3)]) rfl ?_
      refine wp_iincN (1 : Int32) (by decide) rfl (Nat.le_of_ble_eq_true rfl) dX10_digest_208 (ls' := fun v62 => [(3, xi v62), (1, xl v60), (0, xr l0)]) (fun _ => rfl) (fun v62 e63 => ?_)
      replace H := H v62 e63
      refine WP.at 211 rfl ?_
      refine wp_goto 132 (by decide) dX10_digest_211 ?_
      exact WP.pick [2, 1, 0] rfl (hB132 v60 v62 _ H)
def p_T_digest (l0 : xN) (h : xH) (Q : Int64 → xH → Prop) : Prop := (∃ f69, p_T_digest_L6 l0 (fun (x29 : Int64) (h30 : xH) => (∃ f68, p_T_digest_L94 l0 (fun (x44 : Int64) (h45 : xH) => (∃ f67, p_T_digest_L132 l0 (fun (x64 : Int64) (h65 : xH) => (kd l0.1 = (1, 9)) ∧ Q (((31 : Int64) * x64) + ((hI h65 l0 12).toInt64)) h65) Q f67 x44 (0 : Int32) h45)) Q f68 x29 (0 : Int32) h30)) Q f69 (17 : Int64) (0 : Int32) h)
set_option maxRecDepth 100000 in
set_option maxHeartbeats 4000000 in
theorem t_T_digest (l0 : xN) (h : xH) (Q : Int64 → xH → Prop) (H : p_T_digest l0 h Q) : WP M_T_digest 0 [(0, xr l0)] [] h 0 (ql Q) := by
  unfold p_T_digest at H
  refine wp_ldc2 (17 : Int64) cL_X10_406 dX10_digest_0 ?_
  refine wp_lstore_n 1 rfl (Nat.le_of_ble_eq_true rfl) dX10_digest_3 (ls' := [(1, xl (17 : Int64)), (0, xr l0)]) rfl ?_
  refine wp_iconst (0 : Int32) (by decide) dX10_digest_4 ?_
  refine wp_istore_n 3 rfl (Nat.le_of_ble_eq_true rfl) dX10_digest_5 (ls' := [(3, xi (0 : Int32)), (1, xl (17 : Int64)), (0, xr l0)]) rfl ?_
  refine WP.at 6 rfl ?_
  obtain ⟨f69, H⟩ := H
  refine WP.pick [2, 1, 0] rfl (t_T_digest_L6 l0 _ Q ?_ f69 (17 : Int64) (0 : Int32) _ H)
  · intro x29 h30 H
    refine wp_iconst (0 : Int32) (by decide) dX10_digest_92 ?_
    refine wp_istore_n 3 rfl (Nat.le_of_ble_eq_true rfl) dX10_digest_93 (ls' := [(3, xi (0 : Int32)), (0, xr l0), (1, xl x29)]) rfl ?_
    refine WP.at 94 rfl ?_
    obtain ⟨f68, H⟩ := H
    refine WP.pick [1, 2, 0] rfl (t_T_digest_L94 l0 _ Q ?_ f68 x29 (0 : Int32) _ H)
    · intro x44 h45 H
      refine wp_iconst (0 : Int32) (by decide) dX10_digest_130 ?_
      refine wp_istore_n 3 rfl (Nat.le_of_ble_eq_true rfl) dX10_digest_131 (ls' := [(3, xi (0 : Int32)), (0, xr l0), (1, xl x44)]) rfl ?_
      refine WP.at 132 rfl ?_
      obtain ⟨f67, H⟩ := H
      refine WP.pick [1, 2, 0] rfl (t_T_digest_L132 l0 _ Q ?_ f67 x44 (0 : Int32) _ H)
      · intro x64 h65 H
        refine wp_ldc2 (31 : Int64) cL_X10_408 dX10_digest_214 ?_
        refine wp_lload_n 1 rfl rfl dX10_digest_217 ?_
        refine wp_lmul dX10_digest_218 ?_
        refine wp_aload_n 0 rfl rfl dX10_digest_219 ?_
        obtain ⟨q66, H⟩ := H
        refine wp_geti coX10 12 (Nat.le_of_ble_eq_true rfl) fl_X10_262 rfl q66 dX10_digest_220 ?_
        refine wp_i2l dX10_digest_223 ?_
        refine wp_ladd dX10_digest_224 ?_
        refine WP.at 225 rfl ?_
        exact wp_lret trivial dX10_digest_225 H
