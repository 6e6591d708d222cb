def p_M_note_L71 (l0 : xN) (l3 : Int64) (l5 : Int32) (l7 : Int32) (K71_113 : xH → Prop) (Q : Int32 → xH → Prop) : Nat → Int32 → xH → Prop
  | 0, _, _ => False
  | f + 1, l8, h => ((l5 ≤ l8 → K71_113 h) ∧ (¬ l5 ≤ l8 → (kd l0.1 = (1, 10)) ∧ (kd (hR h l0 56).1 = (2, 0)) ∧ (vp_in (((4 : Int32) * l7) + l8) (hS h (hR h l0 56) - 1)) ∧ ∀ h25 : xH, h25 = sI h (hR h l0 56) (((4 : Int32) * l7) + l8).toNatClampNeg (((l3 >>> (((16 : Int32) * ((l5 - (1 : Int32)) - l8)).toInt64 &&& 63)) &&& (65535 : Int64)).toInt32) → ∀ v27 : Int32, v27 = l8 + (1 : Int32) → (p_M_note_L71 l0 l3 l5 l7 K71_113 Q f) v27 h25))
set_option maxRecDepth 100000 in
set_option maxHeartbeats 4000000 in
theorem t_M_note_L71 (l0 : xN) (l3 : Int64) (l5 : Int32) (l7 : Int32) (K71_113 : xH → Prop) (Q : Int32 → xH → Prop) (hK71_113 : ∀ (h : xH), K71_113 h → WP M_M_note 113 [(5, xi l5)] [] h 0 (qi Q)) : ∀ (f : Nat) (l8 : Int32) (h : xH), p_M_note_L71 l0 l3 l5 l7 K71_113 Q f l8 h → WP M_M_note 71 [(0, xr l0), (3, xl l3), (5, xi l5), (7, xi l7), (8, xi l8)] [] h 0 (qi Q) := by
  intro f
  induction f with
  | zero => exact fun _ _ H => H.elim
  | succ f hB71 =>
    intro l8 h H
    unfold p_M_note_L71 at H
    refine wp_iload rfl dX11_note_71 ?_
    refine wp_iload rfl dX11_note_73 ?_
    refine WP.at 75 rfl ?_
    refine wp_icmp_ge 113 (by decide) dX11_note_75 (fun c21 => ?_) (fun c21 => ?_)
    · replace H := H.1 c21
      exact WP.pick [2] rfl (hK71_113 _ H)
    · replace H := H.2 c21
      refine wp_aload_n 0 rfl rfl dX11_note_78 ?_
      obtain ⟨q22, H⟩ := H
      refine wp_getr coX11 56 (Nat.le_of_ble_eq_true rfl) fl_X11_137 rfl q22 dX11_note_79 ?_
      refine wp_iconst (4 : Int32) (by decide) dX11_note_82 ?_
      refine wp_iload rfl dX11_note_83 ?_
      refine wp_imul dX11_note_85 ?_
      refine wp_iload rfl dX11_note_86 ?_
      refine wp_iadd dX11_note_88 ?_
      refine WP.at 89 rfl ?_
      refine wp_lload_n 3 rfl rfl dX11_note_89 ?_
      refine wp_bipush (16 : Int32) (by decide) dX11_note_90 ?_
      refine wp_iload rfl dX11_note_92 ?_
      refine wp_iconst (1 : Int32) (by decide) dX11_note_94 ?_
      refine wp_isub dX11_note_95 ?_
      refine wp_iload rfl dX11_note_96 ?_
      refine wp_isub dX11_note_98 ?_
      refine wp_imul dX11_note_99 ?_
      refine WP.at 100 rfl ?_
      refine wp_lshr dX11_note_100 ?_
      refine wp_ldc2 (65535 : Int64) cL_X11_332 dX11_note_101 ?_
      refine wp_land dX11_note_104 ?_
      refine wp_l2i dX11_note_105 ?_
      obtain ⟨q23, H⟩ := H
      obtain ⟨q24, H⟩ := H
      refine wp_iastore q23 q24 dX11_note_106 ?_
      refine wp_nh (fun h25 e26 => ?_)
      replace H := H h25 e26
      refine wp_iincN (1 : Int32) (by decide) rfl (Nat.le_of_ble_eq_true rfl) dX11_note_107 (ls' := fun v27 => [(8, xi v27), (0, xr l0), (3, xl l3), (5, xi l5), (7, xi l7)]) (fun _ => rfl) (fun v27 e28 => ?_)
      replace H := H v27 e28
      refine WP.at 110 rfl ?_
      refine wp_goto 71 (by decide) dX11_note_110 ?_
      exact WP.pick [1, 2, 3, 4, 0] rfl (hB71 v27 _ H)
def p_M_note (l0 : xN) (l1 : Int32) (l2 : Int32) (l3 : Int64) (l5 : Int32) (h : xH) (Q : Int32 → xH → Prop) : Prop := p_M_isWindow l1 h (fun (v2 : Int32) (h1 : xH) => ((¬ v2 = 0 → p_M_in l5 (1 : Int32) (4 : Int32) h1 (fun (v5 : Int32) (h4 : xH) => ((¬ v5 = 0 → (kd l0.1 = (1, 10)) ∧ p_M_lacks l0 l1 l2 h4 (fun (v9 : Int32) (h8 : xH) => ((v9 ≤ 0 → ∀ v11 : Int32, v11 = ((12 : Int32) * l1) + l2 → (kd (hR h8 l0 53).1 = (2, 0)) ∧ (vp_in v11 (hS h8 (hR h8 l0 53) - 1)) ∧ ∀ h15 : xH, h15 = sI h8 (hR h8 l0 53) v11.toNatClampNeg (2 : Int32) → (kd (hR h15 l0 55).1 = (2, 0)) ∧ (vp_in v11 (hS h15 (hR h15 l0 55) - 1)) ∧ ∀ h19 : xH, h19 = sI h15 (hR h15 l0 55) v11.toNatClampNeg l5 → (∃ f30, p_M_note_L71 l0 l3 l5 v11 (fun (h29 : xH) => Q l5 h29) Q f30 (0 : Int32) h19)) ∧ (¬ v9 ≤ 0 → p_M_meets l0 v9 h8 (fun (v32 : Int32) (h31 : xH) => Q v32 h31))))) ∧ (v5 = 0 → Q (-3 : Int32) h4)))) ∧ (v2 = 0 → Q (-2 : Int32) h1)))
set_option maxRecDepth 100000 in
set_option maxHeartbeats 4000000 in
theorem t_M_note (l0 : xN) (l1 : Int32) (l2 : Int32) (l3 : Int64) (l5 : Int32) (h : xH) (Q : Int32 → xH → Prop) (H : p_M_note l0 l1 l2 l3 l5 h Q) : WP M_M_note 0 [(0, xr l0), (1, xi l1), (2, xi l2), (3, xl l3), (5, xi l5)] [] h 0 (qi Q) := by
  unfold p_M_note at H
  refine wp_iload_n 1 rfl rfl dX11_note_0 ?_
  refine WP.at 1 rfl ?_
  refine wp_cSi (M2 := M_M_isWindow) [xi l1] rfl ls_X11_326 mo_M_isWindow (Nat.le_of_ble_eq_true rfl) ⟨(Nat.le_of_ble_eq_true rfl), (Nat.le_of_ble_eq_true rfl)⟩ (Nat.le_of_ble_eq_true rfl) (Nat.le_of_ble_eq_true rfl) dX11_note_1 (t_M_isWindow l1 _ _ H) (fun v2 h1 H => ?_)
  refine WP.at 4 rfl ?_
  refine wp_if_ne 10 (by decide) dX11_note_4 (fun c3 => ?_) (fun c3 => ?_)
  · replace H := H.1 c3
    refine wp_iload rfl dX11_note_10 ?_
    refine wp_iconst (1 : Int32) (by decide) dX11_note_12 ?_
    refine wp_iconst (4 : Int32) (by decide) dX11_note_13 ?_
    refine WP.at 14 rfl ?_
    refine wp_cSi (M2 := M_M_in) [xi l5, xi (1 : Int32), xi (4 : Int32)] rfl ls_X11_172 mo_M_in (Nat.le_of_ble_eq_true rfl) ⟨(Nat.le_of_ble_eq_true rfl), (Nat.le_of_ble_eq_true rfl)⟩ (Nat.le_of_ble_eq_true rfl) (Nat.le_of_ble_eq_true rfl) dX11_note_14 (t_M_in l5 (1 : Int32) (4 : Int32) _ _ H) (fun v5 h4 H => ?_)
    refine WP.at 17 rfl ?_
    refine wp_if_ne 23 (by decide) dX11_note_17 (fun c6 => ?_) (fun c6 => ?_)
    · replace H := H.1 c6
      refine wp_aload_n 0 rfl rfl dX11_note_23 ?_
      refine wp_iload_n 1 rfl rfl dX11_note_24 ?_
      refine wp_iload_n 2 rfl rfl dX11_note_25 ?_
      refine WP.at 26 rfl ?_
      obtain ⟨q7, H⟩ := H
      refine wp_cVi (M2 := M_M_lacks) coX11 l0 q7 [xi l1, xi l2] rfl lv_X11_329 mo_M_lacks (Nat.le_of_ble_eq_true rfl) ⟨(Nat.le_of_ble_eq_true rfl), (Nat.le_of_ble_eq_true rfl)⟩ (Nat.le_of_ble_eq_true rfl) (Nat.le_of_ble_eq_true rfl) dX11_note_26 (t_M_lacks l0 l1 l2 _ _ H) (fun v9 h8 H => ?_)
      refine wp_istore (Nat.le_of_ble_eq_true rfl) dX11_note_29 (ls' := [(6, xi v9), (0, xr l0), (1, xi l1), (2, xi l2), (3, xl l3), (5, xi l5)]) rfl ?_
      refine wp_iload rfl dX11_note_31 ?_
      refine WP.at 33 rfl ?_
      refine wp_if_le 43 (by decide) dX11_note_33 (fun c10 => ?_) (fun c10 => ?_)
      · replace H := H.1 c10
        refine wp_bipush (12 : Int32) (by decide) dX11_note_43 ?_
        refine wp_iload_n 1 rfl rfl dX11_note_45 ?_
        refine wp_imul dX11_note_46 ?_
        refine wp_iload_n 2 rfl rfl dX11_note_47 ?_
        refine wp_iadd dX11_note_48 ?_
        refine wp_nm (fun v11 e12 => ?_)
        replace H := H v11 e12
        refine wp_istore (Nat.le_of_ble_eq_true rfl) dX11_note_49 (ls' := [(7, xi v11), (6, xi v9), (0, xr l0), (1, xi l1), (2, xi l2), (3, xl l3), (5, xi l5)]) rfl ?_
        refine wp_aload_n 0 rfl rfl dX11_note_51 ?_
        refine WP.at 52 rfl ?_
        refine wp_getr coX11 53 (Nat.le_of_ble_eq_true rfl) fl_X11_128 rfl q7 dX11_note_52 ?_
        refine wp_iload rfl dX11_note_55 ?_
        refine wp_iconst (2 : Int32) (by decide) dX11_note_57 ?_
        obtain ⟨q13, H⟩ := H
        obtain ⟨q14, H⟩ := H
        refine wp_iastore q13 q14 dX11_note_58 ?_
        refine wp_nh (fun h15 e16 => ?_)
        replace H := H h15 e16
        refine wp_aload_n 0 rfl rfl dX11_note_59 ?_
        refine wp_getr coX11 55 (Nat.le_of_ble_eq_true rfl) fl_X11_134 rfl q7 dX11_note_60 ?_
        refine wp_iload rfl dX11_note_63 ?_
        refine wp_iload rfl dX11_note_65 ?_
        refine WP.at 67 rfl ?_
        obtain ⟨q17, H⟩ := H
        obtain ⟨q18, H⟩ := H
        refine wp_iastore q17 q18 dX11_note_67 ?_
        refine wp_nh (fun h19 e20 => ?_)
        replace H := H h19 e20
        refine wp_iconst (0 : Int32) (by decide) dX11_note_68 ?_
        refine wp_istore (Nat.le_of_ble_eq_true rfl) dX11_note_69 (ls' := [(8, xi (0 : Int32)), (7, xi v11), (6, xi v9), (0, xr l0), (1, xi l1), (2, xi l2), (3, xl l3), (5, xi l5)]) rfl ?_
        refine WP.at 71 rfl ?_
        obtain ⟨f30, H⟩ := H
        refine WP.pick [3, 6, 7, 1, 0] rfl (t_M_note_L71 l0 l3 l5 v11 _ Q ?_ f30 (0 : Int32) _ H)
        · intro h29 H
          refine wp_iload rfl dX11_note_113 ?_
          exact wp_iret trivial dX11_note_115 H
      · replace H := H.2 c10
        refine wp_aload_n 0 rfl rfl dX11_note_36 ?_
        refine wp_iload rfl dX11_note_37 ?_
        refine WP.at 39 rfl ?_
        refine wp_cVi (M2 := M_M_meets) coX11 l0 q7 [xi v9] rfl lv_X11_316 mo_M_meets (Nat.le_of_ble_eq_true rfl) ⟨(Nat.le_of_ble_eq_true rfl), (Nat.le_of_ble_eq_true rfl)⟩ (Nat.le_of_ble_eq_true rfl) (Nat.le_of_ble_eq_true rfl) dX11_note_39 (t_M_meets l0 v9 _ _ H) (fun v32 h31 H => ?_)
        exact wp_iret trivial dX11_note_42 H
    · replace H := H.2 c6
      refine wp_bipush (-3 : Int32) (by decide) dX11_note_20 ?_
      exact wp_iret trivial dX11_note_22 H
  · replace H := H.2 c3
    refine wp_bipush (-2 : Int32) (by decide) dX11_note_7 ?_
    exact wp_iret trivial dX11_note_9 H
def p_Ja_fill_L5 (l0 : xN) (l1 : Int32) (l3 : Int32) (K5_20 : xH → Prop) (Q : xH → Prop) : Nat → Int32 → xH → Prop
  | 0, _, _ => False
  | f + 1, l2, h => ((l3 ≤ l2 → K5_20 h) ∧ (¬ l3 ≤ l2 → (kd l0.1 = (2, 0)) ∧ (vp_in l2 (hS h l0 - 1)) ∧ ∀ h7 : xH, h7 = sI h l0 l2.toNatClampNeg l1 → ∀ v9 : Int32, v9 = l2 + (1 : Int32) → (p_Ja_fill_L5 l0 l1 l3 K5_20 Q f) v9 h7))
set_option maxRecDepth 100000 in
set_option maxHeartbeats 4000000 in
theorem t_Ja_fill_L5 (l0 : xN) (l1 : Int32) (l3 : Int32) (K5_20 : xH → Prop) (Q : xH → Prop) (hK5_20 : ∀ (h : xH), K5_20 h → WP M_Ja_fill 20 [] [] h 0 (qv Q)) : ∀ (f : Nat) (l2 : Int32) (h : xH), p_Ja_fill_L5 l0 l1 l3 K5_20 Q f l2 h → WP M_Ja_fill 5 [(0, xr l0), (1, xi l1), (2, xi l2), (3, xi l3)] [] h 0 (qv Q) := by
  intro f
  induction f with
  | zero => exact fun _ _ H => H.elim
  | succ f hB5 =>
    intro l2 h H
    unfold p_Ja_fill_L5 at H
    refine wp_iload_n 2 rfl rfl dJ7_fill_53178_5 ?_
    refine wp_iload_n 3 rfl rfl dJ7_fill_53178_6 ?_
    refine WP.at 7 rfl ?_
    refine wp_icmp_ge 20 (by decide) dJ7_fill_53178_7 (fun c4 => ?_) (fun c4 => ?_)
    · replace H := H.1 c4
      exact WP.pick [] rfl (hK5_20 _ H)
    · replace H := H.2 c4
      refine wp_aload_n 0 rfl rfl dJ7_fill_53178_10 ?_
      refine wp_iload_n 2 rfl rfl dJ7_fill_53178_11 ?_
      refine wp_iload_n 1 rfl rfl dJ7_fill_53178_12 ?_
      obtain ⟨q5, H⟩ := H
      obtain ⟨q6, H⟩ := H
      refine wp_iastore q5 q6 dJ7_fill_53178_13 ?_
      refine wp_nh (fun h7 e8 => ?_)
      replace H := H h7 e8
      refine wp_iincN (1 : Int32) (by decide) rfl (Nat.le_of_ble_eq_true rfl) dJ7_fill_53178_14 (ls' := fun v9 => [(2, xi v9), (0, xr l0), (1, xi l1), (3, xi l3)]) (fun _ => rfl) (fun v9 e10 => ?_)
      replace H := H v9 e10
      refine WP.at 17 rfl ?_
      refine wp_goto 5 (by decide) dJ7_fill_53178_17 ?_
      exact WP.pick [1, 2, 0, 3] rfl (hB5 v9 _ H)
def p_Ja_fill (l0 : xN) (l1 : Int32) (h : xH) (Q : xH → Prop) : Prop := (kd l0.1 = (2, 0)) ∧ ∀ v2 : Int32, v2 = Int32.ofNat (hS h l0 - 1) → (∃ f12, p_Ja_fill_L5 l0 l1 v2 (fun (h11 : xH) => Q h11) Q f12 (0 : Int32) h)
set_option maxRecDepth 100000 in
set_option maxHeartbeats 4000000 in
theorem t_Ja_fill (l0 : xN) (l1 : Int32) (h : xH) (Q : xH → Prop) (H : p_Ja_fill l0 l1 h Q) : WP M_Ja_fill 0 [(0, xr l0), (1, xi l1)] [] h 0 (qv Q) := by
  unfold p_Ja_fill at H
  refine wp_iconst (0 : Int32) (by decide) dJ7_fill_53178_0 ?_
  refine wp_istore_n 2 rfl (Nat.le_of_ble_eq_true rfl) dJ7_fill_53178_1 (ls' := [(2, xi (0 : Int32)), (0, xr l0), (1, xi l1)]) rfl ?_
  refine wp_aload_n 0 rfl rfl dJ7_fill_53178_2 ?_
  obtain ⟨q1, H⟩ := H
  refine wp_alen q1 ⟨(Nat.le_of_ble_eq_true rfl), (Nat.le_of_ble_eq_true rfl)⟩ rfl dJ7_fill_53178_3 ?_
  refine wp_nm (fun v2 e3 => ?_)
  replace H := H v2 e3
  refine wp_istore_n 3 rfl (Nat.le_of_ble_eq_true rfl) dJ7_fill_53178_4 (ls' := [(3, xi v2), (2, xi (0 : Int32)), (0, xr l0), (1, xi l1)]) rfl ?_
  refine WP.at 5 rfl ?_
  obtain ⟨f12, H⟩ := H
  refine WP.pick [2, 3, 1, 0] rfl (t_Ja_fill_L5 l0 l1 v2 _ Q ?_ f12 (0 : Int32) _ H)
  · intro h11 H
    exact wp_vret trivial dJ7_fill_53178_20 H
def p_Sl_holdCoins (l0 : xN) (l1 : Int32) (h : xH) (Q : xH → Prop) : Prop := (kd l0.1 = (1, 7)) ∧ ∀ h2 : xH, h2 = sI h l0 1 (3 : Int32) → ∀ h4 : xH, h4 = sI h2 l0 3 l1 → p_Ja_fill (hR h4 l0 0) (0 : Int32) h4 (fun h6 : xH => Q h6)
set_option maxRecDepth 100000 in
set_option maxHeartbeats 4000000 in
theorem t_Sl_holdCoins (l0 : xN) (l1 : Int32) (h : xH) (Q : xH → Prop) (H : p_Sl_holdCoins l0 l1 h Q) : WP M_Sl_holdCoins 0 [(0, xr l0), (1, xi l1)] [] h 0 (qv Q) := by
  unfold p_Sl_holdCoins at H
  refine wp_aload_n 0 rfl rfl dX8_holdCoins_0 ?_
  refine wp_iconst (3 : Int32) (by decide) dX8_holdCoins_1 ?_
  obtain ⟨q1, H⟩ := H
  refine wp_puti coX8 1 (Nat.le_of_ble_eq_true rfl) fl_X8_15 rfl rfl ⟨rfl, rfl⟩ q1 dX8_holdCoins_2 ?_
  refine wp_nh (fun h2 e3 => ?_)
  replace H := H h2 e3
  refine wp_aload_n 0 rfl rfl dX8_holdCoins_5 ?_
  refine wp_iload_n 1 rfl rfl dX8_holdCoins_6 ?_
  refine wp_puti coX8 3 (Nat.le_of_ble_eq_true rfl) fl_X8_22 rfl rfl ⟨rfl, rfl⟩ q1 dX8_holdCoins_7 ?_
  refine wp_nh (fun h4 e5 => ?_)
  replace H := H h4 e5
  refine wp_aload_n 0 rfl rfl dX8_holdCoins_10 ?_
  refine WP.at 11 rfl ?_
  refine wp_getr coX8 0 (Nat.le_of_ble_eq_true rfl) fl_X8_9 rfl q1 dX8_holdCoins_11 ?_
  refine wp_iconst (0 : Int32) (by decide) dX8_holdCoins_14 ?_
  refine WP.at 15 rfl ?_
  refine wp_cSv (M2 := M_Ja_fill) [xr (hR h4 l0 0), xi (0 : Int32)] rfl ls_X8_26 mo_Ja_fill (Nat.le_of_ble_eq_true rfl) ⟨(Nat.le_of_ble_eq_true rfl), (Nat.le_of_ble_eq_true rfl)⟩ (Nat.le_of_ble_eq_true rfl) (Nat.le_of_ble_eq_true rfl) dX8_holdCoins_15 (t_Ja_fill (hR h4 l0 0) (0 : Int32) _ _ H) (fun h6 H => ?_)
  exact wp_vret trivial dX8_holdCoins_18 H
def p_T_coins (l0 : xN) (l1 : Int32) (l2 : Int32) (l3 : Int32) (h : xH) (Q : Int32 → xH → Prop) : Prop := p_T_isWindow l1 h (fun (v2 : Int32) (h1 : xH) => ((¬ v2 = 0 → ((l3 ≤ (8 : Int32) → (kd l0.1 = (1, 9)) ∧ p_T_refuseSlip l0 l1 l2 h1 (fun (v7 : Int32) (h6 : xH) => ((v7 = 0 → ((0 ≤ l3 → (kd (hR h6 l0 3).1 = (5, 1)) ∧ (vp_in l1 (hS h6 (hR h6 l0 3) - 1)) ∧ (kd (hR h6 (hR h6 l0 3) l1.toNatClampNeg).1 = (1, 1)) ∧ (kd (hR h6 (hR h6 (hR h6 l0 3) l1.toNatClampNeg) 0).1 = (5, 7)) ∧ (vp_in l2 (hS h6 (hR h6 (hR h6 (hR h6 l0 3) l1.toNatClampNeg) 0) - 1)) ∧ (kd (hR h6 (hR h6 (hR h6 (hR h6 l0 3) l1.toNatClampNeg) 0) l2.toNatClampNeg).1 = (1, 7)) ∧ p_Sl_holdCoins (hR h6 (hR h6 (hR h6 (hR h6 l0 3) l1.toNatClampNeg) 0) l2.toNatClampNeg) l3 h6 (fun h16 : xH => Q l3 h16)) ∧ (¬ 0 ≤ l3 → p_T_found l0 (5 : Int32) h6 (fun (v18 : Int32) (h17 : xH) => Q v18 h17)))) ∧ (¬ v7 = 0 → Q v7 h6)))) ∧ (¬ l3 ≤ (8 : Int32) → Q (-3 : Int32) h1))) ∧ (v2 = 0 → Q (-2 : Int32) h1)))
set_option maxRecDepth 100000 in
set_option maxHeartbeats 4000000 in
theorem t_T_coins (l0 : xN) (l1 : Int32) (l2 : Int32) (l3 : Int32) (h : xH) (Q : Int32 → xH → Prop) (H : p_T_coins l0 l1 l2 l3 h Q) : WP M_T_coins 0 [(0, xr l0), (1, xi l1), (2, xi l2), (3, xi l3)] [] h 0 (qi Q) := by
  unfold p_T_coins at H
  refine wp_iload_n 1 rfl rfl dX10_coins_0 ?_
  refine WP.at 1 rfl ?_
  refine wp_cSi (M2 := M_T_isWindow) [xi l1] rfl ls_X10_162 mo_T_isWindow (Nat.le_of_ble_eq_true rfl) ⟨(Nat.le_of_ble_eq_true rfl), (Nat.le_of_ble_eq_true rfl)⟩ (Nat.le_of_ble_eq_true rfl) (Nat.le_of_ble_eq_true rfl) dX10_coins_1 (t_T_isWindow l1 _ _ H) (fun v2 h1 H => ?_)
  refine WP.at 4 rfl ?_
  refine wp_if_ne 10 (by decide) dX10_coins_4 (fun c3 => ?_) (fun c3 => ?_)
  · replace H := H.1 c3
    refine wp_iload_n 3 rfl rfl dX10_coins_10 ?_
    refine wp_bipush (8 : Int32) (by decide) dX10_coins_11 ?_
    refine WP.at 13 rfl ?_
    refine wp_icmp_le 19 (by decide) dX10_coins_13 (fun c4 => ?_) (fun c4 => ?_)
    · replace H := H.1 c4
      refine wp_aload_n 0 rfl rfl dX10_coins_19 ?_
      refine wp_iload_n 1 rfl rfl dX10_coins_20 ?_
      refine wp_iload_n 2 rfl rfl dX10_coins_21 ?_
      refine WP.at 22 rfl ?_
      obtain ⟨q5, H⟩ := H
      refine wp_cVi (M2 := M_T_refuseSlip) coX10 l0 q5 [xi l1, xi l2] rfl lv_X10_285 mo_T_refuseSlip (Nat.le_of_ble_eq_true rfl) ⟨(Nat.le_of_ble_eq_true rfl), (Nat.le_of_ble_eq_true rfl)⟩ (Nat.le_of_ble_eq_true rfl) (Nat.le_of_ble_eq_true rfl) dX10_coins_22 (t_T_refuseSlip l0 l1 l2 _ _ H) (fun v7 h6 H => ?_)
      refine wp_istore (Nat.le_of_ble_eq_true rfl) dX10_coins_25 (ls' := [(4, xi v7), (0, xr l0), (1, xi l1), (2, xi l2), (3, xi l3)]) rfl ?_
      refine wp_iload rfl dX10_coins_27 ?_
      refine WP.at 29 rfl ?_
      refine wp_if_eq 35 (by decide) dX10_coins_29 (fun c8 => ?_) (fun c8 => ?_)
      · replace H := H.1 c8
        refine wp_iload_n 3 rfl rfl dX10_coins_35 ?_
        refine WP.at 36 rfl ?_
        refine wp_if_ge 45 (by decide) dX10_coins_36 (fun c9 => ?_) (fun c9 => ?_)
        · replace H := H.1 c9
          refine wp_aload_n 0 rfl rfl dX10_coins_45 ?_
          refine wp_getr coX10 3 (Nat.le_of_ble_eq_true rfl) fl_X10_29 rfl q5 dX10_coins_46 ?_
          refine wp_iload_n 1 rfl rfl dX10_coins_49 ?_
          obtain ⟨q10, H⟩ := H
          obtain ⟨q11, H⟩ := H
          refine wp_aaload q10 q11 dX10_coins_50 ?_
          obtain ⟨q12, H⟩ := H
          refine wp_getr coX1 0 (Nat.le_of_ble_eq_true rfl) fl_X10_288 rfl q12 dX10_coins_51 ?_
          refine wp_iload_n 2 rfl rfl dX10_coins_54 ?_
          obtain ⟨q13, H⟩ := H
          obtain ⟨q14, H⟩ := H
          refine wp_aaload q13 q14 dX10_coins_55 ?_
          refine WP.at 56 rfl ?_
          refine wp_iload_n 3 rfl rfl dX10_coins_56 ?_
          refine WP.at 57 rfl ?_
          obtain ⟨q15, H⟩ := H
          refine wp_cVv (M2 := M_Sl_holdCoins) coX8 (hR h6 (hR h6 (hR h6 (hR h6 l0 3) l1.toNatClampNeg) 0) l2.toNatClampNeg) q15 [xi l3] rfl lv_X10_301 mo_Sl_holdCoins (Nat.le_of_ble_eq_true rfl) ⟨(Nat.le_of_ble_eq_true rfl), (Nat.le_of_ble_eq_true rfl)⟩ (Nat.le_of_ble_eq_true rfl) (Nat.le_of_ble_eq_true rfl) dX10_coins_57 (t_Sl_holdCoins (hR h6 (hR h6 (hR h6 (hR h6 l0 3) l1.toNatClampNeg) 0) l2.toNatClampNeg) l3 _ _ H) (fun h16 H => ?_)
          refine wp_iload_n 3 rfl rfl dX10_coins_60 ?_
          exact wp_iret trivial dX10_coins_61 H
        · replace H := H.2 c9
          refine wp_aload_n 0 rfl rfl dX10_coins_39 ?_
          refine wp_iconst (5 : Int32) (by decide) dX10_coins_40 ?_
          refine WP.at 41 rfl ?_
          refine wp_cVi (M2 := M_T_found) coX10 l0 q5 [xi (5 : Int32)] rfl lv_X10_272 mo_T_found (Nat.le_of_ble_eq_true rfl) ⟨(Nat.le_of_ble_eq_true rfl), (Nat.le_of_ble_eq_true rfl)⟩ (Nat.le_of_ble_eq_true rfl) (Nat.le_of_ble_eq_true rfl) dX10_coins_41 (t_T_found l0 (5 : Int32) _ _ H) (fun v18 h17 H => ?_)
          exact wp_iret trivial dX10_coins_44 H
      · replace H := H.2 c8
        refine wp_iload rfl dX10_coins_32 ?_
        exact wp_iret trivial dX10_coins_34 H
    · replace H := H.2 c4
      refine wp_bipush (-3 : Int32) (by decide) dX10_coins_16 ?_
      exact wp_iret trivial dX10_coins_18 H
  · replace H := H.2 c3
    refine wp_bipush (-2 : Int32) (by decide) dX10_coins_7 ?_
    exact wp_iret trivial dX10_coins_9 H
def p_M_coins_L83 (l0 : xN) (l3 : Int32) (l5 : Int32) (K83_109 : xH → Prop) (Q : Int32 → xH → Prop) : Nat → Int32 → xH → Prop
  | 0, _, _ => False
  | f + 1, l6, h => ((l3 ≤ l6 → K83_109 h) ∧ (¬ l3 ≤ l6 → (kd l0.1 = (1, 10)) ∧ (kd (hR h l0 57).1 = (2, 0)) ∧ (vp_in (((8 : Int32) * l5) + l6) (hS h (hR h l0 57) - 1)) ∧ ∀ h25 : xH, h25 = sI h (hR h l0 57) (((8 : Int32) * l5) + l6).toNatClampNeg (0 : Int32) → ∀ v27 : Int32, v27 = l6 + (1 : Int32) → (p_M_coins_L83 l0 l3 l5 K83_109 Q f) v27 h25))
set_option maxRecDepth 100000 in
set_option maxHeartbeats 4000000 in
theorem t_M_coins_L83 (l0 : xN) (l3 : Int32) (l5 : Int32) (K83_109 : xH → Prop) (Q : Int32 → xH → Prop) (hK83_109 : ∀ (h : xH), K83_109 h → WP M_M_coins 109 [(3, xi l3)] [] h 0 (qi Q)) : ∀ (f : Nat) (l6 : Int32) (h : xH), p_M_coins_L83 l0 l3 l5 K83_109 Q f l6 h → WP M_M_coins 83 [(0, xr l0), (3, xi l3), (5, xi l5), (6, xi l6)] [] h 0 (qi Q) := by
  intro f
  induction f with
  | zero => exact fun _ _ H => H.elim
  | succ f hB83 =>
    intro l6 h H
    unfold p_M_coins_L83 at H
    refine wp_iload rfl dX11_coins_83 ?_
    refine wp_iload_n 3 rfl rfl dX11_coins_85 ?_
    refine WP.at 86 rfl ?_
    refine wp_icmp_ge 109 (by decide) dX11_coins_86 (fun c21 => ?_) (fun c21 => ?_)
    · replace H := H.1 c21
      exact WP.pick [1] rfl (hK83_109 _ H)
    · replace H := H.2 c21
      refine wp_aload_n 0 rfl rfl dX11_coins_89 ?_
      obtain ⟨q22, H⟩ := H
      refine wp_getr coX11 57 (Nat.le_of_ble_eq_true rfl) fl_X11_140 rfl q22 dX11_coins_90 ?_
      refine wp_bipush (8 : Int32) (by decide) dX11_coins_93 ?_
      refine wp_iload rfl dX11_coins_95 ?_
      refine wp_imul dX11_coins_97 ?_
      refine wp_iload rfl dX11_coins_98 ?_
      refine wp_iadd dX11_coins_100 ?_
      refine WP.at 101 rfl ?_
      refine wp_iconst (0 : Int32) (by decide) dX11_coins_101 ?_
      obtain ⟨q23, H⟩ := H
      obtain ⟨q24, H⟩ := H
      refine wp_iastore q23 q24 dX11_coins_102 ?_
      refine wp_nh (fun h25 e26 => ?_)
      replace H := H h25 e26
      refine wp_iincN (1 : Int32) (by decide) rfl (Nat.le_of_ble_eq_true rfl) dX11_coins_103 (ls' := fun v27 => [(6, xi v27), (0, xr l0), (3, xi l3), (5, xi l5)]) (fun _ => rfl) (fun v27 e28 => ?_)
      replace H := H v27 e28
      refine WP.at 106 rfl ?_
      refine wp_goto 83 (by decide) dX11_coins_106 ?_
      exact WP.pick [1, 2, 3, 0] rfl (hB83 v27 _ H)
def p_M_coins_j42 (s0 : Int32) (l0 : xN) (l1 : Int32) (l2 : Int32) (l3 : Int32) (h : xH) (Q : Int32 → xH → Prop) : Prop := ((s0 ≤ 0 → ∀ v10 : Int32, v10 = ((12 : Int32) * l1) + l2 → (kd l0.1 = (1, 10)) ∧ (kd (hR h l0 53).1 = (2, 0)) ∧ (vp_in v10 (hS h (hR h l0 53) - 1)) ∧ ∀ h15 : xH, h15 = sI h (hR h l0 53) v10.toNatClampNeg (3 : Int32) → (kd (hR h15 l0 55).1 = (2, 0)) ∧ (vp_in v10 (hS h15 (hR h15 l0 55) - 1)) ∧ ∀ h19 : xH, h19 = sI h15 (hR h15 l0 55) v10.toNatClampNeg l3 → (∃ f30, p_M_coins_L83 l0 l3 v10 (fun (h29 : xH) => Q l3 h29) Q f30 (0 : Int32) h19)) ∧ (¬ s0 ≤ 0 → (kd l0.1 = (1, 10)) ∧ p_M_meets l0 s0 h (fun (v33 : Int32) (h32 : xH) => Q v33 h32)))
set_option maxRecDepth 100000 in
set_option maxHeartbeats 4000000 in
theorem t_M_coins_j42 (s0 : Int32) (l0 : xN) (l1 : Int32) (l2 : Int32) (l3 : Int32) (h : xH) (Q : Int32 → xH → Prop) (H : p_M_coins_j42 s0 l0 l1 l2 l3 h Q) : WP M_M_coins 42 [(0, xr l0), (1, xi l1), (2, xi l2), (3, xi l3)] [xi s0] h 0 (qi Q) := by
  unfold p_M_coins_j42 at H
  refine wp_istore (Nat.le_of_ble_eq_true rfl) dX11_coins_42 (ls' := [(4, xi s0), (0, xr l0), (1, xi l1), (2, xi l2), (3, xi l3)]) rfl ?_
  refine wp_iload rfl dX11_coins_44 ?_
  refine WP.at 46 rfl ?_
  refine wp_if_le 56 (by decide) dX11_coins_46 (fun c9 => ?_) (fun c9 => ?_)
  · replace H := H.1 c9
    refine wp_bipush (12 : Int32) (by decide) dX11_coins_56 ?_
    refine wp_iload_n 1 rfl rfl dX11_coins_58 ?_
    refine wp_imul dX11_coins_59 ?_
    refine wp_iload_n 2 rfl rfl dX11_coins_60 ?_
    refine wp_iadd dX11_coins_61 ?_
    refine wp_nm (fun v10 e11 => ?_)
    replace H := H v10 e11
    refine wp_istore (Nat.le_of_ble_eq_true rfl) dX11_coins_62 (ls' := [(5, xi v10), (4, xi s0), (0, xr l0), (1, xi l1), (2, xi l2), (3, xi l3)]) rfl ?_
    refine wp_aload_n 0 rfl rfl dX11_coins_64 ?_
    refine WP.at 65 rfl ?_
    obtain ⟨q12, H⟩ := H
    refine wp_getr coX11 53 (Nat.le_of_ble_eq_true rfl) fl_X11_128 rfl q12 dX11_coins_65 ?_
    refine wp_iload rfl dX11_coins_68 ?_
    refine wp_iconst (3 : Int32) (by decide) dX11_coins_70 ?_
    obtain ⟨q13, H⟩ := H
    obtain ⟨q14, H⟩ := H
    refine wp_iastore q13 q14 dX11_coins_71 ?_
    refine wp_nh (fun h15 e16 => ?_)
    replace H := H h15 e16
    refine wp_aload_n 0 rfl rfl dX11_coins_72 ?_
    refine wp_getr coX11 55 (Nat.le_of_ble_eq_true rfl) fl_X11_134 rfl q12 dX11_coins_73 ?_
    refine wp_iload rfl dX11_coins_76 ?_
    refine wp_iload_n 3 rfl rfl dX11_coins_78 ?_
    refine WP.at 79 rfl ?_
    obtain ⟨q17, H⟩ := H
    obtain ⟨q18, H⟩ := H
    refine wp_iastore q17 q18 dX11_coins_79 ?_
    refine wp_nh (fun h19 e20 => ?_)
    replace H := H h19 e20
    refine wp_iconst (0 : Int32) (by decide) dX11_coins_80 ?_
    refine wp_istore (Nat.le_of_ble_eq_true rfl) dX11_coins_81 (ls' := [(6, xi (0 : Int32)), (5, xi v10), (4, xi s0), (0, xr l0), (1, xi l1), (2, xi l2), (3, xi l3)]) rfl ?_
    refine WP.at 83 rfl ?_
    obtain ⟨f30, H⟩ := H
    refine WP.pick [3, 6, 1, 0] rfl (t_M_coins_L83 l0 l3 v10 _ Q ?_ f30 (0 : Int32) _ H)
    · intro h29 H
      refine wp_iload_n 3 rfl rfl dX11_coins_109 ?_
      exact wp_iret trivial dX11_coins_110 H
  · replace H := H.2 c9
    refine wp_aload_n 0 rfl rfl dX11_coins_49 ?_
    refine wp_iload rfl dX11_coins_50 ?_
    refine WP.at 52 rfl ?_
    obtain ⟨q31, H⟩ := H
    refine wp_cVi (M2 := M_M_meets) coX11 l0 q31 [xi s0] rfl lv_X11_316 mo_M_meets (Nat.le_of_ble_eq_true rfl) ⟨(Nat.le_of_ble_eq_true rfl), (Nat.le_of_ble_eq_true rfl)⟩ (Nat.le_of_ble_eq_true rfl) (Nat.le_of_ble_eq_true rfl) dX11_coins_52 (t_M_meets l0 s0 _ _ H) (fun v33 h32 H => ?_)
    exact wp_iret trivial dX11_coins_55 H
def p_M_coins (l0 : xN) (l1 : Int32) (l2 : Int32) (l3 : Int32) (h : xH) (Q : Int32 → xH → Prop) : Prop := p_M_isWindow l1 h (fun (v2 : Int32) (h1 : xH) => ((¬ v2 = 0 → ((l3 ≤ (8 : Int32) → (kd l0.1 = (1, 10)) ∧ p_M_lacks l0 l1 l2 h1 (fun (v7 : Int32) (h6 : xH) => ((¬ v7 = 0 → p_M_coins_j42 v7 l0 l1 l2 l3 h6 Q) ∧ (v7 = 0 → ((0 ≤ l3 → p_M_coins_j42 v7 l0 l1 l2 l3 h6 Q) ∧ (¬ 0 ≤ l3 → p_M_coins_j42 (5 : Int32) l0 l1 l2 l3 h6 Q)))))) ∧ (¬ l3 ≤ (8 : Int32) → Q (-3 : Int32) h1))) ∧ (v2 = 0 → Q (-2 : Int32) h1)))
set_option maxRecDepth 100000 in
set_option maxHeartbeats 4000000 in
theorem t_M_coins (l0 : xN) (l1 : Int32) (l2 : Int32) (l3 : Int32) (h : xH) (Q : Int32 → xH → Prop) (H : p_M_coins l0 l1 l2 l3 h Q) : WP M_M_coins 0 [(0, xr l0), (1, xi l1), (2, xi l2), (3, xi l3)] [] h 0 (qi Q) := by
  unfold p_M_coins at H
  refine wp_iload_n 1 rfl rfl dX11_coins_0 ?_
  refine WP.at 1 rfl ?_
  refine wp_cSi (M2 := M_M_isWindow) [xi l1] rfl ls_X11_326 mo_M_isWindow (Nat.le_of_ble_eq_true rfl) ⟨(Nat.le_of_ble_eq_true rfl), (Nat.le_of_ble_eq_true rfl)⟩ (Nat.le_of_ble_eq_true rfl) (Nat.le_of_ble_eq_true rfl) dX11_coins_1 (t_M_isWindow l1 _ _ H) (fun v2 h1 H => ?_)
  refine WP.at 4 rfl ?_
  refine wp_if_ne 10 (by decide) dX11_coins_4 (fun c3 => ?_) (fun c3 => ?_)
  · replace H := H.1 c3
    refine wp_iload_n 3 rfl rfl dX11_coins_10 ?_
    refine wp_bipush (8 : Int32) (by decide) dX11_coins_11 ?_
    refine WP.at 13 rfl ?_
    refine wp_icmp_le 19 (by decide) dX11_coins_13 (fun c4 => ?_) (fun c4 => ?_)
    · replace H := H.1 c4
      refine wp_aload_n 0 rfl rfl dX11_coins_19 ?_
      refine wp_iload_n 1 rfl rfl dX11_coins_20 ?_
      refine wp_iload_n 2 rfl rfl dX11_coins_21 ?_
      refine WP.at 22 rfl ?_
      obtain ⟨q5, H⟩ := H
      refine wp_cVi (M2 := M_M_lacks) coX11 l0 q5 [xi l1, xi l2] rfl lv_X11_329 mo_M_lacks (Nat.le_of_ble_eq_true rfl) ⟨(Nat.le_of_ble_eq_true rfl), (Nat.le_of_ble_eq_true rfl)⟩ (Nat.le_of_ble_eq_true rfl) (Nat.le_of_ble_eq_true rfl) dX11_coins_22 (t_M_lacks l0 l1 l2 _ _ H) (fun v7 h6 H => ?_)
      refine wp_istore (Nat.le_of_ble_eq_true rfl) dX11_coins_25 (ls' := [(4, xi v7), (0, xr l0), (1, xi l1), (2, xi l2), (3, xi l3)]) rfl ?_
      refine wp_iload rfl dX11_coins_27 ?_
      refine WP.at 29 rfl ?_
      refine wp_if_ne 40 (by decide) dX11_coins_29 (fun c8 => ?_) (fun c8 => ?_)
      · replace H := H.1 c8
        refine wp_iload rfl dX11_coins_40 ?_
        refine WP.at 42 rfl ?_
        exact WP.pick [1, 2, 3, 4] rfl (t_M_coins_j42 v7 l0 l1 l2 l3 _ _ H)
      · replace H := H.2 c8
        refine wp_iload_n 3 rfl rfl dX11_coins_32 ?_
        refine WP.at 33 rfl ?_
        refine wp_if_ge 40 (by decide) dX11_coins_33 (fun c34 => ?_) (fun c34 => ?_)
        · replace H := H.1 c34
          refine wp_iload rfl dX11_coins_40 ?_
          refine WP.at 42 rfl ?_
          exact WP.pick [1, 2, 3, 4] rfl (t_M_coins_j42 v7 l0 l1 l2 l3 _ _ H)
        · replace H := H.2 c34
          refine wp_iconst (5 : Int32) (by decide) dX11_coins_36 ?_
          refine WP.at 37 rfl ?_
          refine wp_goto 42 (by decide) dX11_coins_37 ?_
          exact WP.pick [1, 2, 3, 4] rfl (t_M_coins_j42 (5 : Int32) l0 l1 l2 l3 _ _ H)
    · replace H := H.2 c4
      refine wp_bipush (-3 : Int32) (by decide) dX11_coins_16 ?_
      exact wp_iret trivial dX11_coins_18 H
  · replace H := H.2 c3
    refine wp_bipush (-2 : Int32) (by decide) dX11_coins_7 ?_
    exact wp_iret trivial dX11_coins_9 H
def p_T_kindOf (l0 : xN) (l1 : xN) (h : xH) (Q : Int32 → xH → Prop) : Prop := (kd l1.1 = (1, 7)) ∧ (kd l0.1 = (1, 9)) ∧ p_T_findTicket l0 (hI h l1 2) h (fun (v4 : xN) (h3 : xH) => (((hI h3 l1 1) = (1 : Int32) → ((¬ v4.1 = 0 → (kd v4.1 = (1, 8)) ∧ (kd (hR h3 v4 0).1 = (1, 3)) ∧ Q (hI h3 (hR h3 v4 0) 1) h3) ∧ (v4.1 = 0 → Q (-1 : Int32) h3))) ∧ ((hI h3 l1 1) = (2 : Int32) → Q (5 : Int32) h3) ∧ ((hI h3 l1 1) = (3 : Int32) → Q (6 : Int32) h3) ∧ ((∀ q ∈ ([(1 : Int32), (2 : Int32), (3 : Int32)] : List Int32), (hI h3 l1 1) ≠ q) → Q (-1 : Int32) h3)))
set_option maxRecDepth 100000 in
set_option maxHeartbeats 4000000 in
theorem t_T_kindOf (l0 : xN) (l1 : xN) (h : xH) (Q : Int32 → xH → Prop) (H : p_T_kindOf l0 l1 h Q) : WP M_T_kindOf 0 [(0, xr l0), (1, xr l1)] [] h 0 (qi Q) := by
  unfold p_T_kindOf at H
  refine wp_aload_n 0 rfl rfl dX10_kindOf_0 ?_
  refine wp_aload_n 1 rfl rfl dX10_kindOf_1 ?_
  obtain ⟨q1, H⟩ := H
  refine wp_geti coX8 2 (Nat.le_of_ble_eq_true rfl) fl_X10_314 rfl q1 dX10_kindOf_2 ?_
  refine WP.at 5 rfl ?_
  obtain ⟨q2, H⟩ := H
  refine wp_cVr (M2 := M_T_findTicket) coX10 l0 q2 [xi (hI h l1 2)] rfl lv_X10_187 mo_T_findTicket (Nat.le_of_ble_eq_true rfl) ⟨(Nat.le_of_ble_eq_true rfl), (Nat.le_of_ble_eq_true rfl)⟩ (Nat.le_of_ble_eq_true rfl) (Nat.le_of_ble_eq_true rfl) dX10_kindOf_5 (t_T_findTicket l0 (hI h l1 2) _ _ H) (fun v4 h3 H => ?_)
  refine wp_astore_n 2 rfl (Nat.le_of_ble_eq_true rfl) dX10_kindOf_8 (ls' := [(2, xr v4), (0, xr l0), (1, xr l1)]) rfl ?_
  refine wp_aload_n 1 rfl rfl dX10_kindOf_9 ?_
  refine wp_geti coX8 1 (Nat.le_of_ble_eq_true rfl) fl_X10_441 rfl q1 dX10_kindOf_10 ?_
  refine WP.at 13 rfl ?_
  refine WP.at 13 rfl ?_
  refine wp_tsw dX10_kindOf_13 [((1 : Int32), 40), ((2 : Int32), 56), ((3 : Int32), 58)] 61 (by decide) (by decide +kernel) (by decide +kernel) ?_ ?_
  · refine List.forall_mem_cons.mpr ⟨fun c0 => ?_, List.forall_mem_cons.mpr ⟨fun c0 => ?_, List.forall_mem_cons.mpr ⟨fun c0 => ?_, fun _ z => absurd z List.not_mem_nil⟩⟩⟩
    · replace H := H.1 c0
      refine wp_aload_n 2 rfl rfl dX10_kindOf_40 ?_
      refine WP.at 41 rfl ?_
      refine wp_ifnonnull 48 (by decide) dX10_kindOf_41 (fun c5 => ?_) (fun c5 => ?_)
      · replace H := H.1 c5
        refine wp_aload_n 2 rfl rfl dX10_kindOf_48 ?_
        obtain ⟨q6, H⟩ := H
        refine wp_getr coX9 0 (Nat.le_of_ble_eq_true rfl) fl_X10_191 rfl q6 dX10_kindOf_49 ?_
        obtain ⟨q7, H⟩ := H
        refine wp_geti coX4 1 (Nat.le_of_ble_eq_true rfl) fl_X10_242 rfl q7 dX10_kindOf_52 ?_
        exact wp_iret trivial dX10_kindOf_55 H
      · replace H := H.2 c5
        refine wp_iconst (-1 : Int32) (by decide) dX10_kindOf_44 ?_
        refine WP.at 45 rfl ?_
        refine wp_goto 55 (by decide) dX10_kindOf_45 ?_
        exact wp_iret trivial dX10_kindOf_55 H
    · replace H := H.2.1 c0
      refine wp_iconst (5 : Int32) (by decide) dX10_kindOf_56 ?_
      exact wp_iret trivial dX10_kindOf_57 H
    · replace H := H.2.2.1 c0
      refine wp_bipush (6 : Int32) (by decide) dX10_kindOf_58 ?_
      exact wp_iret trivial dX10_kindOf_60 H
  · intro c0
    replace H := H.2.2.2 c0
    refine wp_iconst (-1 : Int32) (by decide) dX10_kindOf_61 ?_
    exact wp_iret trivial dX10_kindOf_62 H
def p_T_clear (l0 : xN) (l1 : Int32) (l2 : Int32) (h : xH) (Q : Int32 → xH → Prop) : Prop := (kd l0.1 = (1, 9)) ∧ p_T_refuseSlip l0 l1 l2 h (fun (v3 : Int32) (h2 : xH) => ((v3 = 0 → (kd (hR h2 l0 3).1 = (5, 1)) ∧ (vp_in l1 (hS h2 (hR h2 l0 3) - 1)) ∧ (kd (hR h2 (hR h2 l0 3) l1.toNatClampNeg).1 = (1, 1)) ∧ (kd (hR h2 (hR h2 (hR h2 l0 3) l1.toNatClampNeg) 0).1 = (5, 7)) ∧ (vp_in l2 (hS h2 (hR h2 (hR h2 (hR h2 l0 3) l1.toNatClampNeg) 0) - 1)) ∧ p_T_kindOf l0 (hR h2 (hR h2 (hR h2 (hR h2 l0 3) l1.toNatClampNeg) 0) l2.toNatClampNeg) h2 (fun (v11 : Int32) (h10 : xH) => (kd (hR h10 l0 3).1 = (5, 1)) ∧ (vp_in l1 (hS h10 (hR h10 l0 3) - 1)) ∧ (kd (hR h10 (hR h10 l0 3) l1.toNatClampNeg).1 = (1, 1)) ∧ (kd (hR h10 (hR h10 (hR h10 l0 3) l1.toNatClampNeg) 0).1 = (5, 7)) ∧ (vp_in l2 (hS h10 (hR h10 (hR h10 (hR h10 l0 3) l1.toNatClampNeg) 0) - 1)) ∧ (kd (hR h10 (hR h10 (hR h10 (hR h10 l0 3) l1.toNatClampNeg) 0) l2.toNatClampNeg).1 = (1, 7)) ∧ p_Sl_holdNothing (hR h10 (hR h10 (hR h10 (hR h10 l0 3) l1.toNatClampNeg) 0) l2.toNatClampNeg) h10 (fun h18 : xH => Q v11 h18))) ∧ (¬ v3 = 0 → Q v3 h2)))
set_option maxRecDepth 100000 in
set_option maxHeartbeats 4000000 in
theorem t_T_clear (l0 : xN) (l1 : Int32) (l2 : Int32) (h : xH) (Q : Int32 → xH → Prop) (H : p_T_clear l0 l1 l2 h Q) : WP M_T_clear 0 [(0, xr l0), (1, xi l1), (2, xi l2)] [] h 0 (qi Q) := by
  unfold p_T_clear at H
  refine wp_aload_n 0 rfl rfl dX10_clear_0 ?_
  refine wp_iload_n 1 rfl rfl dX10_clear_1 ?_
  refine wp_iload_n 2 rfl rfl dX10_clear_2 ?_
  refine WP.at 3 rfl ?_
  obtain ⟨q1, H⟩ := H
  refine wp_cVi (M2 := M_T_refuseSlip) coX10 l0 q1 [xi l1, xi l2] rfl lv_X10_285 mo_T_refuseSlip (Nat.le_of_ble_eq_true rfl) ⟨(Nat.le_of_ble_eq_true rfl), (Nat.le_of_ble_eq_true rfl)⟩ (Nat.le_of_ble_eq_true rfl) (Nat.le_of_ble_eq_true rfl) dX10_clear_3 (t_T_refuseSlip l0 l1 l2 _ _ H) (fun v3 h2 H => ?_)
  refine wp_istore_n 3 rfl (Nat.le_of_ble_eq_true rfl) dX10_clear_6 (ls' := [(3, xi v3), (0, xr l0), (1, xi l1), (2, xi l2)]) rfl ?_
  refine wp_iload_n 3 rfl rfl dX10_clear_7 ?_
  refine WP.at 8 rfl ?_
  refine wp_if_eq 13 (by decide) dX10_clear_8 (fun c4 => ?_) (fun c4 => ?_)
  · replace H := H.1 c4
    refine wp_aload_n 0 rfl rfl dX10_clear_13 ?_
    refine wp_aload_n 0 rfl rfl dX10_clear_14 ?_
    refine wp_getr coX10 3 (Nat.le_of_ble_eq_true rfl) fl_X10_29 rfl q1 dX10_clear_15 ?_
    refine wp_iload_n 1 rfl rfl dX10_clear_18 ?_
    obtain ⟨q5, H⟩ := H
    obtain ⟨q6, H⟩ := H
    refine wp_aaload q5 q6 dX10_clear_19 ?_
    obtain ⟨q7, H⟩ := H
    refine wp_getr coX1 0 (Nat.le_of_ble_eq_true rfl) fl_X10_288 rfl q7 dX10_clear_20 ?_
    refine wp_iload_n 2 rfl rfl dX10_clear_23 ?_
    refine WP.at 24 rfl ?_
    obtain ⟨q8, H⟩ := H
    obtain ⟨q9, H⟩ := H
    refine wp_aaload q8 q9 dX10_clear_24 ?_
    refine WP.at 25 rfl ?_
    refine wp_cVi (M2 := M_T_kindOf) coX10 l0 q1 [xr (hR h2 (hR h2 (hR h2 (hR h2 l0 3) l1.toNatClampNeg) 0) l2.toNatClampNeg)] rfl lv_X10_304 mo_T_kindOf (Nat.le_of_ble_eq_true rfl) ⟨(Nat.le_of_ble_eq_true rfl), (Nat.le_of_ble_eq_true rfl)⟩ (Nat.le_of_ble_eq_true rfl) (Nat.le_of_ble_eq_true rfl) dX10_clear_25 (t_T_kindOf l0 (hR h2 (hR h2 (hR h2 (hR h2 l0 3) l1.toNatClampNeg) 0) l2.toNatClampNeg) _ _ H) (fun v11 h10 H => ?_)
    refine wp_istore (Nat.le_of_ble_eq_true rfl) dX10_clear_28 (ls' := [(4, xi v11), (3, xi v3), (0, xr l0), (1, xi l1), (2, xi l2)]) rfl ?_
    refine wp_aload_n 0 rfl rfl dX10_clear_30 ?_
    refine wp_getr coX10 3 (Nat.le_of_ble_eq_true rfl) fl_X10_29 rfl q1 dX10_clear_31 ?_
    refine wp_iload_n 1 rfl rfl dX10_clear_34 ?_
    obtain ⟨q12, H⟩ := H
    obtain ⟨q13, H⟩ := H
    refine wp_aaload q12 q13 dX10_clear_35 ?_
    obtain ⟨q14, H⟩ := H
    refine wp_getr coX1 0 (Nat.le_of_ble_eq_true rfl) fl_X10_288 rfl q14 dX10_clear_36 ?_
    refine WP.at 39 rfl ?_
    refine wp_iload_n 2 rfl rfl dX10_clear_39 ?_
    obtain ⟨q15, H⟩ := H
    obtain ⟨q16, H⟩ := H
    refine wp_aaload q15 q16 dX10_clear_40 ?_
    refine WP.at 41 rfl ?_
    obtain ⟨q17, H⟩ := H
    refine wp_cVv (M2 := M_Sl_holdNothing) coX8 (hR h10 (hR h10 (hR h10 (hR h10 l0 3) l1.toNatClampNeg) 0) l2.toNatClampNeg) q17 [] rfl lv_X10_308 mo_Sl_holdNothing (Nat.le_of_ble_eq_true rfl) ⟨(Nat.le_of_ble_eq_true rfl), (Nat.le_of_ble_eq_true rfl)⟩ (Nat.le_of_ble_eq_true rfl) (Nat.le_of_ble_eq_true rfl) dX10_clear_41 (t_Sl_holdNothing (hR h10 (hR h10 (hR h10 (hR h10 l0 3) l1.toNatClampNeg) 0) l2.toNatClampNeg) _ _ H) (fun h18 H => ?_)
    refine wp_iload rfl dX10_clear_44 ?_
    exact wp_iret trivial dX10_clear_46 H
  · replace H := H.2 c4
    refine wp_iload_n 3 rfl rfl dX10_clear_11 ?_
    exact wp_iret trivial dX10_clear_12 H
def p_M_kindAt (l0 : xN) (l1 : Int32) (h : xH) (Q : Int32 → xH → Prop) : Prop := (kd l0.1 = (1, 10)) ∧ (kd (hR h l0 53).1 = (2, 0)) ∧ (vp_in l1 (hS h (hR h l0 53) - 1)) ∧ ((¬ (hI h (hR h l0 53) l1.toNatClampNeg) = 0 → (vp_in l1 (hS h (hR h l0 53) - 1)) ∧ ((¬ (hI h (hR h l0 53) l1.toNatClampNeg) = (1 : Int32) → (vp_in l1 (hS h (hR h l0 53) - 1)) ∧ ((¬ (hI h (hR h l0 53) l1.toNatClampNeg) = (2 : Int32) → Q (6 : Int32) h) ∧ ((hI h (hR h l0 53) l1.toNatClampNeg) = (2 : Int32) → Q (5 : Int32) h))) ∧ ((hI h (hR h l0 53) l1.toNatClampNeg) = (1 : Int32) → (kd (hR h l0 54).1 = (2, 0)) ∧ (vp_in l1 (hS h (hR h l0 54) - 1)) ∧ (kd (hR h l0 24).1 = (2, 0)) ∧ (vp_in (hI h (hR h l0 54) l1.toNatClampNeg) (hS h (hR h l0 24) - 1)) ∧ p_M_kindOf (hI h (hR h l0 24) (hI h (hR h l0 54) l1.toNatClampNeg).toNatClampNeg) h (fun (v14 : Int32) (h13 : xH) => Q v14 h13)))) ∧ ((hI h (hR h l0 53) l1.toNatClampNeg) = 0 → Q (-1 : Int32) h))
set_option maxRecDepth 100000 in
set_option maxHeartbeats 4000000 in
theorem t_M_kindAt (l0 : xN) (l1 : Int32) (h : xH) (Q : Int32 → xH → Prop) (H : p_M_kindAt l0 l1 h Q) : WP M_M_kindAt 0 [(0, xr l0), (1, xi l1)] [] h 0 (qi Q) := by
  unfold p_M_kindAt at H
  refine wp_aload_n 0 rfl rfl dX11_kindAt_0 ?_
  obtain ⟨q1, H⟩ := H
  refine wp_getr coX11 53 (Nat.le_of_ble_eq_true rfl) fl_X11_128 rfl q1 dX11_kindAt_1 ?_
  refine wp_iload_n 1 rfl rfl dX11_kindAt_4 ?_
  obtain ⟨q2, H⟩ := H
  obtain ⟨q3, H⟩ := H
  refine wp_iaload q2 q3 dX11_kindAt_5 ?_
  refine WP.at 6 rfl ?_
  refine wp_if_ne 13 (by decide) dX11_kindAt_6 (fun c4 => ?_) (fun c4 => ?_)
  · replace H := H.1 c4
    refine wp_aload_n 0 rfl rfl dX11_kindAt_13 ?_
    refine wp_getr coX11 53 (Nat.le_of_ble_eq_true rfl) fl_X11_128 rfl q1 dX11_kindAt_14 ?_
    refine wp_iload_n 1 rfl rfl dX11_kindAt_17 ?_
    obtain ⟨q5, H⟩ := H
    refine wp_iaload q2 q5 dX11_kindAt_18 ?_
    refine wp_iconst (1 : Int32) (by decide) dX11_kindAt_19 ?_
    refine WP.at 20 rfl ?_
    refine wp_icmp_ne 40 (by decide) dX11_kindAt_20 (fun c6 => ?_) (fun c6 => ?_)
    · replace H := H.1 c6
      refine wp_aload_n 0 rfl rfl dX11_kindAt_40 ?_
      refine wp_getr coX11 53 (Nat.le_of_ble_eq_true rfl) fl_X11_128 rfl q1 dX11_kindAt_41 ?_
      refine wp_iload_n 1 rfl rfl dX11_kindAt_44 ?_
      obtain ⟨q7, H⟩ := H
      refine wp_iaload q2 q7 dX11_kindAt_45 ?_
      refine wp_iconst (2 : Int32) (by decide) dX11_kindAt_46 ?_
      refine WP.at 47 rfl ?_
      refine wp_icmp_ne 54 (by decide) dX11_kindAt_47 (fun c8 => ?_) (fun c8 => ?_)
      · replace H := H.1 c8
        refine wp_bipush (6 : Int32) (by decide) dX11_kindAt_54 ?_
        exact wp_iret trivial dX11_kindAt_56 H
      · replace H := H.2 c8
        refine wp_iconst (5 : Int32) (by decide) dX11_kindAt_50 ?_
        refine WP.at 51 rfl ?_
        refine wp_goto 56 (by decide) dX11_kindAt_51 ?_
        exact wp_iret trivial dX11_kindAt_56 H
    · replace H := H.2 c6
      refine wp_aload_n 0 rfl rfl dX11_kindAt_23 ?_
      refine wp_getr coX11 24 (Nat.le_of_ble_eq_true rfl) fl_X11_68 rfl q1 dX11_kindAt_24 ?_
      refine wp_aload_n 0 rfl rfl dX11_kindAt_27 ?_
      refine wp_getr coX11 54 (Nat.le_of_ble_eq_true rfl) fl_X11_131 rfl q1 dX11_kindAt_28 ?_
      refine wp_iload_n 1 rfl rfl dX11_kindAt_31 ?_
      obtain ⟨q9, H⟩ := H
      obtain ⟨q10, H⟩ := H
      refine wp_iaload q9 q10 dX11_kindAt_32 ?_
      obtain ⟨q11, H⟩ := H
      obtain ⟨q12, H⟩ := H
      refine wp_iaload q11 q12 dX11_kindAt_33 ?_
      refine WP.at 34 rfl ?_
      refine WP.at 34 rfl ?_
      refine wp_cSi (M2 := M_M_kindOf) [xi (hI h (hR h l0 24) (hI h (hR h l0 54) l1.toNatClampNeg).toNatClampNeg)] rfl ls_X11_218 mo_M_kindOf (Nat.le_of_ble_eq_true rfl) ⟨(Nat.le_of_ble_eq_true rfl), (Nat.le_of_ble_eq_true rfl)⟩ (Nat.le_of_ble_eq_true rfl) (Nat.le_of_ble_eq_true rfl) dX11_kindAt_34 (t_M_kindOf (hI h (hR h l0 24) (hI h (hR h l0 54) l1.toNatClampNeg).toNatClampNeg) _ _ H) (fun v14 h13 H => ?_)
      refine WP.at 37 rfl ?_
      refine wp_goto 56 (by decide) dX11_kindAt_37 ?_
      exact wp_iret trivial dX11_kindAt_56 H
  · replace H := H.2 c4
    refine wp_iconst (-1 : Int32) (by decide) dX11_kindAt_9 ?_
    refine WP.at 10 rfl ?_
    refine wp_goto 56 (by decide) dX11_kindAt_10 ?_
    exact wp_iret trivial dX11_kindAt_56 H
def p_M_clear (l0 : xN) (l1 : Int32) (l2 : Int32) (h : xH) (Q : Int32 → xH → Prop) : Prop := p_M_isWindow l1 h (fun (v2 : Int32) (h1 : xH) => ((¬ v2 = 0 → (kd l0.1 = (1, 10)) ∧ p_M_lacks l0 l1 l2 h1 (fun (v6 : Int32) (h5 : xH) => ((v6 ≤ 0 → p_M_kindAt l0 (((12 : Int32) * l1) + l2) h5 (fun (v9 : Int32) (h8 : xH) => (kd (hR h8 l0 53).1 = (2, 0)) ∧ (vp_in (((12 : Int32) * l1) + l2) (hS h8 (hR h8 l0 53) - 1)) ∧ ∀ h12 : xH, h12 = sI h8 (hR h8 l0 53) (((12 : Int32) * l1) + l2).toNatClampNeg (0 : Int32) → Q v9 h12)) ∧ (¬ v6 ≤ 0 → p_M_meets l0 v6 h5 (fun (v15 : Int32) (h14 : xH) => Q v15 h14))))) ∧ (v2 = 0 → Q (-2 : Int32) h1)))
set_option maxRecDepth 100000 in
set_option maxHeartbeats 4000000 in
theorem t_M_clear (l0 : xN) (l1 : Int32) (l2 : Int32) (h : xH) (Q : Int32 → xH → Prop) (H : p_M_clear l0 l1 l2 h Q) : WP M_M_clear 0 [(0, xr l0), (1, xi l1), (2, xi l2)] [] h 0 (qi Q) := by
  unfold p_M_clear at H
  refine wp_iload_n 1 rfl rfl dX11_clear_0 ?_
  refine WP.at 1 rfl ?_
  refine wp_cSi (M2 := M_M_isWindow) [xi l1] rfl ls_X11_326 mo_M_isWindow (Nat.le_of_ble_eq_true rfl) ⟨(Nat.le_of_ble_eq_true rfl), (Nat.le_of_ble_eq_true rfl)⟩ (Nat.le_of_ble_eq_true rfl) (Nat.le_of_ble_eq_true rfl) dX11_clear_1 (t_M_isWindow l1 _ _ H) (fun v2 h1 H => ?_)
  refine WP.at 4 rfl ?_
  refine wp_if_ne 10 (by decide) dX11_clear_4 (fun c3 => ?_) (fun c3 => ?_)
  · replace H := H.1 c3
    refine wp_aload_n 0 rfl rfl dX11_clear_10 ?_
    refine wp_iload_n 1 rfl rfl dX11_clear_11 ?_
    refine wp_iload_n 2 rfl rfl dX11_clear_12 ?_
    refine WP.at 13 rfl ?_
    obtain ⟨q4, H⟩ := H
    refine wp_cVi (M2 := M_M_lacks) coX11 l0 q4 [xi l1, xi l2] rfl lv_X11_329 mo_M_lacks (Nat.le_of_ble_eq_true rfl) ⟨(Nat.le_of_ble_eq_true rfl), (Nat.le_of_ble_eq_true rfl)⟩ (Nat.le_of_ble_eq_true rfl) (Nat.le_of_ble_eq_true rfl) dX11_clear_13 (t_M_lacks l0 l1 l2 _ _ H) (fun v6 h5 H => ?_)
    refine wp_istore_n 3 rfl (Nat.le_of_ble_eq_true rfl) dX11_clear_16 (ls' := [(3, xi v6), (0, xr l0), (1, xi l1), (2, xi l2)]) rfl ?_
    refine wp_iload_n 3 rfl rfl dX11_clear_17 ?_
    refine WP.at 18 rfl ?_
    refine wp_if_le 27 (by decide) dX11_clear_18 (fun c7 => ?_) (fun c7 => ?_)
    · replace H := H.1 c7
      refine wp_aload_n 0 rfl rfl dX11_clear_27 ?_
      refine wp_bipush (12 : Int32) (by decide) dX11_clear_28 ?_
      refine wp_iload_n 1 rfl rfl dX11_clear_30 ?_
      refine wp_imul dX11_clear_31 ?_
      refine wp_iload_n 2 rfl rfl dX11_clear_32 ?_
      refine wp_iadd dX11_clear_33 ?_
      refine WP.at 34 rfl ?_
      refine wp_cVi (M2 := M_M_kindAt) coX11 l0 q4 [xi (((12 : Int32) * l1) + l2)] rfl lv_X11_334 mo_M_kindAt (Nat.le_of_ble_eq_true rfl) ⟨(Nat.le_of_ble_eq_true rfl), (Nat.le_of_ble_eq_true rfl)⟩ (Nat.le_of_ble_eq_true rfl) (Nat.le_of_ble_eq_true rfl) dX11_clear_34 (t_M_kindAt l0 (((12 : Int32) * l1) + l2) _ _ H) (fun v9 h8 H => ?_)
      refine WP.at 37 rfl ?_
      refine wp_istore (Nat.le_of_ble_eq_true rfl) dX11_clear_37 (ls' := [(4, xi v9), (3, xi v6), (0, xr l0), (1, xi l1), (2, xi l2)]) rfl ?_
      refine wp_aload_n 0 rfl rfl dX11_clear_39 ?_
      refine wp_getr coX11 53 (Nat.le_of_ble_eq_true rfl) fl_X11_128 rfl q4 dX11_clear_40 ?_
      refine wp_bipush (12 : Int32) (by decide) dX11_clear_43 ?_
      refine wp_iload_n 1 rfl rfl dX11_clear_45 ?_
      refine wp_imul dX11_clear_46 ?_
      refine wp_iload_n 2 rfl rfl dX11_clear_47 ?_
      refine wp_iadd dX11_clear_48 ?_
      refine WP.at 49 rfl ?_
      refine wp_iconst (0 : Int32) (by decide) dX11_clear_49 ?_
      obtain ⟨q10, H⟩ := H
      obtain ⟨q11, H⟩ := H
      refine wp_iastore q10 q11 dX11_clear_50 ?_
      refine wp_nh (fun h12 e13 => ?_)
      replace H := H h12 e13
      refine wp_iload rfl dX11_clear_51 ?_
      exact wp_iret trivial dX11_clear_53 H
    · replace H := H.2 c7
      refine wp_aload_n 0 rfl rfl dX11_clear_21 ?_
      refine wp_iload_n 3 rfl rfl dX11_clear_22 ?_
      refine WP.at 23 rfl ?_
      refine wp_cVi (M2 := M_M_meets) coX11 l0 q4 [xi v6] rfl lv_X11_316 mo_M_meets (Nat.le_of_ble_eq_true rfl) ⟨(Nat.le_of_ble_eq_true rfl), (Nat.le_of_ble_eq_true rfl)⟩ (Nat.le_of_ble_eq_true rfl) (Nat.le_of_ble_eq_true rfl) dX11_clear_23 (t_M_meets l0 v6 _ _ H) (fun v15 h14 H => ?_)
      exact wp_iret trivial dX11_clear_26 H
  · replace H := H.2 c3
    refine wp_bipush (-2 : Int32) (by decide) dX11_clear_7 ?_
    exact wp_iret trivial dX11_clear_9 H
def p_T_kind (l0 : xN) (l1 : Int32) (l2 : Int32) (h : xH) (Q : Int32 → xH → Prop) : Prop := (kd l0.1 = (1, 9)) ∧ p_T_refuseSlip l0 l1 l2 h (fun (v3 : Int32) (h2 : xH) => ((v3 = 0 → (kd (hR h2 l0 3).1 = (5, 1)) ∧ (vp_in l1 (hS h2 (hR h2 l0 3) - 1)) ∧ (kd (hR h2 (hR h2 l0 3) l1.toNatClampNeg).1 = (1, 1)) ∧ (kd (hR h2 (hR h2 (hR h2 l0 3) l1.toNatClampNeg) 0).1 = (5, 7)) ∧ (vp_in l2 (hS h2 (hR h2 (hR h2 (hR h2 l0 3) l1.toNatClampNeg) 0) - 1)) ∧ p_T_kindOf l0 (hR h2 (hR h2 (hR h2 (hR h2 l0 3) l1.toNatClampNeg) 0) l2.toNatClampNeg) h2 (fun (v11 : Int32) (h10 : xH) => Q v11 h10)) ∧ (¬ v3 = 0 → Q v3 h2)))
set_option maxRecDepth 100000 in
set_option maxHeartbeats 4000000 in
theorem t_T_kind (l0 : xN) (l1 : Int32) (l2 : Int32) (h : xH) (Q : Int32 → xH → Prop) (H : p_T_kind l0 l1 l2 h Q) : WP M_T_kind 0 [(0, xr l0), (1, xi l1), (2, xi l2)] [] h 0 (qi Q) := by
  unfold p_T_kind at H
  refine wp_aload_n 0 rfl rfl dX10_kind_0 ?_
  refine wp_iload_n 1 rfl rfl dX10_kind_1 ?_
  refine wp_iload_n 2 rfl rfl dX10_kind_2 ?_
  refine WP.at 3 rfl ?_
  obtain ⟨q1, H⟩ := H
  refine wp_cVi (M2 := M_T_refuseSlip) coX10 l0 q1 [xi l1, xi l2] rfl lv_X10_285 mo_T_refuseSlip (Nat.le_of_ble_eq_true rfl) ⟨(Nat.le_of_ble_eq_true rfl), (Nat.le_of_ble_eq_true rfl)⟩ (Nat.le_of_ble_eq_true rfl) (Nat.le_of_ble_eq_true rfl) dX10_kind_3 (t_T_refuseSlip l0 l1 l2 _ _ H) (fun v3 h2 H => ?_)
  refine wp_istore_n 3 rfl (Nat.le_of_ble_eq_true rfl) dX10_kind_6 (ls' := [(3, xi v3), (0, xr l0), (1, xi l1), (2, xi l2)]) rfl ?_
  refine wp_iload_n 3 rfl rfl dX10_kind_7 ?_
  refine WP.at 8 rfl ?_
  refine wp_if_eq 15 (by decide) dX10_kind_8 (fun c4 => ?_) (fun c4 => ?_)
  · replace H := H.1 c4
    refine wp_aload_n 0 rfl rfl dX10_kind_15 ?_
    refine wp_aload_n 0 rfl rfl dX10_kind_16 ?_
    refine wp_getr coX10 3 (Nat.le_of_ble_eq_true rfl) fl_X10_29 rfl q1 dX10_kind_17 ?_
    refine wp_iload_n 1 rfl rfl dX10_kind_20 ?_
    obtain ⟨q5, H⟩ := H
    obtain ⟨q6, H⟩ := H
    refine wp_aaload q5 q6 dX10_kind_21 ?_
    obtain ⟨q7, H⟩ := H
    refine wp_getr coX1 0 (Nat.le_of_ble_eq_true rfl) fl_X10_288 rfl q7 dX10_kind_22 ?_
    refine wp_iload_n 2 rfl rfl dX10_kind_25 ?_
    refine WP.at 26 rfl ?_
    obtain ⟨q8, H⟩ := H
    obtain ⟨q9, H⟩ := H
    refine wp_aaload q8 q9 dX10_kind_26 ?_
    refine WP.at 27 rfl ?_
    refine wp_cVi (M2 := M_T_kindOf) coX10 l0 q1 [xr (hR h2 (hR h2 (hR h2 (hR h2 l0 3) l1.toNatClampNeg) 0) l2.toNatClampNeg)] rfl lv_X10_304 mo_T_kindOf (Nat.le_of_ble_eq_true rfl) ⟨(Nat.le_of_ble_eq_true rfl), (Nat.le_of_ble_eq_true rfl)⟩ (Nat.le_of_ble_eq_true rfl) (Nat.le_of_ble_eq_true rfl) dX10_kind_27 (t_T_kindOf l0 (hR h2 (hR h2 (hR h2 (hR h2 l0 3) l1.toNatClampNeg) 0) l2.toNatClampNeg) _ _ H) (fun v11 h10 H => ?_)
    exact wp_iret trivial dX10_kind_30 H
  · replace H := H.2 c4
    refine wp_iload_n 3 rfl rfl dX10_kind_11 ?_
    refine WP.at 12 rfl ?_
    refine wp_goto 30 (by decide) dX10_kind_12 ?_
    exact wp_iret trivial dX10_kind_30 H
def p_M_kind (l0 : xN) (l1 : Int32) (l2 : Int32) (h : xH) (Q : Int32 → xH → Prop) : Prop := p_M_isWindow l1 h (fun (v2 : Int32) (h1 : xH) => ((¬ v2 = 0 → (kd l0.1 = (1, 10)) ∧ p_M_lacks l0 l1 l2 h1 (fun (v6 : Int32) (h5 : xH) => ((v6 ≤ 0 → p_M_kindAt l0 (((12 : Int32) * l1) + l2) h5 (fun (v9 : Int32) (h8 : xH) => Q v9 h8)) ∧ (¬ v6 ≤ 0 → p_M_meets l0 v6 h5 (fun (v11 : Int32) (h10 : xH) => Q v11 h10))))) ∧ (v2 = 0 → Q (-2 : Int32) h1)))
set_option maxRecDepth 100000 in
set_option maxHeartbeats 4000000 in
theorem t_M_kind (l0 : xN) (l1 : Int32) (l2 : Int32) (h : xH) (Q : Int32 → xH → Prop) (H : p_M_kind l0 l1 l2 h Q) : WP M_M_kind 0 [(0, xr l0), (1, xi l1), (2, xi l2)] [] h 0 (qi Q) := by
  unfold p_M_kind at H
  refine wp_iload_n 1 rfl rfl dX11_kind_0 ?_
  refine WP.at 1 rfl ?_
  refine wp_cSi (M2 := M_M_isWindow) [xi l1] rfl ls_X11_326 mo_M_isWindow (Nat.le_of_ble_eq_true rfl) ⟨(Nat.le_of_ble_eq_true rfl), (Nat.le_of_ble_eq_true rfl)⟩ (Nat.le_of_ble_eq_true rfl) (Nat.le_of_ble_eq_true rfl) dX11_kind_1 (t_M_isWindow l1 _ _ H) (fun v2 h1 H => ?_)
  refine WP.at 4 rfl ?_
  refine wp_if_ne 10 (by decide) dX11_kind_4 (fun c3 => ?_) (fun c3 => ?_)
  · replace H := H.1 c3
    refine wp_aload_n 0 rfl rfl dX11_kind_10 ?_
    refine wp_iload_n 1 rfl rfl dX11_kind_11 ?_
    refine wp_iload_n 2 rfl rfl dX11_kind_12 ?_
    refine WP.at 13 rfl ?_
    obtain ⟨q4, H⟩ := H
    refine wp_cVi (M2 := M_M_lacks) coX11 l0 q4 [xi l1, xi l2] rfl lv_X11_329 mo_M_lacks (Nat.le_of_ble_eq_true rfl) ⟨(Nat.le_of_ble_eq_true rfl), (Nat.le_of_ble_eq_true rfl)⟩ (Nat.le_of_ble_eq_true rfl) (Nat.le_of_ble_eq_true rfl) dX11_kind_13 (t_M_lacks l0 l1 l2 _ _ H) (fun v6 h5 H => ?_)
    refine wp_istore_n 3 rfl (Nat.le_of_ble_eq_true rfl) dX11_kind_16 (ls' := [(3, xi v6), (0, xr l0), (1, xi l1), (2, xi l2)]) rfl ?_
    refine wp_iload_n 3 rfl rfl dX11_kind_17 ?_
    refine WP.at 18 rfl ?_
    refine wp_if_le 29 (by decide) dX11_kind_18 (fun c7 => ?_) (fun c7 => ?_)
    · replace H := H.1 c7
      refine wp_aload_n 0 rfl rfl dX11_kind_29 ?_
      refine wp_bipush (12 : Int32) (by decide) dX11_kind_30 ?_
      refine wp_iload_n 1 rfl rfl dX11_kind_32 ?_
      refine wp_imul dX11_kind_33 ?_
      refine wp_iload_n 2 rfl rfl dX11_kind_34 ?_
      refine wp_iadd dX11_kind_35 ?_
      refine WP.at 36 rfl ?_
      refine wp_cVi (M2 := M_M_kindAt) coX11 l0 q4 [xi (((12 : Int32) * l1) + l2)] rfl lv_X11_334 mo_M_kindAt (Nat.le_of_ble_eq_true rfl) ⟨(Nat.le_of_ble_eq_true rfl), (Nat.le_of_ble_eq_true rfl)⟩ (Nat.le_of_ble_eq_true rfl) (Nat.le_of_ble_eq_true rfl) dX11_kind_36 (t_M_kindAt l0 (((12 : Int32) * l1) + l2) _ _ H) (fun v9 h8 H => ?_)
      refine WP.at 39 rfl ?_
      exact wp_iret trivial dX11_kind_39 H
    · replace H := H.2 c7
      refine wp_aload_n 0 rfl rfl dX11_kind_21 ?_
      refine wp_iload_n 3 rfl rfl dX11_kind_22 ?_
      refine WP.at 23 rfl ?_
      refine wp_cVi (M2 := M_M_meets) coX11 l0 q4 [xi v6] rfl lv_X11_316 mo_M_meets (Nat.le_of_ble_eq_true rfl) ⟨(Nat.le_of_ble_eq_true rfl), (Nat.le_of_ble_eq_true rfl)⟩ (Nat.le_of_ble_eq_true rfl) (Nat.le_of_ble_eq_true rfl) dX11_kind_23 (t_M_meets l0 v6 _ _ H) (fun v11 h10 H => ?_)
      refine WP.at 26 rfl ?_
      refine wp_goto 39 (by decide) dX11_kind_26 ?_
      exact wp_iret trivial dX11_kind_39 H
  · replace H := H.2 c3
    refine wp_bipush (-2 : Int32) (by decide) dX11_kind_7 ?_
    exact wp_iret trivial dX11_kind_9 H
def p_T_refuseHeld (l0 : xN) (l1 : Int32) (l2 : Int32) (l3 : Int32) (h : xH) (Q : Int32 → xH → Prop) : Prop := (kd l0.1 = (1, 9)) ∧ p_T_refuseSlip l0 l1 l2 h (fun (v3 : Int32) (h2 : xH) => ((v3 = 0 → (kd (hR h2 l0 3).1 = (5, 1)) ∧ (vp_in l1 (hS h2 (hR h2 l0 3) - 1)) ∧ (kd (hR h2 (hR h2 l0 3) l1.toNatClampNeg).1 = (1, 1)) ∧ (kd (hR h2 (hR h2 (hR h2 l0 3) l1.toNatClampNeg) 0).1 = (5, 7)) ∧ (vp_in l2 (hS h2 (hR h2 (hR h2 (hR h2 l0 3) l1.toNatClampNeg) 0) - 1)) ∧ (kd (hR h2 (hR h2 (hR h2 (hR h2 l0 3) l1.toNatClampNeg) 0) l2.toNatClampNeg).1 = (1, 7)) ∧ ∀ v11 : Int32, v11 = hI h2 (hR h2 (hR h2 (hR h2 (hR h2 l0 3) l1.toNatClampNeg) 0) l2.toNatClampNeg) 1 → ((¬ v11 = 0 → ((¬ v11 = l3 → p_T_found l0 (3 : Int32) h2 (fun (v16 : Int32) (h15 : xH) => Q v16 h15)) ∧ (v11 = l3 → Q (0 : Int32) h2))) ∧ (v11 = 0 → p_T_found l0 (1 : Int32) h2 (fun (v18 : Int32) (h17 : xH) => Q v18 h17)))) ∧ (¬ v3 = 0 → Q v3 h2)))
set_option maxRecDepth 100000 in
set_option maxHeartbeats 4000000 in
theorem t_T_refuseHeld (l0 : xN) (l1 : Int32) (l2 : Int32) (l3 : Int32) (h : xH) (Q : Int32 → xH → Prop) (H : p_T_refuseHeld l0 l1 l2 l3 h Q) : WP M_T_refuseHeld 0 [(0, xr l0), (1, xi l1), (2, xi l2), (3, xi l3)] [] h 0 (qi Q) := by
  unfold p_T_refuseHeld at H
  refine wp_aload_n 0 rfl rfl dX10_refuseHeld_0 ?_
  refine wp_iload_n 1 rfl rfl dX10_refuseHeld_1 ?_
  refine wp_iload_n 2 rfl rfl dX10_refuseHeld_2 ?_
  refine WP.at 3 rfl ?_
  obtain ⟨q1, H⟩ := H
  refine wp_cVi (M2 := M_T_refuseSlip) coX10 l0 q1 [xi l1, xi l2] rfl lv_X10_285 mo_T_refuseSlip (Nat.le_of_ble_eq_true rfl) ⟨(Nat.le_of_ble_eq_true rfl), (Nat.le_of_ble_eq_true rfl)⟩ (Nat.le_of_ble_eq_true rfl) (Nat.le_of_ble_eq_true rfl) dX10_refuseHeld_3 (t_T_refuseSlip l0 l1 l2 _ _ H) (fun v3 h2 H => ?_)
  refine wp_istore (Nat.le_of_ble_eq_true rfl) dX10_refuseHeld_6 (ls' := [(4, xi v3), (0, xr l0), (1, xi l1), (2, xi l2), (3, xi l3)]) rfl ?_
  refine wp_iload rfl dX10_refuseHeld_8 ?_
  refine WP.at 10 rfl ?_
  refine wp_if_eq 16 (by decide) dX10_refuseHeld_10 (fun c4 => ?_) (fun c4 => ?_)
  · replace H := H.1 c4
    refine wp_aload_n 0 rfl rfl dX10_refuseHeld_16 ?_
    refine wp_getr coX10 3 (Nat.le_of_ble_eq_true rfl) fl_X10_29 rfl q1 dX10_refuseHeld_17 ?_
    refine wp_iload_n 1 rfl rfl dX10_refuseHeld_20 ?_
    obtain ⟨q5, H⟩ := H
    obtain ⟨q6, H⟩ := H
    refine wp_aaload q5 q6 dX10_refuseHeld_21 ?_
    obtain ⟨q7, H⟩ := H
    refine wp_getr coX1 0 (Nat.le_of_ble_eq_true rfl) fl_X10_288 rfl q7 dX10_refuseHeld_22 ?_
    refine wp_iload_n 2 rfl rfl dX10_refuseHeld_25 ?_
    obtain ⟨q8, H⟩ := H
    obtain ⟨q9, H⟩ := H
    refine wp_aaload q8 q9 dX10_refuseHeld_26 ?_
    refine WP.at 27 rfl ?_
    obtain ⟨q10, H⟩ := H
    refine wp_geti coX8 1 (Nat.le_of_ble_eq_true rfl) fl_X10_441 rfl q10 dX10_refuseHeld_27 ?_
    refine wp_nm (fun v11 e12 => ?_)
    replace H := H v11 e12
    refine wp_istore (Nat.le_of_ble_eq_true rfl) dX10_refuseHeld_30 (ls' := [(5, xi v11), (4, xi v3), (0, xr l0), (1, xi l1), (2, xi l2), (3, xi l3)]) rfl ?_
    refine wp_iload rfl dX10_refuseHeld_32 ?_
    refine WP.at 34 rfl ?_
    refine wp_if_ne 43 (by decide) dX10_refuseHeld_34 (fun c13 => ?_) (fun c13 => ?_)
    · replace H := H.1 c13
      refine wp_iload rfl dX10_refuseHeld_43 ?_
      refine wp_iload_n 3 rfl rfl dX10_refuseHeld_45 ?_
      refine WP.at 46 rfl ?_
      refine wp_icmp_ne 53 (by decide) dX10_refuseHeld_46 (fun c14 => ?_) (fun c14 => ?_)
      · replace H := H.1 c14
        refine wp_aload_n 0 rfl rfl dX10_refuseHeld_53 ?_
        refine wp_iconst (3 : Int32) (by decide) dX10_refuseHeld_54 ?_
        refine WP.at 55 rfl ?_
        refine wp_cVi (M2 := M_T_found) coX10 l0 q1 [xi (3 : Int32)] rfl lv_X10_272 mo_T_found (Nat.le_of_ble_eq_true rfl) ⟨(Nat.le_of_ble_eq_true rfl), (Nat.le_of_ble_eq_true rfl)⟩ (Nat.le_of_ble_eq_true rfl) (Nat.le_of_ble_eq_true rfl) dX10_refuseHeld_55 (t_T_found l0 (3 : Int32) _ _ H) (fun v16 h15 H => ?_)
        exact wp_iret trivial dX10_refuseHeld_58 H
      · replace H := H.2 c14
        refine wp_iconst (0 : Int32) (by decide) dX10_refuseHeld_49 ?_
        refine WP.at 50 rfl ?_
        refine wp_goto 58 (by decide) dX10_refuseHeld_50 ?_
        exact wp_iret trivial dX10_refuseHeld_58 H
    · replace H := H.2 c13
      refine wp_aload_n 0 rfl rfl dX10_refuseHeld_37 ?_
      refine wp_iconst (1 : Int32) (by decide) dX10_refuseHeld_38 ?_
      refine WP.at 39 rfl ?_
      refine wp_cVi (M2 := M_T_found) coX10 l0 q1 [xi (1 : Int32)] rfl lv_X10_272 mo_T_found (Nat.le_of_ble_eq_true rfl) ⟨(Nat.le_of_ble_eq_true rfl), (Nat.le_of_ble_eq_true rfl)⟩ (Nat.le_of_ble_eq_true rfl) (Nat.le_of_ble_eq_true rfl) dX10_refuseHeld_39 (t_T_found l0 (1 : Int32) _ _ H) (fun v18 h17 H => ?_)
      exact wp_iret trivial dX10_refuseHeld_42 H
  · replace H := H.2 c4
    refine wp_iload rfl dX10_refuseHeld_13 ?_
    exact wp_iret trivial dX10_refuseHeld_15 H
def p_T_read (l0 : xN) (l1 : Int32) (l2 : Int32) (h : xH) (Q : Int32 → xH → Prop) : Prop := (kd l0.1 = (1, 9)) ∧ p_T_refuseHeld l0 l1 l2 (1 : Int32) h (fun (v3 : Int32) (h2 : xH) => ((v3 = 0 → (kd (hR h2 l0 3).1 = (5, 1)) ∧ (vp_in l1 (hS h2 (hR h2 l0 3) - 1)) ∧ (kd (hR h2 (hR h2 l0 3) l1.toNatClampNeg).1 = (1, 1)) ∧ (kd (hR h2 (hR h2 (hR h2 l0 3) l1.toNatClampNeg) 0).1 = (5, 7)) ∧ (vp_in l2 (hS h2 (hR h2 (hR h2 (hR h2 l0 3) l1.toNatClampNeg) 0) - 1)) ∧ (kd (hR h2 (hR h2 (hR h2 (hR h2 l0 3) l1.toNatClampNeg) 0) l2.toNatClampNeg).1 = (1, 7)) ∧ Q (hI h2 (hR h2 (hR h2 (hR h2 (hR h2 l0 3) l1.toNatClampNeg) 0) l2.toNatClampNeg) 2) h2) ∧ (¬ v3 = 0 → Q v3 h2)))
set_option maxRecDepth 100000 in
set_option maxHeartbeats 4000000 in
theorem t_T_read (l0 : xN) (l1 : Int32) (l2 : Int32) (h : xH) (Q : Int32 → xH → Prop) (H : p_T_read l0 l1 l2 h Q) : WP M_T_read 0 [(0, xr l0), (1, xi l1), (2, xi l2)] [] h 0 (qi Q) := by
  unfold p_T_read at H
  refine wp_aload_n 0 rfl rfl dX10_read_0 ?_
  refine wp_iload_n 1 rfl rfl dX10_read_1 ?_
  refine wp_iload_n 2 rfl rfl dX10_read_2 ?_
  refine wp_iconst (1 : Int32) (by decide) dX10_read_3 ?_
  refine WP.at 4 rfl ?_
  obtain ⟨q1, H⟩ := H
  refine wp_cVi (M2 := M_T_refuseHeld) coX10 l0 q1 [xi l1, xi l2, xi (1 : Int32)] rfl lv_X10_311 mo_T_refuseHeld (Nat.le_of_ble_eq_true rfl) ⟨(Nat.le_of_ble_eq_true rfl), (Nat.le_of_ble_eq_true rfl)⟩ (Nat.le_of_ble_eq_true rfl) (Nat.le_of_ble_eq_true rfl) dX10_read_4 (t_T_refuseHeld l0 l1 l2 (1 : Int32) _ _ H) (fun v3 h2 H => ?_)
  refine wp_istore_n 3 rfl (Nat.le_of_ble_eq_true rfl) dX10_read_7 (ls' := [(3, xi v3), (0, xr l0), (1, xi l1), (2, xi l2)]) rfl ?_
  refine wp_iload_n 3 rfl rfl dX10_read_8 ?_
  refine WP.at 9 rfl ?_
  refine WP.at 9 rfl ?_
  refine wp_if_eq 16 (by decide) dX10_read_9 (fun c4 => ?_) (fun c4 => ?_)
  · replace H := H.1 c4
    refine wp_aload_n 0 rfl rfl dX10_read_16 ?_
    refine wp_getr coX10 3 (Nat.le_of_ble_eq_true rfl) fl_X10_29 rfl q1 dX10_read_17 ?_
    refine wp_iload_n 1 rfl rfl dX10_read_20 ?_
    obtain ⟨q5, H⟩ := H
    obtain ⟨q6, H⟩ := H
    refine wp_aaload q5 q6 dX10_read_21 ?_
    obtain ⟨q7, H⟩ := H
    refine wp_getr coX1 0 (Nat.le_of_ble_eq_true rfl) fl_X10_288 rfl q7 dX10_read_22 ?_
    refine wp_iload_n 2 rfl rfl dX10_read_25 ?_
    obtain ⟨q8, H⟩ := H
    obtain ⟨q9, H⟩ := H
    refine wp_aaload q8 q9 dX10_read_26 ?_
    refine WP.at 27 rfl ?_
    obtain ⟨q10, H⟩ := H
    refine wp_geti coX8 2 (Nat.le_of_ble_eq_true rfl) fl_X10_314 rfl q10 dX10_read_27 ?_
    exact wp_iret trivial dX10_read_30 H
  · replace H := H.2 c4
    refine wp_iload_n 3 rfl rfl dX10_read_12 ?_
    refine WP.at 13 rfl ?_
    refine wp_goto 30 (by decide) dX10_read_13 ?_
    exact wp_iret trivial dX10_read_30 H
def p_M_lacksAs (l0 : xN) (l1 : Int32) (l2 : Int32) (l3 : Int32) (h : xH) (Q : Int32 → xH → Prop) : Prop := (kd l0.1 = (1, 10)) ∧ p_M_lacks l0 l1 l2 h (fun (v3 : Int32) (h2 : xH) => ((v3 ≤ 0 → (kd (hR h2 l0 53).1 = (2, 0)) ∧ (vp_in (((12 : Int32) * l1) + l2) (hS h2 (hR h2 l0 53) - 1)) ∧ ∀ v7 : Int32, v7 = hI h2 (hR h2 l0 53) (((12 : Int32) * l1) + l2).toNatClampNeg → ((¬ v7 = 0 → ((¬ v7 = l3 → Q (3 : Int32) h2) ∧ (v7 = l3 → Q (0 : Int32) h2))) ∧ (v7 = 0 → Q (1 : Int32) h2))) ∧ (¬ v3 ≤ 0 → Q v3 h2)))
set_option maxRecDepth 100000 in
set_option maxHeartbeats 4000000 in
theorem t_M_lacksAs (l0 : xN) (l1 : Int32) (l2 : Int32) (l3 : Int32) (h : xH) (Q : Int32 → xH → Prop) (H : p_M_lacksAs l0 l1 l2 l3 h Q) : WP M_M_lacksAs 0 [(0, xr l0), (1, xi l1), (2, xi l2), (3, xi l3)] [] h 0 (qi Q) := by
  unfold p_M_lacksAs at H
  refine wp_aload_n 0 rfl rfl dX11_lacksAs_0 ?_
  refine wp_iload_n 1 rfl rfl dX11_lacksAs_1 ?_
  refine wp_iload_n 2 rfl rfl dX11_lacksAs_2 ?_
  refine WP.at 3 rfl ?_
  obtain ⟨q1, H⟩ := H
  refine wp_cVi (M2 := M_M_lacks) coX11 l0 q1 [xi l1, xi l2] rfl lv_X11_329 mo_M_lacks (Nat.le_of_ble_eq_true rfl) ⟨(Nat.le_of_ble_eq_true rfl), (Nat.le_of_ble_eq_true rfl)⟩ (Nat.le_of_ble_eq_true rfl) (Nat.le_of_ble_eq_true rfl) dX11_lacksAs_3 (t_M_lacks l0 l1 l2 _ _ H) (fun v3 h2 H => ?_)
  refine wp_istore (Nat.le_of_ble_eq_true rfl) dX11_lacksAs_6 (ls' := [(4, xi v3), (0, xr l0), (1, xi l1), (2, xi l2), (3, xi l3)]) rfl ?_
  refine wp_iload rfl dX11_lacksAs_8 ?_
  refine WP.at 10 rfl ?_
  refine wp_if_le 16 (by decide) dX11_lacksAs_10 (fun c4 => ?_) (fun c4 => ?_)
  · replace H := H.1 c4
    refine wp_aload_n 0 rfl rfl dX11_lacksAs_16 ?_
    refine wp_getr coX11 53 (Nat.le_of_ble_eq_true rfl) fl_X11_128 rfl q1 dX11_lacksAs_17 ?_
    refine wp_bipush (12 : Int32) (by decide) dX11_lacksAs_20 ?_
    refine wp_iload_n 1 rfl rfl dX11_lacksAs_22 ?_
    refine wp_imul dX11_lacksAs_23 ?_
    refine wp_iload_n 2 rfl rfl dX11_lacksAs_24 ?_
    refine wp_iadd dX11_lacksAs_25 ?_
    refine WP.at 26 rfl ?_
    obtain ⟨q5, H⟩ := H
    obtain ⟨q6, H⟩ := H
    refine wp_iaload q5 q6 dX11_lacksAs_26 ?_
    refine wp_nm (fun v7 e8 => ?_)
    replace H := H v7 e8
    refine wp_istore (Nat.le_of_ble_eq_true rfl) dX11_lacksAs_27 (ls' := [(5, xi v7), (4, xi v3), (0, xr l0), (1, xi l1), (2, xi l2), (3, xi l3)]) rfl ?_
    refine wp_iload rfl dX11_lacksAs_29 ?_
    refine WP.at 31 rfl ?_
    refine wp_if_ne 38 (by decide) dX11_lacksAs_31 (fun c9 => ?_) (fun c9 => ?_)
    · replace H := H.1 c9
      refine wp_iload rfl dX11_lacksAs_38 ?_
      refine wp_iload_n 3 rfl rfl dX11_lacksAs_40 ?_
      refine WP.at 41 rfl ?_
      refine wp_icmp_ne 48 (by decide) dX11_lacksAs_41 (fun c10 => ?_) (fun c10 => ?_)
      · replace H := H.1 c10
        refine wp_iconst (3 : Int32) (by decide) dX11_lacksAs_48 ?_
        exact wp_iret trivial dX11_lacksAs_49 H
      · replace H := H.2 c10
        refine wp_iconst (0 : Int32) (by decide) dX11_lacksAs_44 ?_
        refine WP.at 45 rfl ?_
        refine wp_goto 49 (by decide) dX11_lacksAs_45 ?_
        exact wp_iret trivial dX11_lacksAs_49 H
    · replace H := H.2 c9
      refine wp_iconst (1 : Int32) (by decide) dX11_lacksAs_34 ?_
      refine WP.at 35 rfl ?_
      refine wp_goto 49 (by decide) dX11_lacksAs_35 ?_
      exact wp_iret trivial dX11_lacksAs_49 H
  · replace H := H.2 c4
    refine wp_iload rfl dX11_lacksAs_13 ?_
    exact wp_iret trivial dX11_lacksAs_15 H
def p_M_read (l0 : xN) (l1 : Int32) (l2 : Int32) (h : xH) (Q : Int32 → xH → Prop) : Prop := p_M_isWindow l1 h (fun (v2 : Int32) (h1 : xH) => ((¬ v2 = 0 → (kd l0.1 = (1, 10)) ∧ p_M_lacksAs l0 l1 l2 (1 : Int32) h1 (fun (v6 : Int32) (h5 : xH) => ((v6 ≤ 0 → (kd (hR h5 l0 54).1 = (2, 0)) ∧ (vp_in (((12 : Int32) * l1) + l2) (hS h5 (hR h5 l0 54) - 1)) ∧ Q (hI h5 (hR h5 l0 54) (((12 : Int32) * l1) + l2).toNatClampNeg) h5) ∧ (¬ v6 ≤ 0 → p_M_meets l0 v6 h5 (fun (v11 : Int32) (h10 : xH) => Q v11 h10))))) ∧ (v2 = 0 → Q (-2 : Int32) h1)))
set_option maxRecDepth 100000 in
set_option maxHeartbeats 4000000 in
theorem t_M_read (l0 : xN) (l1 : Int32) (l2 : Int32) (h : xH) (Q : Int32 → xH → Prop) (H : p_M_read l0 l1 l2 h Q) : WP M_M_read 0 [(0, xr l0), (1, xi l1), (2, xi l2)] [] h 0 (qi Q) := by
  unfold p_M_read at H
  refine wp_iload_n 1 rfl rfl dX11_read_0 ?_
  refine WP.at 1 rfl ?_
  refine wp_cSi (M2 := M_M_isWindow) [xi l1] rfl ls_X11_326 mo_M_isWindow (Nat.le_of_ble_eq_true rfl) ⟨(Nat.le_of_ble_eq_true rfl), (Nat.le_of_ble_eq_true rfl)⟩ (Nat.le_of_ble_eq_true rfl) (Nat.le_of_ble_eq_true rfl) dX11_read_1 (t_M_isWindow l1 _ _ H) (fun v2 h1 H => ?_)
  refine WP.at 4 rfl ?_
  refine wp_if_ne 10 (by decide) dX11_read_4 (fun c3 => ?_) (fun c3 => ?_)
  · replace H := H.1 c3
    refine wp_aload_n 0 rfl rfl dX11_read_10 ?_
    refine wp_iload_n 1 rfl rfl dX11_read_11 ?_
    refine wp_iload_n 2 rfl rfl dX11_read_12 ?_
    refine wp_iconst (1 : Int32) (by decide) dX11_read_13 ?_
    refine WP.at 14 rfl ?_
    obtain ⟨q4, H⟩ := H
    refine wp_cVi (M2 := M_M_lacksAs) coX11 l0 q4 [xi l1, xi l2, xi (1 : Int32)] rfl lv_X11_337 mo_M_lacksAs (Nat.le_of_ble_eq_true rfl) ⟨(Nat.le_of_ble_eq_true rfl), (Nat.le_of_ble_eq_true rfl)⟩ (Nat.le_of_ble_eq_true rfl) (Nat.le_of_ble_eq_true rfl) dX11_read_14 (t_M_lacksAs l0 l1 l2 (1 : Int32) _ _ H) (fun v6 h5 H => ?_)
    refine wp_istore_n 3 rfl (Nat.le_of_ble_eq_true rfl) dX11_read_17 (ls' := [(3, xi v6), (0, xr l0), (1, xi l1), (2, xi l2)]) rfl ?_
    refine wp_iload_n 3 rfl rfl dX11_read_18 ?_
    refine WP.at 19 rfl ?_
    refine WP.at 19 rfl ?_
    refine wp_if_le 30 (by decide) dX11_read_19 (fun c7 => ?_) (fun c7 => ?_)
    · replace H := H.1 c7
      refine wp_aload_n 0 rfl rfl dX11_read_30 ?_
      refine wp_getr coX11 54 (Nat.le_of_ble_eq_true rfl) fl_X11_131 rfl q4 dX11_read_31 ?_
      refine wp_bipush (12 : Int32) (by decide) dX11_read_34 ?_
      refine wp_iload_n 1 rfl rfl dX11_read_36 ?_
      refine wp_imul dX11_read_37 ?_
      refine wp_iload_n 2 rfl rfl dX11_read_38 ?_
      refine wp_iadd dX11_read_39 ?_
      refine WP.at 40 rfl ?_
      obtain ⟨q8, H⟩ := H
      obtain ⟨q9, H⟩ := H
      refine wp_iaload q8 q9 dX11_read_40 ?_
      exact wp_iret trivial dX11_read_41 H
    · replace H := H.2 c7
      refine wp_aload_n 0 rfl rfl dX11_read_22 ?_
      refine wp_iload_n 3 rfl rfl dX11_read_23 ?_
      refine WP.at 24 rfl ?_
      refine wp_cVi (M2 := M_M_meets) coX11 l0 q4 [xi v6] rfl lv_X11_316 mo_M_meets (Nat.le_of_ble_eq_true rfl) ⟨(Nat.le_of_ble_eq_true rfl), (Nat.le_of_ble_eq_true rfl)⟩ (Nat.le_of_ble_eq_true rfl) (Nat.le_of_ble_eq_true rfl) dX11_read_24 (t_M_meets l0 v6 _ _ H) (fun v11 h10 H => ?_)
      refine WP.at 27 rfl ?_
      refine wp_goto 41 (by decide) dX11_read_27 ?_
      exact wp_iret trivial dX11_read_41 H
  · replace H := H.2 c3
    refine wp_bipush (-2 : Int32) (by decide) dX11_read_7 ?_
    exact wp_iret trivial dX11_read_9 H
def p_T_refuseCell_j41 (l0 : xN) (h : xH) (Q : Int32 → xH → Prop) : Prop := (kd l0.1 = (1, 9)) ∧ p_T_found l0 (2 : Int32) h (fun (v8 : Int32) (h7 : xH) => Q v8 h7)
set_option maxRecDepth 100000 in
set_option maxHeartbeats 4000000 in
theorem t_T_refuseCell_j41 (l0 : xN) (h : xH) (Q : Int32 → xH → Prop) (H : p_T_refuseCell_j41 l0 h Q) : WP M_T_refuseCell 41 [(0, xr l0)] [] h 0 (qi Q) := by
  unfold p_T_refuseCell_j41 at H
  refine wp_aload_n 0 rfl rfl dX10_refuseCell_41 ?_
  refine wp_iconst (2 : Int32) (by decide) dX10_refuseCell_42 ?_
  refine WP.at 43 rfl ?_
  obtain ⟨q6, H⟩ := H
  refine wp_cVi (M2 := M_T_found) coX10 l0 q6 [xi (2 : Int32)] rfl lv_X10_272 mo_T_found (Nat.le_of_ble_eq_true rfl) ⟨(Nat.le_of_ble_eq_true rfl), (Nat.le_of_ble_eq_true rfl)⟩ (Nat.le_of_ble_eq_true rfl) (Nat.le_of_ble_eq_true rfl) dX10_refuseCell_43 (t_T_found l0 (2 : Int32) _ _ H) (fun v8 h7 H => ?_)
  refine WP.at 46 rfl ?_
  refine wp_goto 50 (by decide) dX10_refuseCell_46 ?_
  exact wp_iret trivial dX10_refuseCell_50 H
def p_T_refuseCell (l0 : xN) (l1 : Int32) (l2 : Int32) (l3 : Int32) (l4 : Int32) (h : xH) (Q : Int32 → xH → Prop) : Prop := (kd l0.1 = (1, 9)) ∧ p_T_refuseHeld l0 l1 l2 l3 h (fun (v3 : Int32) (h2 : xH) => ((v3 = 0 → ((l4 < 0 → p_T_refuseCell_j41 l0 h2 Q) ∧ (¬ l4 < 0 → (kd (hR h2 l0 3).1 = (5, 1)) ∧ (vp_in l1 (hS h2 (hR h2 l0 3) - 1)) ∧ (kd (hR h2 (hR h2 l0 3) l1.toNatClampNeg).1 = (1, 1)) ∧ (kd (hR h2 (hR h2 (hR h2 l0 3) l1.toNatClampNeg) 0).1 = (5, 7)) ∧ (vp_in l2 (hS h2 (hR h2 (hR h2 (hR h2 l0 3) l1.toNatClampNeg) 0) - 1)) ∧ (kd (hR h2 (hR h2 (hR h2 (hR h2 l0 3) l1.toNatClampNeg) 0) l2.toNatClampNeg).1 = (1, 7)) ∧ ((l4 < (hI h2 (hR h2 (hR h2 (hR h2 (hR h2 l0 3) l1.toNatClampNeg) 0) l2.toNatClampNeg) 3) → Q (0 : Int32) h2) ∧ (¬ l4 < (hI h2 (hR h2 (hR h2 (hR h2 (hR h2 l0 3) l1.toNatClampNeg) 0) l2.toNatClampNeg) 3) → p_T_refuseCell_j41 l0 h2 Q))))) ∧ (¬ v3 = 0 → Q v3 h2)))
set_option maxRecDepth 100000 in
set_option maxHeartbeats 4000000 in
theorem t_T_refuseCell (l0 : xN) (l1 : Int32) (l2 : Int32) (l3 : Int32) (l4 : Int32) (h : xH) (Q : Int32 → xH → Prop) (H : p_T_refuseCell l0 l1 l2 l3 l4 h Q) : WP M_T_refuseCell 0 [(0, xr l0), (1, xi l1), (2, xi l2), (3, xi l3), (4, xi l4)] [] h 0 (qi Q) := by
  unfold p_T_refuseCell at H
  refine wp_aload_n 0 rfl rfl dX10_refuseCell_0 ?_
  refine wp_iload_n 1 rfl rfl dX10_refuseCell_1 ?_
  refine wp_iload_n 2 rfl rfl dX10_refuseCell_2 ?_
  refine wp_iload_n 3 rfl rfl dX10_refuseCell_3 ?_
  refine WP.at 4 rfl ?_
  obtain ⟨q1, H⟩ := H
  refine wp_cVi (M2 := M_T_refuseHeld) coX10 l0 q1 [xi l1, xi l2, xi l3] rfl lv_X10_311 mo_T_refuseHeld (Nat.le_of_ble_eq_true rfl) ⟨(Nat.le_of_ble_eq_true rfl), (Nat.le_of_ble_eq_true rfl)⟩ (Nat.le_of_ble_eq_true rfl) (Nat.le_of_ble_eq_true rfl) dX10_refuseCell_4 (t_T_refuseHeld l0 l1 l2 l3 _ _ H) (fun v3 h2 H => ?_)
  refine wp_istore (Nat.le_of_ble_eq_true rfl) dX10_refuseCell_7 (ls' := [(5, xi v3), (0, xr l0), (1, xi l1), (2, xi l2), (3, xi l3), (4, xi l4)]) rfl ?_
  refine wp_iload rfl dX10_refuseCell_9 ?_
  refine WP.at 11 rfl ?_
  refine WP.at 11 rfl ?_
  refine wp_if_eq 17 (by decide) dX10_refuseCell_11 (fun c4 => ?_) (fun c4 => ?_)
  · replace H := H.1 c4
    refine wp_iload rfl dX10_refuseCell_17 ?_
    refine WP.at 19 rfl ?_
    refine wp_if_lt 41 (by decide) dX10_refuseCell_19 (fun c5 => ?_) (fun c5 => ?_)
    · replace H := H.1 c5
      exact WP.pick [1] rfl (t_T_refuseCell_j41 l0 _ _ H)
    · replace H := H.2 c5
      refine wp_iload rfl dX10_refuseCell_22 ?_
      refine wp_aload_n 0 rfl rfl dX10_refuseCell_24 ?_
      refine wp_getr coX10 3 (Nat.le_of_ble_eq_true rfl) fl_X10_29 rfl q1 dX10_refuseCell_25 ?_
      refine wp_iload_n 1 rfl rfl dX10_refuseCell_28 ?_
      obtain ⟨q9, H⟩ := H
      obtain ⟨q10, H⟩ := H
      refine wp_aaload q9 q10 dX10_refuseCell_29 ?_
      obtain ⟨q11, H⟩ := H
      refine wp_getr coX1 0 (Nat.le_of_ble_eq_true rfl) fl_X10_288 rfl q11 dX10_refuseCell_30 ?_
      refine wp_iload_n 2 rfl rfl dX10_refuseCell_33 ?_
      refine WP.at 34 rfl ?_
      obtain ⟨q12, H⟩ := H
      obtain ⟨q13, H⟩ := H
      refine wp_aaload q12 q13 dX10_refuseCell_34 ?_
      obtain ⟨q14, H⟩ := H
      refine wp_geti coX8 3 (Nat.le_of_ble_eq_true rfl) fl_X10_444 rfl q14 dX10_refuseCell_35 ?_
      refine WP.at 38 rfl ?_
      refine wp_icmp_lt 49 (by decide) dX10_refuseCell_38 (fun c15 => ?_) (fun c15 => ?_)
      · replace H := H.1 c15
        refine wp_iconst (0 : Int32) (by decide) dX10_refuseCell_49 ?_
        exact wp_iret trivial dX10_refuseCell_50 H
      · replace H := H.2 c15
        exact WP.pick [1] rfl (t_T_refuseCell_j41 l0 _ _ H)
  · replace H := H.2 c4
    refine wp_iload rfl dX10_refuseCell_14 ?_
    exact wp_iret trivial dX10_refuseCell_16 H
def p_T_letter (l0 : xN) (l1 : Int32) (l2 : Int32) (l3 : Int32) (h : xH) (Q : Int32 → xH → Prop) : Prop := (kd l0.1 = (1, 9)) ∧ p_T_refuseCell l0 l1 l2 (2 : Int32) l3 h (fun (v3 : Int32) (h2 : xH) => ((v3 = 0 → (kd (hR h2 l0 3).1 = (5, 1)) ∧ (vp_in l1 (hS h2 (hR h2 l0 3) - 1)) ∧ (kd (hR h2 (hR h2 l0 3) l1.toNatClampNeg).1 = (1, 1)) ∧ (kd (hR h2 (hR h2 (hR h2 l0 3) l1.toNatClampNeg) 0).1 = (5, 7)) ∧ (vp_in l2 (hS h2 (hR h2 (hR h2 (hR h2 l0 3) l1.toNatClampNeg) 0) - 1)) ∧ (kd (hR h2 (hR h2 (hR h2 (hR h2 l0 3) l1.toNatClampNeg) 0) l2.toNatClampNeg).1 = (1, 7)) ∧ (kd (hR h2 (hR h2 (hR h2 (hR h2 (hR h2 l0 3) l1.toNatClampNeg) 0) l2.toNatClampNeg) 0).1 = (2, 0)) ∧ (vp_in l3 (hS h2 (hR h2 (hR h2 (hR h2 (hR h2 (hR h2 l0 3) l1.toNatClampNeg) 0) l2.toNatClampNeg) 0) - 1)) ∧ Q (hI h2 (hR h2 (hR h2 (hR h2 (hR h2 (hR h2 l0 3) l1.toNatClampNeg) 0) l2.toNatClampNeg) 0) l3.toNatClampNeg) h2) ∧ (¬ v3 = 0 → Q v3 h2)))
set_option maxRecDepth 100000 in
set_option maxHeartbeats 4000000 in
theorem t_T_letter (l0 : xN) (l1 : Int32) (l2 : Int32) (l3 : Int32) (h : xH) (Q : Int32 → xH → Prop) (H : p_T_letter l0 l1 l2 l3 h Q) : WP M_T_letter 0 [(0, xr l0), (1, xi l1), (2, xi l2), (3, xi l3)] [] h 0 (qi Q) := by
  unfold p_T_letter at H
  refine wp_aload_n 0 rfl rfl dX10_letter_0 ?_
  refine wp_iload_n 1 rfl rfl dX10_letter_1 ?_
  refine wp_iload_n 2 rfl rfl dX10_letter_2 ?_
  refine wp_iconst (2 : Int32) (by decide) dX10_letter_3 ?_
  refine wp_iload_n 3 rfl rfl dX10_letter_4 ?_
  refine WP.at 5 rfl ?_
  obtain ⟨q1, H⟩ := H
  refine wp_cVi (M2 := M_T_refuseCell) coX10 l0 q1 [xi l1, xi l2, xi (2 : Int32), xi l3] rfl lv_X10_317 mo_T_refuseCell (Nat.le_of_ble_eq_true rfl) ⟨(Nat.le_of_ble_eq_true rfl), (Nat.le_of_ble_eq_true rfl)⟩ (Nat.le_of_ble_eq_true rfl) (Nat.le_of_ble_eq_true rfl) dX10_letter_5 (t_T_refuseCell l0 l1 l2 (2 : Int32) l3 _ _ H) (fun v3 h2 H => ?_)
  refine wp_istore (Nat.le_of_ble_eq_true rfl) dX10_letter_8 (ls' := [(4, xi v3), (0, xr l0), (1, xi l1), (2, xi l2), (3, xi l3)]) rfl ?_
  refine WP.at 10 rfl ?_
  refine wp_iload rfl dX10_letter_10 ?_
  refine WP.at 12 rfl ?_
  refine wp_if_eq 20 (by decide) dX10_letter_12 (fun c4 => ?_) (fun c4 => ?_)
  · replace H := H.1 c4
    refine wp_aload_n 0 rfl rfl dX10_letter_20 ?_
    refine wp_getr coX10 3 (Nat.le_of_ble_eq_true rfl) fl_X10_29 rfl q1 dX10_letter_21 ?_
    refine wp_iload_n 1 rfl rfl dX10_letter_24 ?_
    obtain ⟨q5, H⟩ := H
    obtain ⟨q6, H⟩ := H
    refine wp_aaload q5 q6 dX10_letter_25 ?_
    obtain ⟨q7, H⟩ := H
    refine wp_getr coX1 0 (Nat.le_of_ble_eq_true rfl) fl_X10_288 rfl q7 dX10_letter_26 ?_
    refine wp_iload_n 2 rfl rfl dX10_letter_29 ?_
    obtain ⟨q8, H⟩ := H
    obtain ⟨q9, H⟩ := H
    refine wp_aaload q8 q9 dX10_letter_30 ?_
    refine WP.at 31 rfl ?_
    obtain ⟨q10, H⟩ := H
    refine wp_getr coX8 0 (Nat.le_of_ble_eq_true rfl) fl_X10_321 rfl q10 dX10_letter_31 ?_
    refine wp_iload_n 3 rfl rfl dX10_letter_34 ?_
    obtain ⟨q11, H⟩ := H
    obtain ⟨q12, H⟩ := H
    refine wp_iaload q11 q12 dX10_letter_35 ?_
    exact wp_iret trivial dX10_letter_36 H
  · replace H := H.2 c4
    refine wp_iload rfl dX10_letter_15 ?_
    refine WP.at 17 rfl ?_
    refine wp_goto 36 (by decide) dX10_letter_17 ?_
    exact wp_iret trivial dX10_letter_36 H
def p_M_lacksItem (l0 : xN) (l1 : Int32) (l2 : Int32) (l3 : Int32) (l4 : Int32) (h : xH) (Q : Int32 → xH → Prop) : Prop := (kd l0.1 = (1, 10)) ∧ p_M_lacksAs l0 l1 l2 l3 h (fun (v3 : Int32) (h2 : xH) => ((v3 ≤ 0 → (kd (hR h2 l0 55).1 = (2, 0)) ∧ (vp_in (((12 : Int32) * l1) + l2) (hS h2 (hR h2 l0 55) - 1)) ∧ p_M_in l4 (0 : Int32) ((hI h2 (hR h2 l0 55) (((12 : Int32) * l1) + l2).toNatClampNeg) - (1 : Int32)) h2 (fun (v8 : Int32) (h7 : xH) => ((v8 = 0 → Q (2 : Int32) h7) ∧ (¬ v8 = 0 → Q (0 : Int32) h7)))) ∧ (¬ v3 ≤ 0 → Q v3 h2)))
set_option maxRecDepth 100000 in
set_option maxHeartbeats 4000000 in
theorem t_M_lacksItem (l0 : xN) (l1 : Int32) (l2 : Int32) (l3 : Int32) (l4 : Int32) (h : xH) (Q : Int32 → xH → Prop) (H : p_M_lacksItem l0 l1 l2 l3 l4 h Q) : WP M_M_lacksItem 0 [(0, xr l0), (1, xi l1), (2, xi l2), (3, xi l3), (4, xi l4)] [] h 0 (qi Q) := by
  unfold p_M_lacksItem at H
  refine wp_aload_n 0 rfl rfl dX11_lacksItem_0 ?_
  refine wp_iload_n 1 rfl rfl dX11_lacksItem_1 ?_
  refine wp_iload_n 2 rfl rfl dX11_lacksItem_2 ?_
  refine wp_iload_n 3 rfl rfl dX11_lacksItem_3 ?_
  refine WP.at 4 rfl ?_
  obtain ⟨q1, H⟩ := H
  refine wp_cVi (M2 := M_M_lacksAs) coX11 l0 q1 [xi l1, xi l2, xi l3] rfl lv_X11_337 mo_M_lacksAs (Nat.le_of_ble_eq_true rfl) ⟨(Nat.le_of_ble_eq_true rfl), (Nat.le_of_ble_eq_true rfl)⟩ (Nat.le_of_ble_eq_true rfl) (Nat.le_of_ble_eq_true rfl) dX11_lacksItem_4 (t_M_lacksAs l0 l1 l2 l3 _ _ H) (fun v3 h2 H => ?_)
  refine wp_istore (Nat.le_of_ble_eq_true rfl) dX11_lacksItem_7 (ls' := [(5, xi v3), (0, xr l0), (1, xi l1), (2, xi l2), (3, xi l3), (4, xi l4)]) rfl ?_
  refine wp_iload rfl dX11_lacksItem_9 ?_
  refine WP.at 11 rfl ?_
  refine WP.at 11 rfl ?_
  refine wp_if_le 19 (by decide) dX11_lacksItem_11 (fun c4 => ?_) (fun c4 => ?_)
  · replace H := H.1 c4
    refine wp_iload rfl dX11_lacksItem_19 ?_
    refine wp_iconst (0 : Int32) (by decide) dX11_lacksItem_21 ?_
    refine wp_aload_n 0 rfl rfl dX11_lacksItem_22 ?_
    refine wp_getr coX11 55 (Nat.le_of_ble_eq_true rfl) fl_X11_134 rfl q1 dX11_lacksItem_23 ?_
    refine wp_bipush (12 : Int32) (by decide) dX11_lacksItem_26 ?_
    refine wp_iload_n 1 rfl rfl dX11_lacksItem_28 ?_
    refine wp_imul dX11_lacksItem_29 ?_
    refine WP.at 30 rfl ?_
    refine wp_iload_n 2 rfl rfl dX11_lacksItem_30 ?_
    refine wp_iadd dX11_lacksItem_31 ?_
    obtain ⟨q5, H⟩ := H
    obtain ⟨q6, H⟩ := H
    refine wp_iaload q5 q6 dX11_lacksItem_32 ?_
    refine wp_iconst (1 : Int32) (by decide) dX11_lacksItem_33 ?_
    refine wp_isub dX11_lacksItem_34 ?_
    refine WP.at 35 rfl ?_
    refine wp_cSi (M2 := M_M_in) [xi l4, xi (0 : Int32), xi ((hI h2 (hR h2 l0 55) (((12 : Int32) * l1) + l2).toNatClampNeg) - (1 : Int32))] rfl ls_X11_172 mo_M_in (Nat.le_of_ble_eq_true rfl) ⟨(Nat.le_of_ble_eq_true rfl), (Nat.le_of_ble_eq_true rfl)⟩ (Nat.le_of_ble_eq_true rfl) (Nat.le_of_ble_eq_true rfl) dX11_lacksItem_35 (t_M_in l4 (0 : Int32) ((hI h2 (hR h2 l0 55) (((12 : Int32) * l1) + l2).toNatClampNeg) - (1 : Int32)) _ _ H) (fun v8 h7 H => ?_)
    refine WP.at 38 rfl ?_
    refine wp_if_eq 45 (by decide) dX11_lacksItem_38 (fun c9 => ?_) (fun c9 => ?_)
    · replace H := H.1 c9
      refine wp_iconst (2 : Int32) (by decide) dX11_lacksItem_45 ?_
      exact wp_iret trivial dX11_lacksItem_46 H
    · replace H := H.2 c9
      refine wp_iconst (0 : Int32) (by decide) dX11_lacksItem_41 ?_
      refine WP.at 42 rfl ?_
      refine wp_goto 46 (by decide) dX11_lacksItem_42 ?_
      exact wp_iret trivial dX11_lacksItem_46 H
  · replace H := H.2 c4
    refine wp_iload rfl dX11_lacksItem_14 ?_
    refine WP.at 16 rfl ?_
    refine wp_goto 46 (by decide) dX11_lacksItem_16 ?_
    exact wp_iret trivial dX11_lacksItem_46 H
def p_M_letter (l0 : xN) (l1 : Int32) (l2 : Int32) (l3 : Int32) (h : xH) (Q : Int32 → xH → Prop) : Prop := p_M_isWindow l1 h (fun (v2 : Int32) (h1 : xH) => ((¬ v2 = 0 → (kd l0.1 = (1, 10)) ∧ p_M_lacksItem l0 l1 l2 (2 : Int32) l3 h1 (fun (v6 : Int32) (h5 : xH) => ((v6 ≤ 0 → (kd (hR h5 l0 56).1 = (2, 0)) ∧ (vp_in (((4 : Int32) * (((12 : Int32) * l1) + l2)) + l3) (hS h5 (hR h5 l0 56) - 1)) ∧ Q (hI h5 (hR h5 l0 56) (((4 : Int32) * (((12 : Int32) * l1) + l2)) + l3).toNatClampNeg) h5) ∧ (¬ v6 ≤ 0 → p_M_meets l0 v6 h5 (fun (v11 : Int32) (h10 : xH) => Q v11 h10))))) ∧ (v2 = 0 → Q (-2 : Int32) h1)))
set_option maxRecDepth 100000 in
set_option maxHeartbeats 4000000 in
theorem t_M_letter (l0 : xN) (l1 : Int32) (l2 : Int32) (l3 : Int32) (h : xH) (Q : Int32 → xH → Prop) (H : p_M_letter l0 l1 l2 l3 h Q) : WP M_M_letter 0 [(0, xr l0), (1, xi l1), (2, xi l2), (3, xi l3)] [] h 0 (qi Q) := by
  unfold p_M_letter at H
  refine wp_iload_n 1 rfl rfl dX11_letter_0 ?_
  refine WP.at 1 rfl ?_
  refine wp_cSi (M2 := M_M_isWindow) [xi l1] rfl ls_X11_326 mo_M_isWindow (Nat.le_of_ble_eq_true rfl) ⟨(Nat.le_of_ble_eq_true rfl), (Nat.le_of_ble_eq_true rfl)⟩ (Nat.le_of_ble_eq_true rfl) (Nat.le_of_ble_eq_true rfl) dX11_letter_1 (t_M_isWindow l1 _ _ H) (fun v2 h1 H => ?_)
  refine WP.at 4 rfl ?_
  refine wp_if_ne 10 (by decide) dX11_letter_4 (fun c3 => ?_) (fun c3 => ?_)
  · replace H := H.1 c3
    refine wp_aload_n 0 rfl rfl dX11_letter_10 ?_
    refine wp_iload_n 1 rfl rfl dX11_letter_11 ?_
    refine wp_iload_n 2 rfl rfl dX11_letter_12 ?_
    refine wp_iconst (2 : Int32) (by decide) dX11_letter_13 ?_
    refine wp_iload_n 3 rfl rfl dX11_letter_14 ?_
    refine WP.at 15 rfl ?_
    obtain ⟨q4, H⟩ := H
    refine wp_cVi (M2 := M_M_lacksItem) coX11 l0 q4 [xi l1, xi l2, xi (2 : Int32), xi l3] rfl lv_X11_341 mo_M_lacksItem (Nat.le_of_ble_eq_true rfl) ⟨(Nat.le_of_ble_eq_true rfl), (Nat.le_of_ble_eq_true rfl)⟩ (Nat.le_of_ble_eq_true rfl) (Nat.le_of_ble_eq_true rfl) dX11_letter_15 (t_M_lacksItem l0 l1 l2 (2 : Int32) l3 _ _ H) (fun v6 h5 H => ?_)
    refine wp_istore (Nat.le_of_ble_eq_true rfl) dX11_letter_18 (ls' := [(4, xi v6), (0, xr l0), (1, xi l1), (2, xi l2), (3, xi l3)]) rfl ?_
    refine WP.at 20 rfl ?_
    refine wp_iload rfl dX11_letter_20 ?_
    refine WP.at 22 rfl ?_
    refine wp_if_le 34 (by decide) dX11_letter_22 (fun c7 => ?_) (fun c7 => ?_)
    · replace H := H.1 c7
      refine wp_aload_n 0 rfl rfl dX11_letter_34 ?_
      refine wp_getr coX11 56 (Nat.le_of_ble_eq_true rfl) fl_X11_137 rfl q4 dX11_letter_35 ?_
      refine wp_iconst (4 : Int32) (by decide) dX11_letter_38 ?_
      refine wp_bipush (12 : Int32) (by decide) dX11_letter_39 ?_
      refine wp_iload_n 1 rfl rfl dX11_letter_41 ?_
      refine wp_imul dX11_letter_42 ?_
      refine wp_iload_n 2 rfl rfl dX11_letter_43 ?_
      refine WP.at 44 rfl ?_
      refine wp_iadd dX11_letter_44 ?_
      refine wp_imul dX11_letter_45 ?_
      refine wp_iload_n 3 rfl rfl dX11_letter_46 ?_
      refine wp_iadd dX11_letter_47 ?_
      obtain ⟨q8, H⟩ := H
      obtain ⟨q9, H⟩ := H
      refine wp_iaload q8 q9 dX11_letter_48 ?_
      exact wp_iret trivial dX11_letter_49 H
    · replace H := H.2 c7
      refine wp_aload_n 0 rfl rfl dX11_letter_25 ?_
      refine wp_iload rfl dX11_letter_26 ?_
      refine WP.at 28 rfl ?_
      refine wp_cVi (M2 := M_M_meets) coX11 l0 q4 [xi v6] rfl lv_X11_316 mo_M_meets (Nat.le_of_ble_eq_true rfl) ⟨(Nat.le_of_ble_eq_true rfl), (Nat.le_of_ble_eq_true rfl)⟩ (Nat.le_of_ble_eq_true rfl) (Nat.le_of_ble_eq_true rfl) dX11_letter_28 (t_M_meets l0 v6 _ _ H) (fun v11 h10 H => ?_)
      refine WP.at 31 rfl ?_
      refine wp_goto 49 (by decide) dX11_letter_31 ?_
      exact wp_iret trivial dX11_letter_49 H
  · replace H := H.2 c3
    refine wp_bipush (-2 : Int32) (by decide) dX11_letter_7 ?_
    exact wp_iret trivial dX11_letter_9 H
def p_T_coin (l0 : xN) (l1 : Int32) (l2 : Int32) (l3 : Int32) (l4 : Int32) (h : xH) (Q : Int32 → xH → Prop) : Prop := (kd l0.1 = (1, 9)) ∧ p_T_refuseCell l0 l1 l2 (3 : Int32) l3 h (fun (v3 : Int32) (h2 : xH) => ((v3 = 0 → (kd (hR h2 l0 3).1 = (5, 1)) ∧ (vp_in l1 (hS h2 (hR h2 l0 3) - 1)) ∧ (kd (hR h2 (hR h2 l0 3) l1.toNatClampNeg).1 = (1, 1)) ∧ (kd (hR h2 (hR h2 (hR h2 l0 3) l1.toNatClampNeg) 0).1 = (5, 7)) ∧ (vp_in l2 (hS h2 (hR h2 (hR h2 (hR h2 l0 3) l1.toNatClampNeg) 0) - 1)) ∧ (kd (hR h2 (hR h2 (hR h2 (hR h2 l0 3) l1.toNatClampNeg) 0) l2.toNatClampNeg).1 = (1, 7)) ∧ (kd (hR h2 (hR h2 (hR h2 (hR h2 (hR h2 l0 3) l1.toNatClampNeg) 0) l2.toNatClampNeg) 0).1 = (2, 0)) ∧ (vp_in l3 (hS h2 (hR h2 (hR h2 (hR h2 (hR h2 (hR h2 l0 3) l1.toNatClampNeg) 0) l2.toNatClampNeg) 0) - 1)) ∧ ∀ h13 : xH, h13 = sI h2 (hR h2 (hR h2 (hR h2 (hR h2 (hR h2 l0 3) l1.toNatClampNeg) 0) l2.toNatClampNeg) 0) l3.toNatClampNeg l4 → Q (1 : Int32) h13) ∧ (¬ v3 = 0 → Q v3 h2)))
set_option maxRecDepth 100000 in
set_option maxHeartbeats 4000000 in
theorem t_T_coin (l0 : xN) (l1 : Int32) (l2 : Int32) (l3 : Int32) (l4 : Int32) (h : xH) (Q : Int32 → xH → Prop) (H : p_T_coin l0 l1 l2 l3 l4 h Q) : WP M_T_coin 0 [(0, xr l0), (1, xi l1), (2, xi l2), (3, xi l3), (4, xi l4)] [] h 0 (qi Q) := by
  unfold p_T_coin at H
  refine wp_aload_n 0 rfl rfl dX10_coin_0 ?_
  refine wp_iload_n 1 rfl rfl dX10_coin_1 ?_
  refine wp_iload_n 2 rfl rfl dX10_coin_2 ?_
  refine wp_iconst (3 : Int32) (by decide) dX10_coin_3 ?_
  refine wp_iload_n 3 rfl rfl dX10_coin_4 ?_
  refine WP.at 5 rfl ?_
  obtain ⟨q1, H⟩ := H
  refine wp_cVi (M2 := M_T_refuseCell) coX10 l0 q1 [xi l1, xi l2, xi (3 : Int32), xi l3] rfl lv_X10_317 mo_T_refuseCell (Nat.le_of_ble_eq_true rfl) ⟨(Nat.le_of_ble_eq_true rfl), (Nat.le_of_ble_eq_true rfl)⟩ (Nat.le_of_ble_eq_true rfl) (Nat.le_of_ble_eq_true rfl) dX10_coin_5 (t_T_refuseCell l0 l1 l2 (3 : Int32) l3 _ _ H) (fun v3 h2 H => ?_)
  refine wp_istore (Nat.le_of_ble_eq_true rfl) dX10_coin_8 (ls' := [(5, xi v3), (0, xr l0), (1, xi l1), (2, xi l2), (3, xi l3), (4, xi l4)]) rfl ?_
  refine WP.at 10 rfl ?_
  refine wp_iload rfl dX10_coin_10 ?_
  refine WP.at 12 rfl ?_
  refine wp_if_eq 18 (by decide) dX10_coin_12 (fun c4 => ?_) (fun c4 => ?_)
  · replace H := H.1 c4
    refine wp_aload_n 0 rfl rfl dX10_coin_18 ?_
    refine wp_getr coX10 3 (Nat.le_of_ble_eq_true rfl) fl_X10_29 rfl q1 dX10_coin_19 ?_
    refine wp_iload_n 1 rfl rfl dX10_coin_22 ?_
    obtain ⟨q5, H⟩ := H
    obtain ⟨q6, H⟩ := H
    refine wp_aaload q5 q6 dX10_coin_23 ?_
    obtain ⟨q7, H⟩ := H
    refine wp_getr coX1 0 (Nat.le_of_ble_eq_true rfl) fl_X10_288 rfl q7 dX10_coin_24 ?_
    refine wp_iload_n 2 rfl rfl dX10_coin_27 ?_
    obtain ⟨q8, H⟩ := H
    obtain ⟨q9, H⟩ := H
    refine wp_aaload q8 q9 dX10_coin_28 ?_
    refine WP.at 29 rfl ?_
    obtain ⟨q10, H⟩ := H
    refine wp_getr coX8 0 (Nat.le_of_ble_eq_true rfl) fl_X10_321 rfl q10 dX10_coin_29 ?_
    refine wp_iload_n 3 rfl rfl dX10_coin_32 ?_
    refine wp_iload rfl dX10_coin_33 ?_
    obtain ⟨q11, H⟩ := H
    obtain ⟨q12, H⟩ := H
    refine wp_iastore q11 q12 dX10_coin_35 ?_
    refine wp_nh (fun h13 e14 => ?_)
    replace H := H h13 e14
    refine wp_iconst (1 : Int32) (by decide) dX10_coin_36 ?_
    exact wp_iret trivial dX10_coin_37 H
  · replace H := H.2 c4
    refine wp_iload rfl dX10_coin_15 ?_
    exact wp_iret trivial dX10_coin_17 H
def p_M_coin (l0 : xN) (l1 : Int32) (l2 : Int32) (l3 : Int32) (l4 : Int32) (h : xH) (Q : Int32 → xH → Prop) : Prop := p_M_isWindow l1 h (fun (v2 : Int32) (h1 : xH) => ((¬ v2 = 0 → (kd l0.1 = (1, 10)) ∧ p_M_lacksItem l0 l1 l2 (3 : Int32) l3 h1 (fun (v6 : Int32) (h5 : xH) => ((v6 ≤ 0 → (kd (hR h5 l0 57).1 = (2, 0)) ∧ (vp_in (((8 : Int32) * (((12 : Int32) * l1) + l2)) + l3) (hS h5 (hR h5 l0 57) - 1)) ∧ ∀ h10 : xH, h10 = sI h5 (hR h5 l0 57) (((8 : Int32) * (((12 : Int32) * l1) + l2)) + l3).toNatClampNeg l4 → Q (1 : Int32) h10) ∧ (¬ v6 ≤ 0 → p_M_meets l0 v6 h5 (fun (v13 : Int32) (h12 : xH) => Q v13 h12))))) ∧ (v2 = 0 → Q (-2 : Int32) h1)))
set_option maxRecDepth 100000 in
set_option maxHeartbeats 4000000 in
theorem t_M_coin (l0 : xN) (l1 : Int32) (l2 : Int32) (l3 : Int32) (l4 : Int32) (h : xH) (Q : Int32 → xH → Prop) (H : p_M_coin l0 l1 l2 l3 l4 h Q) : WP M_M_coin 0 [(0, xr l0), (1, xi l1), (2, xi l2), (3, xi l3), (4, xi l4)] [] h 0 (qi Q) := by
  unfold p_M_coin at H
  refine wp_iload_n 1 rfl rfl dX11_coin_0 ?_
  refine WP.at 1 rfl ?_
  refine wp_cSi (M2 := M_M_isWindow) [xi l1] rfl ls_X11_326 mo_M_isWindow (Nat.le_of_ble_eq_true rfl) ⟨(Nat.le_of_ble_eq_true rfl), (Nat.le_of_ble_eq_true rfl)⟩ (Nat.le_of_ble_eq_true rfl) (Nat.le_of_ble_eq_true rfl) dX11_coin_1 (t_M_isWindow l1 _ _ H) (fun v2 h1 H => ?_)
  refine WP.at 4 rfl ?_
  refine wp_if_ne 10 (by decide) dX11_coin_4 (fun c3 => ?_) (fun c3 => ?_)
  · replace H := H.1 c3
    refine wp_aload_n 0 rfl rfl dX11_coin_10 ?_
    refine wp_iload_n 1 rfl rfl dX11_coin_11 ?_
    refine wp_iload_n 2 rfl rfl dX11_coin_12 ?_
    refine wp_iconst (3 : Int32) (by decide) dX11_coin_13 ?_
    refine wp_iload_n 3 rfl rfl dX11_coin_14 ?_
    refine WP.at 15 rfl ?_
    obtain ⟨q4, H⟩ := H
    refine wp_cVi (M2 := M_M_lacksItem) coX11 l0 q4 [xi l1, xi l2, xi (3 : Int32), xi l3] rfl lv_X11_341 mo_M_lacksItem (Nat.le_of_ble_eq_true rfl) ⟨(Nat.le_of_ble_eq_true rfl), (Nat.le_of_ble_eq_true rfl)⟩ (Nat.le_of_ble_eq_true rfl) (Nat.le_of_ble_eq_true rfl) dX11_coin_15 (t_M_lacksItem l0 l1 l2 (3 : Int32) l3 _ _ H) (fun v6 h5 H => ?_)
    refine wp_istore (Nat.le_of_ble_eq_true rfl) dX11_coin_18 (ls' := [(5, xi v6), (0, xr l0), (1, xi l1), (2, xi l2), (3, xi l3), (4, xi l4)]) rfl ?_
    refine WP.at 20 rfl ?_
    refine wp_iload rfl dX11_coin_20 ?_
    refine WP.at 22 rfl ?_
    refine wp_if_le 32 (by decide) dX11_coin_22 (fun c7 => ?_) (fun c7 => ?_)
    · replace H := H.1 c7
      refine wp_aload_n 0 rfl rfl dX11_coin_32 ?_
      refine wp_getr coX11 57 (Nat.le_of_ble_eq_true rfl) fl_X11_140 rfl q4 dX11_coin_33 ?_
      refine wp_bipush (8 : Int32) (by decide) dX11_coin_36 ?_
      refine wp_bipush (12 : Int32) (by decide) dX11_coin_38 ?_
      refine wp_iload_n 1 rfl rfl dX11_coin_40 ?_
      refine wp_imul dX11_coin_41 ?_
      refine wp_iload_n 2 rfl rfl dX11_coin_42 ?_
      refine WP.at 43 rfl ?_
      refine wp_iadd dX11_coin_43 ?_
      refine wp_imul dX11_coin_44 ?_
      refine wp_iload_n 3 rfl rfl dX11_coin_45 ?_
      refine wp_iadd dX11_coin_46 ?_
      refine wp_iload rfl dX11_coin_47 ?_
      obtain ⟨q8, H⟩ := H
      obtain ⟨q9, H⟩ := H
      refine wp_iastore q8 q9 dX11_coin_49 ?_
      refine wp_nh (fun h10 e11 => ?_)
      replace H := H h10 e11
      refine wp_iconst (1 : Int32) (by decide) dX11_coin_50 ?_
      exact wp_iret trivial dX11_coin_51 H
    · replace H := H.2 c7
      refine wp_aload_n 0 rfl rfl dX11_coin_25 ?_
      refine wp_iload rfl dX11_coin_26 ?_
      refine WP.at 28 rfl ?_
      refine wp_cVi (M2 := M_M_meets) coX11 l0 q4 [xi v6] rfl lv_X11_316 mo_M_meets (Nat.le_of_ble_eq_true rfl) ⟨(Nat.le_of_ble_eq_true rfl), (Nat.le_of_ble_eq_true rfl)⟩ (Nat.le_of_ble_eq_true rfl) (Nat.le_of_ble_eq_true rfl) dX11_coin_28 (t_M_meets l0 v6 _ _ H) (fun v13 h12 H => ?_)
      exact wp_iret trivial dX11_coin_31 H
  · replace H := H.2 c3
    refine wp_bipush (-2 : Int32) (by decide) dX11_coin_7 ?_
    exact wp_iret trivial dX11_coin_9 H
def p_T_coinAt (l0 : xN) (l1 : Int32) (l2 : Int32) (l3 : Int32) (h : xH) (Q : Int32 → xH → Prop) : Prop := (kd l0.1 = (1, 9)) ∧ p_T_refuseCell l0 l1 l2 (3 : Int32) l3 h (fun (v3 : Int32) (h2 : xH) => ((v3 = 0 → (kd (hR h2 l0 3).1 = (5, 1)) ∧ (vp_in l1 (hS h2 (hR h2 l0 3) - 1)) ∧ (kd (hR h2 (hR h2 l0 3) l1.toNatClampNeg).1 = (1, 1)) ∧ (kd (hR h2 (hR h2 (hR h2 l0 3) l1.toNatClampNeg) 0).1 = (5, 7)) ∧ (vp_in l2 (hS h2 (hR h2 (hR h2 (hR h2 l0 3) l1.toNatClampNeg) 0) - 1)) ∧ (kd (hR h2 (hR h2 (hR h2 (hR h2 l0 3) l1.toNatClampNeg) 0) l2.toNatClampNeg).1 = (1, 7)) ∧ (kd (hR h2 (hR h2 (hR h2 (hR h2 (hR h2 l0 3) l1.toNatClampNeg) 0) l2.toNatClampNeg) 0).1 = (2, 0)) ∧ (vp_in l3 (hS h2 (hR h2 (hR h2 (hR h2 (hR h2 (hR h2 l0 3) l1.toNatClampNeg) 0) l2.toNatClampNeg) 0) - 1)) ∧ Q (hI h2 (hR h2 (hR h2 (hR h2 (hR h2 (hR h2 l0 3) l1.toNatClampNeg) 0) l2.toNatClampNeg) 0) l3.toNatClampNeg) h2) ∧ (¬ v3 = 0 → Q (0 : Int32) h2)))
set_option maxRecDepth 100000 in
set_option maxHeartbeats 4000000 in
theorem t_T_coinAt (l0 : xN) (l1 : Int32) (l2 : Int32) (l3 : Int32) (h : xH) (Q : Int32 → xH → Prop) (H : p_T_coinAt l0 l1 l2 l3 h Q) : WP M_T_coinAt 0 [(0, xr l0), (1, xi l1), (2, xi l2), (3, xi l3)] [] h 0 (qi Q) := by
  unfold p_T_coinAt at H
  refine wp_aload_n 0 rfl rfl dX10_coinAt_0 ?_
  refine wp_iload_n 1 rfl rfl dX10_coinAt_1 ?_
  refine wp_iload_n 2 rfl rfl dX10_coinAt_2 ?_
  refine wp_iconst (3 : Int32) (by decide) dX10_coinAt_3 ?_
  refine wp_iload_n 3 rfl rfl dX10_coinAt_4 ?_
  refine WP.at 5 rfl ?_
  obtain ⟨q1, H⟩ := H
  refine wp_cVi (M2 := M_T_refuseCell) coX10 l0 q1 [xi l1, xi l2, xi (3 : Int32), xi l3] rfl lv_X10_317 mo_T_refuseCell (Nat.le_of_ble_eq_true rfl) ⟨(Nat.le_of_ble_eq_true rfl), (Nat.le_of_ble_eq_true rfl)⟩ (Nat.le_of_ble_eq_true rfl) (Nat.le_of_ble_eq_true rfl) dX10_coinAt_5 (t_T_refuseCell l0 l1 l2 (3 : Int32) l3 _ _ H) (fun v3 h2 H => ?_)
  refine wp_istore (Nat.le_of_ble_eq_true rfl) dX10_coinAt_8 (ls' := [(4, xi v3), (0, xr l0), (1, xi l1), (2, xi l2), (3, xi l3)]) rfl ?_
  refine WP.at 10 rfl ?_
  refine wp_iload rfl dX10_coinAt_10 ?_
  refine WP.at 12 rfl ?_
  refine wp_if_eq 19 (by decide) dX10_coinAt_12 (fun c4 => ?_) (fun c4 => ?_)
  · replace H := H.1 c4
    refine wp_aload_n 0 rfl rfl dX10_coinAt_19 ?_
    refine wp_getr coX10 3 (Nat.le_of_ble_eq_true rfl) fl_X10_29 rfl q1 dX10_coinAt_20 ?_
    refine wp_iload_n 1 rfl rfl dX10_coinAt_23 ?_
    obtain ⟨q5, H⟩ := H
    obtain ⟨q6, H⟩ := H
    refine wp_aaload q5 q6 dX10_coinAt_24 ?_
    obtain ⟨q7, H⟩ := H
    refine wp_getr coX1 0 (Nat.le_of_ble_eq_true rfl) fl_X10_288 rfl q7 dX10_coinAt_25 ?_
    refine wp_iload_n 2 rfl rfl dX10_coinAt_28 ?_
    obtain ⟨q8, H⟩ := H
    obtain ⟨q9, H⟩ := H
    refine wp_aaload q8 q9 dX10_coinAt_29 ?_
    refine WP.at 30 rfl ?_
    obtain ⟨q10, H⟩ := H
    refine wp_getr coX8 0 (Nat.le_of_ble_eq_true rfl) fl_X10_321 rfl q10 dX10_coinAt_30 ?_
    refine wp_iload_n 3 rfl rfl dX10_coinAt_33 ?_
    obtain ⟨q11, H⟩ := H
    obtain ⟨q12, H⟩ := H
    refine wp_iaload q11 q12 dX10_coinAt_34 ?_
    exact wp_iret trivial dX10_coinAt_35 H
  · replace H := H.2 c4
    refine wp_iconst (0 : Int32) (by decide) dX10_coinAt_15 ?_
    refine WP.at 16 rfl ?_
    refine wp_goto 35 (by decide) dX10_coinAt_16 ?_
    exact wp_iret trivial dX10_coinAt_35 H
def p_M_none (l0 : xN) (l1 : Int32) (h : xH) (Q : Int32 → xH → Prop) : Prop := (kd l0.1 = (1, 10)) ∧ p_M_meets l0 l1 h (fun (v3 : Int32) (h2 : xH) => Q (0 : Int32) h2)
set_option maxRecDepth 100000 in
set_option maxHeartbeats 4000000 in
theorem t_M_none (l0 : xN) (l1 : Int32) (h : xH) (Q : Int32 → xH → Prop) (H : p_M_none l0 l1 h Q) : WP M_M_none 0 [(0, xr l0), (1, xi l1)] [] h 0 (qi Q) := by
  unfold p_M_none at H
  refine wp_aload_n 0 rfl rfl dX11_none_0 ?_
  refine wp_iload_n 1 rfl rfl dX11_none_1 ?_
  refine WP.at 2 rfl ?_
  obtain ⟨q1, H⟩ := H
  refine wp_cVi (M2 := M_M_meets) coX11 l0 q1 [xi l1] rfl lv_X11_316 mo_M_meets (Nat.le_of_ble_eq_true rfl) ⟨(Nat.le_of_ble_eq_true rfl), (Nat.le_of_ble_eq_true rfl)⟩ (Nat.le_of_ble_eq_true rfl) (Nat.le_of_ble_eq_true rfl) dX11_none_2 (t_M_meets l0 l1 _ _ H) (fun v3 h2 H => ?_)
  refine wp_istore_n 2 rfl (Nat.le_of_ble_eq_true rfl) dX11_none_5 (ls' := [(2, xi v3), (0, xr l0), (1, xi l1)]) rfl ?_
  refine wp_iconst (0 : Int32) (by decide) dX11_none_6 ?_
  exact wp_iret trivial dX11_none_7 H
def p_M_coinAt (l0 : xN) (l1 : Int32) (l2 : Int32) (l3 : Int32) (h : xH) (Q : Int32 → xH → Prop) : Prop := p_M_isWindow l1 h (fun (v2 : Int32) (h1 : xH) => ((¬ v2 = 0 → (kd l0.1 = (1, 10)) ∧ p_M_lacksItem l0 l1 l2 (3 : Int32) l3 h1 (fun (v6 : Int32) (h5 : xH) => ((v6 ≤ 0 → (kd (hR h5 l0 57).1 = (2, 0)) ∧ (vp_in (((8 : Int32) * (((12 : Int32) * l1) + l2)) + l3) (hS h5 (hR h5 l0 57) - 1)) ∧ Q (hI h5 (hR h5 l0 57) (((8 : Int32) * (((12 : Int32) * l1) + l2)) + l3).toNatClampNeg) h5) ∧ (¬ v6 ≤ 0 → p_M_none l0 v6 h5 (fun (v11 : Int32) (h10 : xH) => Q v11 h10))))) ∧ (v2 = 0 → Q (0 : Int32) h1)))
set_option maxRecDepth 100000 in
set_option maxHeartbeats 4000000 in
theorem t_M_coinAt (l0 : xN) (l1 : Int32) (l2 : Int32) (l3 : Int32) (h : xH) (Q : Int32 → xH → Prop) (H : p_M_coinAt l0 l1 l2 l3 h Q) : WP M_M_coinAt 0 [(0, xr l0), (1, xi l1), (2, xi l2), (3, xi l3)] [] h 0 (qi Q) := by
  unfold p_M_coinAt at H
  refine wp_iload_n 1 rfl rfl dX11_coinAt_0 ?_
  refine WP.at 1 rfl ?_
  refine wp_cSi (M2 := M_M_isWindow) [xi l1] rfl ls_X11_326 mo_M_isWindow (Nat.le_of_ble_eq_true rfl) ⟨(Nat.le_of_ble_eq_true rfl), (Nat.le_of_ble_eq_true rfl)⟩ (Nat.le_of_ble_eq_true rfl) (Nat.le_of_ble_eq_true rfl) dX11_coinAt_1 (t_M_isWindow l1 _ _ H) (fun v2 h1 H => ?_)
  refine WP.at 4 rfl ?_
  refine wp_if_ne 9 (by decide) dX11_coinAt_4 (fun c3 => ?_) (fun c3 => ?_)
  · replace H := H.1 c3
    refine wp_aload_n 0 rfl rfl dX11_coinAt_9 ?_
    refine wp_iload_n 1 rfl rfl dX11_coinAt_10 ?_
    refine wp_iload_n 2 rfl rfl dX11_coinAt_11 ?_
    refine wp_iconst (3 : Int32) (by decide) dX11_coinAt_12 ?_
    refine wp_iload_n 3 rfl rfl dX11_coinAt_13 ?_
    refine WP.at 14 rfl ?_
    obtain ⟨q4, H⟩ := H
    refine wp_cVi (M2 := M_M_lacksItem) coX11 l0 q4 [xi l1, xi l2, xi (3 : Int32), xi l3] rfl lv_X11_341 mo_M_lacksItem (Nat.le_of_ble_eq_true rfl) ⟨(Nat.le_of_ble_eq_true rfl), (Nat.le_of_ble_eq_true rfl)⟩ (Nat.le_of_ble_eq_true rfl) (Nat.le_of_ble_eq_true rfl) dX11_coinAt_14 (t_M_lacksItem l0 l1 l2 (3 : Int32) l3 _ _ H) (fun v6 h5 H => ?_)
    refine wp_istore (Nat.le_of_ble_eq_true rfl) dX11_coinAt_17 (ls' := [(4, xi v6), (0, xr l0), (1, xi l1), (2, xi l2), (3, xi l3)]) rfl ?_
    refine WP.at 19 rfl ?_
    refine wp_iload rfl dX11_coinAt_19 ?_
    refine WP.at 21 rfl ?_
    refine wp_if_le 33 (by decide) dX11_coinAt_21 (fun c7 => ?_) (fun c7 => ?_)
    · replace H := H.1 c7
      refine wp_aload_n 0 rfl rfl dX11_coinAt_33 ?_
      refine wp_getr coX11 57 (Nat.le_of_ble_eq_true rfl) fl_X11_140 rfl q4 dX11_coinAt_34 ?_
      refine wp_bipush (8 : Int32) (by decide) dX11_coinAt_37 ?_
      refine wp_bipush (12 : Int32) (by decide) dX11_coinAt_39 ?_
      refine wp_iload_n 1 rfl rfl dX11_coinAt_41 ?_
      refine wp_imul dX11_coinAt_42 ?_
      refine wp_iload_n 2 rfl rfl dX11_coinAt_43 ?_
      refine WP.at 44 rfl ?_
      refine wp_iadd dX11_coinAt_44 ?_
      refine wp_imul dX11_coinAt_45 ?_
      refine wp_iload_n 3 rfl rfl dX11_coinAt_46 ?_
      refine wp_iadd dX11_coinAt_47 ?_
      obtain ⟨q8, H⟩ := H
      obtain ⟨q9, H⟩ := H
      refine wp_iaload q8 q9 dX11_coinAt_48 ?_
      exact wp_iret trivial dX11_coinAt_49 H
    · replace H := H.2 c7
      refine wp_aload_n 0 rfl rfl dX11_coinAt_24 ?_
      refine wp_iload rfl dX11_coinAt_25 ?_
      refine WP.at 27 rfl ?_
      refine wp_cVi (M2 := M_M_none) coX11 l0 q4 [xi v6] rfl lv_X11_344 mo_M_none (Nat.le_of_ble_eq_true rfl) ⟨(Nat.le_of_ble_eq_true rfl), (Nat.le_of_ble_eq_true rfl)⟩ (Nat.le_of_ble_eq_true rfl) (Nat.le_of_ble_eq_true rfl) dX11_coinAt_27 (t_M_none l0 v6 _ _ H) (fun v11 h10 H => ?_)
      refine WP.at 30 rfl ?_
      refine wp_goto 49 (by decide) dX11_coinAt_30 ?_
      exact wp_iret trivial dX11_coinAt_49 H
  · replace H := H.2 c3
    refine wp_iconst (0 : Int32) (by decide) dX11_coinAt_7 ?_
    exact wp_iret trivial dX11_coinAt_8 H
def p_T_change (l0 : xN) (l1 : Int32) (l2 : Int32) (l3 : Int32) (l4 : Int32) (h : xH) (Q : Int32 → xH → Prop) : Prop := (kd l0.1 = (1, 9)) ∧ p_T_refuseCell l0 l1 l2 (3 : Int32) l3 h (fun (v3 : Int32) (h2 : xH) => ((¬ v3 = 0 → Q (0 : Int32) h2) ∧ (v3 = 0 → p_T_refuseCell l0 l1 l2 (3 : Int32) l4 h2 (fun (v6 : Int32) (h5 : xH) => ((v6 = 0 → (kd (hR h5 l0 3).1 = (5, 1)) ∧ (vp_in l1 (hS h5 (hR h5 l0 3) - 1)) ∧ (kd (hR h5 (hR h5 l0 3) l1.toNatClampNeg).1 = (1, 1)) ∧ (kd (hR h5 (hR h5 (hR h5 l0 3) l1.toNatClampNeg) 0).1 = (5, 7)) ∧ (vp_in l2 (hS h5 (hR h5 (hR h5 (hR h5 l0 3) l1.toNatClampNeg) 0) - 1)) ∧ (kd (hR h5 (hR h5 (hR h5 (hR h5 l0 3) l1.toNatClampNeg) 0) l2.toNatClampNeg).1 = (1, 7)) ∧ (kd (hR h5 (hR h5 (hR h5 (hR h5 (hR h5 l0 3) l1.toNatClampNeg) 0) l2.toNatClampNeg) 0).1 = (2, 0)) ∧ (vp_in l4 (hS h5 (hR h5 (hR h5 (hR h5 (hR h5 (hR h5 l0 3) l1.toNatClampNeg) 0) l2.toNatClampNeg) 0) - 1)) ∧ ∀ v16 : Int32, v16 = hI h5 (hR h5 (hR h5 (hR h5 (hR h5 (hR h5 l0 3) l1.toNatClampNeg) 0) l2.toNatClampNeg) 0) l4.toNatClampNeg → ((¬ v16 = 0 → (vp_in l1 (hS h5 (hR h5 l0 3) - 1)) ∧ (vp_in l2 (hS h5 (hR h5 (hR h5 (hR h5 l0 3) l1.toNatClampNeg) 0) - 1)) ∧ (vp_in l3 (hS h5 (hR h5 (hR h5 (hR h5 (hR h5 (hR h5 l0 3) l1.toNatClampNeg) 0) l2.toNatClampNeg) 0) - 1)) ∧ (¬ v16 = 0) ∧ Q ((hI h5 (hR h5 (hR h5 (hR h5 (hR h5 (hR h5 l0 3) l1.toNatClampNeg) 0) l2.toNatClampNeg) 0) l3.toNatClampNeg) / v16) h5) ∧ (v16 = 0 → p_T_found l0 (6 : Int32) h5 (fun (v24 : Int32) (h23 : xH) => Q (0 : Int32) h23)))) ∧ (¬ v6 = 0 → Q (0 : Int32) h5))))))
set_option maxRecDepth 100000 in
set_option maxHeartbeats 4000000 in
theorem t_T_change (l0 : xN) (l1 : Int32) (l2 : Int32) (l3 : Int32) (l4 : Int32) (h : xH) (Q : Int32 → xH → Prop) (H : p_T_change l0 l1 l2 l3 l4 h Q) : WP M_T_change 0 [(0, xr l0), (1, xi l1), (2, xi l2), (3, xi l3), (4, xi l4)] [] h 0 (qi Q) := by
  unfold p_T_change at H
  refine wp_aload_n 0 rfl rfl dX10_change_0 ?_
  refine wp_iload_n 1 rfl rfl dX10_change_1 ?_
  refine wp_iload_n 2 rfl rfl dX10_change_2 ?_
  refine wp_iconst (3 : Int32) (by decide) dX10_change_3 ?_
  refine wp_iload_n 3 rfl rfl dX10_change_4 ?_
  refine WP.at 5 rfl ?_
  obtain ⟨q1, H⟩ := H
  refine wp_cVi (M2 := M_T_refuseCell) coX10 l0 q1 [xi l1, xi l2, xi (3 : Int32), xi l3] rfl lv_X10_317 mo_T_refuseCell (Nat.le_of_ble_eq_true rfl) ⟨(Nat.le_of_ble_eq_true rfl), (Nat.le_of_ble_eq_true rfl)⟩ (Nat.le_of_ble_eq_true rfl) (Nat.le_of_ble_eq_true rfl) dX10_change_5 (t_T_refuseCell l0 l1 l2 (3 : Int32) l3 _ _ H) (fun v3 h2 H => ?_)
  refine WP.at 8 rfl ?_
  refine wp_if_ne 23 (by decide) dX10_change_8 (fun c4 => ?_) (fun c4 => ?_)
  · replace H := H.1 c4
    refine wp_iconst (0 : Int32) (by decide) dX10_change_23 ?_
    exact wp_iret trivial dX10_change_24 H
  · replace H := H.2 c4
    refine wp_aload_n 0 rfl rfl dX10_change_11 ?_
    refine wp_iload_n 1 rfl rfl dX10_change_12 ?_
    refine wp_iload_n 2 rfl rfl dX10_change_13 ?_
    refine wp_iconst (3 : Int32) (by decide) dX10_change_14 ?_
    refine wp_iload rfl dX10_change_15 ?_
    refine WP.at 17 rfl ?_
    refine wp_cVi (M2 := M_T_refuseCell) coX10 l0 q1 [xi l1, xi l2, xi (3 : Int32), xi l4] rfl lv_X10_317 mo_T_refuseCell (Nat.le_of_ble_eq_true rfl) ⟨(Nat.le_of_ble_eq_true rfl), (Nat.le_of_ble_eq_true rfl)⟩ (Nat.le_of_ble_eq_true rfl) (Nat.le_of_ble_eq_true rfl) dX10_change_17 (t_T_refuseCell l0 l1 l2 (3 : Int32) l4 _ _ H) (fun v6 h5 H => ?_)
    refine WP.at 20 rfl ?_
    refine wp_if_eq 25 (by decide) dX10_change_20 (fun c7 => ?_) (fun c7 => ?_)
    · replace H := H.1 c7
      refine wp_aload_n 0 rfl rfl dX10_change_25 ?_
      refine wp_getr coX10 3 (Nat.le_of_ble_eq_true rfl) fl_X10_29 rfl q1 dX10_change_26 ?_
      refine wp_iload_n 1 rfl rfl dX10_change_29 ?_
      obtain ⟨q8, H⟩ := H
      obtain ⟨q9, H⟩ := H
      refine wp_aaload q8 q9 dX10_change_30 ?_
      obtain ⟨q10, H⟩ := H
      refine wp_getr coX1 0 (Nat.le_of_ble_eq_true rfl) fl_X10_288 rfl q10 dX10_change_31 ?_
      refine wp_iload_n 2 rfl rfl dX10_change_34 ?_
      obtain ⟨q11, H⟩ := H
      obtain ⟨q12, H⟩ := H
      refine wp_aaload q11 q12 dX10_change_35 ?_
      refine WP.at 36 rfl ?_
      obtain ⟨q13, H⟩ := H
      refine wp_getr coX8 0 (Nat.le_of_ble_eq_true rfl) fl_X10_321 rfl q13 dX10_change_36 ?_
      refine wp_iload rfl dX10_change_39 ?_
      obtain ⟨q14, H⟩ := H
      obtain ⟨q15, H⟩ := H
      refine wp_iaload q14 q15 dX10_change_41 ?_
      refine wp_nm (fun v16 e17 => ?_)
      replace H := H v16 e17
      refine wp_istore (Nat.le_of_ble_eq_true rfl) dX10_change_42 (ls' := [(5, xi v16), (0, xr l0), (1, xi l1), (2, xi l2), (3, xi l3), (4, xi l4)]) rfl ?_
      refine wp_iload rfl dX10_change_44 ?_
      refine WP.at 46 rfl ?_
      refine wp_if_ne 58 (by decide) dX10_change_46 (fun c18 => ?_) (fun c18 => ?_)
      · replace H := H.1 c18
        refine wp_aload_n 0 rfl rfl dX10_change_58 ?_
        refine wp_getr coX10 3 (Nat.le_of_ble_eq_true rfl) fl_X10_29 rfl q1 dX10_change_59 ?_
        refine wp_iload_n 1 rfl rfl dX10_change_62 ?_
        obtain ⟨q19, H⟩ := H
        refine wp_aaload q8 q19 dX10_change_63 ?_
        refine wp_getr coX1 0 (Nat.le_of_ble_eq_true rfl) fl_X10_288 rfl q10 dX10_change_64 ?_
        refine wp_iload_n 2 rfl rfl dX10_change_67 ?_
        obtain ⟨q20, H⟩ := H
        refine wp_aaload q11 q20 dX10_change_68 ?_
        refine WP.at 69 rfl ?_
        refine wp_getr coX8 0 (Nat.le_of_ble_eq_true rfl) fl_X10_321 rfl q13 dX10_change_69 ?_
        refine wp_iload_n 3 rfl rfl dX10_change_72 ?_
        obtain ⟨q21, H⟩ := H
        refine wp_iaload q14 q21 dX10_change_73 ?_
        refine wp_iload rfl dX10_change_74 ?_
        obtain ⟨q22, H⟩ := H
        refine wp_idiv q22 dX10_change_76 ?_
        exact wp_iret trivial dX10_change_77 H
      · replace H := H.2 c18
        refine wp_aload_n 0 rfl rfl dX10_change_49 ?_
        refine wp_bipush (6 : Int32) (by decide) dX10_change_50 ?_
        refine WP.at 52 rfl ?_
        refine wp_cVi (M2 := M_T_found) coX10 l0 q1 [xi (6 : Int32)] rfl lv_X10_272 mo_T_found (Nat.le_of_ble_eq_true rfl) ⟨(Nat.le_of_ble_eq_true rfl), (Nat.le_of_ble_eq_true rfl)⟩ (Nat.le_of_ble_eq_true rfl) (Nat.le_of_ble_eq_true rfl) dX10_change_52 (t_T_found l0 (6 : Int32) _ _ H) (fun v24 h23 H => ?_)
        refine wp_pop rfl dX10_change_55 ?_
        refine wp_iconst (0 : Int32) (by decide) dX10_change_56 ?_
        exact wp_iret trivial dX10_change_57 H
    · replace H := H.2 c7
      refine wp_iconst (0 : Int32) (by decide) dX10_change_23 ?_
      exact wp_iret trivial dX10_change_24 H
