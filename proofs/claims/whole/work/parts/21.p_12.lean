def p_M_digest_L31 (l0 : xN) (l3 : Int32) (K31_66 : Int64 → xH → Prop) (Q : Int64 → xH → Prop) : Nat → Int64 → Int32 → xH → Prop
  | 0, _, _, _ => False
  | f + 1, l1, l4, h => (kd l0.1 = (1, 10)) ∧ (kd (hR h l0 2).1 = (2, 0)) ∧ (vp_in l3 (hS h (hR h l0 2) - 1)) ∧ (((hI h (hR h l0 2) l3.toNatClampNeg) < l4 → K31_66 l1 h) ∧ (¬ (hI h (hR h l0 2) l3.toNatClampNeg) < l4 → p_M_raceAt l0 l3 ((10 : Int32) + l4) h (fun (v12 : Int32) (h11 : xH) => ∀ v13 : Int64, v13 = ((31 : Int64) * l1) + (v12.toInt64) → ∀ v15 : Int32, v15 = l4 + (1 : Int32) → (p_M_digest_L31 l0 l3 K31_66 Q f) v13 v15 h11)))
set_option maxRecDepth 100000 in
set_option maxHeartbeats 4000000 in
theorem t_M_digest_L31 (l0 : xN) (l3 : Int32) (K31_66 : Int64 → xH → Prop) (Q : Int64 → xH → Prop) (hK31_66 : ∀ (x1 : Int64) (h : xH), K31_66 x1 h → WP M_M_digest 66 [(0, xr l0), (1, xl x1), (3, xi l3)] [] h 0 (ql Q)) : ∀ (f : Nat) (l1 : Int64) (l4 : Int32) (h : xH), p_M_digest_L31 l0 l3 K31_66 Q f l1 l4 h → WP M_M_digest 31 [(0, xr l0), (1, xl l1), (3, xi l3), (4, xi l4)] [] h 0 (ql Q) := by
  intro f
  induction f with
  | zero => exact fun _ _ _ H => H.elim
  | succ f hB31 =>
    intro l1 l4 h H
    unfold p_M_digest_L31 at H
    refine wp_iload rfl dX11_digest_31 ?_
    refine wp_aload_n 0 rfl rfl dX11_digest_33 ?_
    obtain ⟨q7, H⟩ := H
    refine wp_getr coX11 2 (Nat.le_of_ble_eq_true rfl) fl_X11_13 rfl q7 dX11_digest_34 ?_
    refine wp_iload_n 3 rfl rfl dX11_digest_37 ?_
    obtain ⟨q8, H⟩ := H
    obtain ⟨q9, H⟩ := H
    refine wp_iaload q8 q9 dX11_digest_38 ?_
    refine WP.at 39 rfl ?_
    refine wp_icmp_gt 66 (by decide) dX11_digest_39 (fun c10 => ?_) (fun c10 => ?_)
    · replace H := H.1 c10
      exact WP.pick [0, 1, 2] rfl (hK31_66 l1 _ H)
    · replace H := H.2 c10
      refine wp_ldc2 (31 : Int64) cL_X11_401 dX11_digest_42 ?_
      refine wp_lload_n 1 rfl rfl dX11_digest_45 ?_
      refine wp_lmul dX11_digest_46 ?_
      refine wp_aload_n 0 rfl rfl dX11_digest_47 ?_
      refine wp_iload_n 3 rfl rfl dX11_digest_48 ?_
      refine wp_bipush (10 : Int32) (by decide) dX11_digest_49 ?_
      refine wp_iload rfl dX11_digest_51 ?_
      refine WP.at 53 rfl ?_
      refine wp_iadd dX11_digest_53 ?_
      refine WP.at 54 rfl ?_
      refine wp_cVi (M2 := M_M_raceAt) coX11 l0 q7 [xi l3, xi ((10 : Int32) + l4)] rfl lv_X11_403 mo_M_raceAt (Nat.le_of_ble_eq_true rfl) ⟨(Nat.le_of_ble_eq_true rfl), (Nat.le_of_ble_eq_true rfl)⟩ (Nat.le_of_ble_eq_true rfl) (Nat.le_of_ble_eq_true rfl) dX11_digest_54 (t_M_raceAt l0 l3 ((10 : Int32) + l4) _ _ H) (fun v12 h11 H => ?_)
      refine wp_i2l dX11_digest_57 ?_
      refine wp_ladd dX11_digest_58 ?_
      refine wp_nml (fun v13 e14 => ?_)
      replace H := H v13 e14
      refine wp_lstore_n 1 rfl (Nat.le_of_ble_eq_true rfl) dX11_digest_59 (ls' := [(1, xl v13), (0, xr l0), (3, xi l3), (4, xi l4)]) rfl ?_
      refine wp_iincN (1 : Int32) (by decide) rfl (Nat.le_of_ble_eq_true rfl) dX11_digest_60 (ls' := fun v15 => [(4, xi v15), (1, xl v13), (0, xr l0), (3, xi l3)]) (fun _ => rfl) (fun v15 e16 => ?_)
      replace H := H v15 e16
      refine WP.at 63 rfl ?_
      refine wp_goto 31 (by decide) dX11_digest_63 ?_
      exact WP.pick [2, 1, 3, 0] rfl (hB31 v13 v15 _ H)
def p_M_digest_L6 (l0 : xN) (K6_90 : Int64 → xH → Prop) (Q : Int64 → xH → Prop) : Nat → Int64 → Int32 → xH → Prop
  | 0, _, _, _ => False
  | f + 1, l1, l3, h => (kd l0.1 = (1, 10)) ∧ (((hI h l0 0) ≤ l3 → K6_90 l1 h) ∧ (¬ (hI h l0 0) ≤ l3 → (kd (hR h l0 1).1 = (2, 0)) ∧ (vp_in l3 (hS h (hR h l0 1) - 1)) ∧ ∀ v5 : Int64, v5 = ((31 : Int64) * l1) + ((hI h (hR h l0 1) l3.toNatClampNeg).toInt64) → (∃ f25, p_M_digest_L31 l0 l3 (fun (x17 : Int64) (h18 : xH) => (kd (hR h18 l0 16).1 = (2, 0)) ∧ (vp_in (((4 : Int32) * l3) + (3 : Int32)) (hS h18 (hR h18 l0 16) - 1)) ∧ ∀ v21 : Int64, v21 = ((31 : Int64) * x17) + ((hI h18 (hR h18 l0 16) (((4 : Int32) * l3) + (3 : Int32)).toNatClampNeg).toInt64) → ∀ v23 : Int32, v23 = l3 + (1 : Int32) → (p_M_digest_L6 l0 K6_90 Q f) v21 v23 h18) Q f25 v5 (1 : Int32) h)))
set_option maxRecDepth 100000 in
set_option maxHeartbeats 4000000 in
theorem t_M_digest_L6 (l0 : xN) (K6_90 : Int64 → xH → Prop) (Q : Int64 → xH → Prop) (hK6_90 : ∀ (x1 : Int64) (h : xH), K6_90 x1 h → WP M_M_digest 90 [(0, xr l0), (1, xl x1)] [] h 0 (ql Q)) : ∀ (f : Nat) (l1 : Int64) (l3 : Int32) (h : xH), p_M_digest_L6 l0 K6_90 Q f l1 l3 h → WP M_M_digest 6 [(0, xr l0), (1, xl l1), (3, xi l3)] [] h 0 (ql Q) := by
  intro f
  induction f with
  | zero => exact fun _ _ _ H => H.elim
  | succ f hB6 =>
    intro l1 l3 h H
    unfold p_M_digest_L6 at H
    refine wp_iload_n 3 rfl rfl dX11_digest_6 ?_
    refine wp_aload_n 0 rfl rfl dX11_digest_7 ?_
    obtain ⟨q1, H⟩ := H
    refine wp_geti coX11 0 (Nat.le_of_ble_eq_true rfl) fl_X11_168 rfl q1 dX11_digest_8 ?_
    refine WP.at 11 rfl ?_
    refine wp_icmp_ge 90 (by decide) dX11_digest_11 (fun c2 => ?_) (fun c2 => ?_)
    · replace H := H.1 c2
      exact WP.pick [0, 1] rfl (hK6_90 l1 _ H)
    · replace H := H.2 c2
      refine wp_ldc2 (31 : Int64) cL_X11_401 dX11_digest_14 ?_
      refine wp_lload_n 1 rfl rfl dX11_digest_17 ?_
      refine wp_lmul dX11_digest_18 ?_
      refine wp_aload_n 0 rfl rfl dX11_digest_19 ?_
      refine wp_getr coX11 1 (Nat.le_of_ble_eq_true rfl) fl_X11_7 rfl q1 dX11_digest_20 ?_
      refine wp_iload_n 3 rfl rfl dX11_digest_23 ?_
      obtain ⟨q3, H⟩ := H
      obtain ⟨q4, H⟩ := H
      refine wp_iaload q3 q4 dX11_digest_24 ?_
      refine WP.at 25 rfl ?_
      refine wp_i2l dX11_digest_25 ?_
      refine wp_ladd dX11_digest_26 ?_
      refine wp_nml (fun v5 e6 => ?_)
      replace H := H v5 e6
      refine wp_lstore_n 1 rfl (Nat.le_of_ble_eq_true rfl) dX11_digest_27 (ls' := [(1, xl v5), (0, xr l0), (3, xi l3)]) rfl ?_
      refine wp_iconst (1 : Int32) (by decide) dX11_digest_28 ?_
      refine wp_istore (Nat.le_of_ble_eq_true rfl) dX11_digest_29 (ls' := [(4, xi (1 : Int32)), (1, xl v5), (0, xr l0), (3, xi l3)]) rfl ?_
      refine WP.at 31 rfl ?_
      obtain ⟨f25, H⟩ := H
      refine WP.pick [2, 1, 3, 0] rfl (t_M_digest_L31 l0 l3 _ Q ?_ f25 v5 (1 : Int32) _ H)
      · intro x17 h18 H
        refine wp_ldc2 (31 : Int64) cL_X11_401 dX11_digest_66 ?_
        refine wp_lload_n 1 rfl rfl dX11_digest_69 ?_
        refine wp_lmul dX11_digest_70 ?_
        refine wp_aload_n 0 rfl rfl dX11_digest_71 ?_
        refine wp_getr coX11 16 (Nat.le_of_ble_eq_true rfl) fl_X11_50 rfl q1 dX11_digest_72 ?_
        refine wp_iconst (4 : Int32) (by decide) dX11_digest_75 ?_
        refine wp_iload_n 3 rfl rfl dX11_digest_76 ?_
        refine WP.at 77 rfl ?_
        refine wp_imul dX11_digest_77 ?_
        refine wp_iconst (3 : Int32) (by decide) dX11_digest_78 ?_
        refine wp_iadd dX11_digest_79 ?_
        obtain ⟨q19, H⟩ := H
        obtain ⟨q20, H⟩ := H
        refine wp_iaload q19 q20 dX11_digest_80 ?_
        refine wp_i2l dX11_digest_81 ?_
        refine wp_ladd dX11_digest_82 ?_
        refine wp_nml (fun v21 e22 => ?_)
        replace H := H v21 e22
        refine wp_lstore_n 1 rfl (Nat.le_of_ble_eq_true rfl) dX11_digest_83 (ls' := [(1, xl v21), (0, xr l0), (3, xi l3)]) rfl ?_
        refine wp_iincN (1 : Int32) (by decide) rfl (Nat.le_of_ble_eq_true rfl) dX11_digest_84 (ls' := fun v23 => [(3, xi v23), (1, xl v21), (0, xr l0)]) (fun _ => rfl) (fun v23 e24 => ?_)
        replace H := H v23 e24
        refine WP.at 87 rfl ?_
        refine WP.at 87 rfl ?_
        refine wp_goto 6 (by decide) dX11_digest_87 ?_
        exact WP.pick [2, 1, 0] rfl (hB6 v21 v23 _ H)
def p_M_digest_L119 (l0 : xN) (l3 : Int32) (K119_147 : Int64 → xH → Prop) (Q : Int64 → xH → Prop) : Nat → Int64 → Int32 → xH → Prop
  | 0, _, _, _ => False
  | f + 1, l1, l4, h => (((11 : Int32) ≤ l4 → K119_147 l1 h) ∧ (¬ (11 : Int32) ≤ l4 → (kd l0.1 = (1, 10)) ∧ p_M_book l0 l3 l4 h (fun (v40 : Int32) (h39 : xH) => ∀ v41 : Int64, v41 = ((31 : Int64) * l1) + (v40.toInt64) → ∀ v43 : Int32, v43 = l4 + (1 : Int32) → (p_M_digest_L119 l0 l3 K119_147 Q f) v41 v43 h39)))
set_option maxRecDepth 100000 in
set_option maxHeartbeats 4000000 in
theorem t_M_digest_L119 (l0 : xN) (l3 : Int32) (K119_147 : Int64 → xH → Prop) (Q : Int64 → xH → Prop) (hK119_147 : ∀ (x1 : Int64) (h : xH), K119_147 x1 h → WP M_M_digest 147 [(0, xr l0), (1, xl x1), (3, xi l3)] [] h 0 (ql Q)) : ∀ (f : Nat) (l1 : Int64) (l4 : Int32) (h : xH), p_M_digest_L119 l0 l3 K119_147 Q f l1 l4 h → WP M_M_digest 119 [(0, xr l0), (1, xl l1), (3, xi l3), (4, xi l4)] [] h 0 (ql Q) := by
  intro f
  induction f with
  | zero => exact fun _ _ _ H => H.elim
  | succ f hB119 =>
    intro l1 l4 h H
    unfold p_M_digest_L119 at H
    refine wp_iload rfl dX11_digest_119 ?_
    refine wp_bipush (11 : Int32) (by decide) dX11_digest_121 ?_
    refine WP.at 123 rfl ?_
    refine wp_icmp_ge 147 (by decide) dX11_digest_123 (fun c37 => ?_) (fun c37 => ?_)
    · replace H := H.1 c37
      exact WP.pick [0, 1, 2] rfl (hK119_147 l1 _ H)
    · replace H := H.2 c37
      refine wp_ldc2 (31 : Int64) cL_X11_401 dX11_digest_126 ?_
      refine wp_lload_n 1 rfl rfl dX11_digest_129 ?_
      refine wp_lmul dX11_digest_130 ?_
      refine wp_aload_n 0 rfl rfl dX11_digest_131 ?_
      refine wp_iload_n 3 rfl rfl dX11_digest_132 ?_
      refine wp_iload rfl dX11_digest_133 ?_
      refine WP.at 135 rfl ?_
      obtain ⟨q38, H⟩ := H
      refine wp_cVi (M2 := M_M_book) coX11 l0 q38 [xi l3, xi l4] rfl lv_X11_406 mo_M_book (Nat.le_of_ble_eq_true rfl) ⟨(Nat.le_of_ble_eq_true rfl), (Nat.le_of_ble_eq_true rfl)⟩ (Nat.le_of_ble_eq_true rfl) (Nat.le_of_ble_eq_true rfl) dX11_digest_135 (t_M_book l0 l3 l4 _ _ H) (fun v40 h39 H => ?_)
      refine WP.at 138 rfl ?_
      refine wp_i2l dX11_digest_138 ?_
      refine wp_ladd dX11_digest_139 ?_
      refine wp_nml (fun v41 e42 => ?_)
      replace H := H v41 e42
      refine wp_lstore_n 1 rfl (Nat.le_of_ble_eq_true rfl) dX11_digest_140 (ls' := [(1, xl v41), (0, xr l0), (3, xi l3), (4, xi l4)]) rfl ?_
      refine wp_iincN (1 : Int32) (by decide) rfl (Nat.le_of_ble_eq_true rfl) dX11_digest_141 (ls' := fun v43 => [(4, xi v43), (1, xl v41), (0, xr l0), (3, xi l3)]) (fun _ => rfl) (fun v43 e44 => ?_)
      replace H := H v43 e44
      refine WP.at 144 rfl ?_
      refine wp_goto 119 (by decide) dX11_digest_144 ?_
      exact WP.pick [2, 1, 3, 0] rfl (hB119 v41 v43 _ H)
def p_M_digest_L92 (l0 : xN) (K92_153 : Int64 → xH → Prop) (Q : Int64 → xH → Prop) : Nat → Int64 → Int32 → xH → Prop
  | 0, _, _, _ => False
  | f + 1, l1, l3, h => (((49 : Int32) ≤ l3 → K92_153 l1 h) ∧ (¬ (49 : Int32) ≤ l3 → (kd l0.1 = (1, 10)) ∧ (kd (hR h l0 6).1 = (3, 0)) ∧ (vp_in l3 (hS h (hR h l0 6) - 1)) ∧ (((hI h (hR h l0 6) l3.toNatClampNeg) = 0 → ∀ v33 : Int32, v33 = l3 + (1 : Int32) → (p_M_digest_L92 l0 K92_153 Q f) l1 v33 h) ∧ (¬ (hI h (hR h l0 6) l3.toNatClampNeg) = 0 → ∀ v35 : Int64, v35 = ((31 : Int64) * l1) + (l3.toInt64) → (∃ f49, p_M_digest_L119 l0 l3 (fun (x45 : Int64) (h46 : xH) => ∀ v47 : Int32, v47 = l3 + (1 : Int32) → (p_M_digest_L92 l0 K92_153 Q f) x45 v47 h46) Q f49 v35 (0 : Int32) h)))))
set_option maxRecDepth 100000 in
set_option maxHeartbeats 4000000 in
theorem t_M_digest_L92 (l0 : xN) (K92_153 : Int64 → xH → Prop) (Q : Int64 → xH → Prop) (hK92_153 : ∀ (x1 : Int64) (h : xH), K92_153 x1 h → WP M_M_digest 153 [(0, xr l0), (1, xl x1)] [] h 0 (ql Q)) : ∀ (f : Nat) (l1 : Int64) (l3 : Int32) (h : xH), p_M_digest_L92 l0 K92_153 Q f l1 l3 h → WP M_M_digest 92 [(0, xr l0), (1, xl l1), (3, xi l3)] [] h 0 (ql Q) := by
  intro f
  induction f with
  | zero => exact fun _ _ _ H => H.elim
  | succ f hB92 =>
    intro l1 l3 h H
    unfold p_M_digest_L92 at H
    refine wp_iload_n 3 rfl rfl dX11_digest_92 ?_
    refine wp_bipush (49 : Int32) (by decide) dX11_digest_93 ?_
    refine WP.at 95 rfl ?_
    refine wp_icmp_ge 153 (by decide) dX11_digest_95 (fun c28 => ?_) (fun c28 => ?_)
    · replace H := H.1 c28
      exact WP.pick [0, 1] rfl (hK92_153 l1 _ H)
    · replace H := H.2 c28
      refine wp_aload_n 0 rfl rfl dX11_digest_98 ?_
      obtain ⟨q29, H⟩ := H
      refine wp_getr coX11 6 (Nat.le_of_ble_eq_true rfl) fl_X11_26 rfl q29 dX11_digest_99 ?_
      refine wp_iload_n 3 rfl rfl dX11_digest_102 ?_
      obtain ⟨q30, H⟩ := H
      obtain ⟨q31, H⟩ := H
      refine wp_baload q30 q31 dX11_digest_103 ?_
      refine WP.at 104 rfl ?_
      refine wp_if_eq 147 (by decide) dX11_digest_104 (fun c32 => ?_) (fun c32 => ?_)
      · replace H := H.1 c32
        refine wp_iincN (1 : Int32) (by decide) rfl (Nat.le_of_ble_eq_true rfl) dX11_digest_147 (ls' := fun v33 => [(3, xi v33), (0, xr l0), (1, xl l1)]) (fun _ => rfl) (fun v33 e34 => ?_)
        replace H := H v33 e34
        refine WP.at 150 rfl ?_
        refine wp_goto 92 (by decide) dX11_digest_150 ?_
        exact WP.pick [1, 2, 0] rfl (hB92 l1 v33 _ H)
      · replace H := H.2 c32
        refine wp_ldc2 (31 : Int64) cL_X11_401 dX11_digest_107 ?_
        refine wp_lload_n 1 rfl rfl dX11_digest_110 ?_
        refine wp_lmul dX11_digest_111 ?_
        refine wp_iload_n 3 rfl rfl dX11_digest_112 ?_
        refine wp_i2l dX11_digest_113 ?_
        refine wp_ladd dX11_digest_114 ?_
        refine wp_nml (fun v35 e36 => ?_)
        replace H := H v35 e36
        refine wp_lstore_n 1 rfl (Nat.le_of_ble_eq_true rfl) dX11_digest_115 (ls' := [(1, xl v35), (0, xr l0), (3, xi l3)]) rfl ?_
        refine WP.at 116 rfl ?_
        refine wp_iconst (0 : Int32) (by decide) dX11_digest_116 ?_
        refine wp_istore (Nat.le_of_ble_eq_true rfl) dX11_digest_117 (ls' := [(4, xi (0 : Int32)), (1, xl v35), (0, xr l0), (3, xi l3)]) rfl ?_
        refine WP.at 119 rfl ?_
        obtain ⟨f49, H⟩ := H
        refine WP.pick [2, 1, 3, 0] rfl (t_M_digest_L119 l0 l3 _ Q ?_ f49 v35 (0 : Int32) _ H)
        · intro x45 h46 H
          refine wp_iincN (1 : Int32) (by decide) rfl (Nat.le_of_ble_eq_true rfl) dX11_digest_147 (ls' := fun v47 => [(3, xi v47), (0, xr l0), (1, xl x45)]) (fun _ => rfl) (fun v47 e48 => ?_)
          replace H := H v47 e48
          refine WP.at 150 rfl ?_
          refine wp_goto 92 (by decide) dX11_digest_150 ?_
          exact WP.pick [1, 2, 0] rfl (hB92 x45 v47 _ H)
def p_M_digest_L155 (l0 : xN) (K155_225 : Int64 → xH → Prop) (Q : Int64 → xH → Prop) : Nat → Int64 → Int32 → xH → Prop
  | 0, _, _, _ => False
  | f + 1, l1, l3, h => (kd l0.1 = (1, 10)) ∧ (((hI h l0 23) ≤ l3 → K155_225 l1 h) ∧ (¬ (hI h l0 23) ≤ l3 → (kd (hR h l0 25).1 = (2, 0)) ∧ (vp_in l3 (hS h (hR h l0 25) - 1)) ∧ ∀ v56 : Int64, v56 = ((31 : Int64) * l1) + ((hI h (hR h l0 25) l3.toNatClampNeg).toInt64) → (kd (hR h l0 26).1 = (2, 0)) ∧ (vp_in l3 (hS h (hR h l0 26) - 1)) ∧ ∀ v60 : Int64, v60 = ((31 : Int64) * v56) + ((hI h (hR h l0 26) l3.toNatClampNeg).toInt64) → (kd (hR h l0 28).1 = (2, 0)) ∧ (vp_in l3 (hS h (hR h l0 28) - 1)) ∧ ∀ v64 : Int64, v64 = ((31 : Int64) * v60) + ((hI h (hR h l0 28) l3.toNatClampNeg).toInt64) → (kd (hR h l0 29).1 = (2, 0)) ∧ (vp_in l3 (hS h (hR h l0 29) - 1)) ∧ ∀ v68 : Int64, v68 = ((31 : Int64) * v64) + ((hI h (hR h l0 29) l3.toNatClampNeg).toInt64) → ∀ v70 : Int32, v70 = l3 + (1 : Int32) → (p_M_digest_L155 l0 K155_225 Q f) v68 v70 h))
set_option maxRecDepth 100000 in
set_option maxHeartbeats 4000000 in
theorem t_M_digest_L155 (l0 : xN) (K155_225 : Int64 → xH → Prop) (Q : Int64 → xH → Prop) (hK155_225 : ∀ (x1 : Int64) (h : xH), K155_225 x1 h → WP M_M_digest 225 [(0, xr l0), (1, xl x1)] [] h 0 (ql Q)) : ∀ (f : Nat) (l1 : Int64) (l3 : Int32) (h : xH), p_M_digest_L155 l0 K155_225 Q f l1 l3 h → WP M_M_digest 155 [(0, xr l0), (1, xl l1), (3, xi l3)] [] h 0 (ql Q) := by
  intro f
  induction f with
  | zero => exact fun _ _ _ H => H.elim
  | succ f hB155 =>
    intro l1 l3 h H
    unfold p_M_digest_L155 at H
    refine wp_iload_n 3 rfl rfl dX11_digest_155 ?_
    refine wp_aload_n 0 rfl rfl dX11_digest_156 ?_
    obtain ⟨q52, H⟩ := H
    refine wp_geti coX11 23 (Nat.le_of_ble_eq_true rfl) fl_X11_205 rfl q52 dX11_digest_157 ?_
    refine WP.at 160 rfl ?_
    refine wp_icmp_ge 225 (by decide) dX11_digest_160 (fun c53 => ?_) (fun c53 => ?_)
    · replace H := H.1 c53
      exact WP.pick [0, 1] rfl (hK155_225 l1 _ H)
    · replace H := H.2 c53
      refine wp_ldc2 (31 : Int64) cL_X11_401 dX11_digest_163 ?_
      refine wp_lload_n 1 rfl rfl dX11_digest_166 ?_
      refine wp_lmul dX11_digest_167 ?_
      refine wp_aload_n 0 rfl rfl dX11_digest_168 ?_
      refine wp_getr coX11 25 (Nat.le_of_ble_eq_true rfl) fl_X11_71 rfl q52 dX11_digest_169 ?_
      refine wp_iload_n 3 rfl rfl dX11_digest_172 ?_
      obtain ⟨q54, H⟩ := H
      obtain ⟨q55, H⟩ := H
      refine wp_iaload q54 q55 dX11_digest_173 ?_
      refine WP.at 174 rfl ?_
      refine wp_i2l dX11_digest_174 ?_
      refine wp_ladd dX11_digest_175 ?_
      refine wp_nml (fun v56 e57 => ?_)
      replace H := H v56 e57
      refine wp_lstore_n 1 rfl (Nat.le_of_ble_eq_true rfl) dX11_digest_176 (ls' := [(1, xl v56), (0, xr l0), (3, xi l3)]) rfl ?_
      refine wp_ldc2 (31 : Int64) cL_X11_401 dX11_digest_177 ?_
      refine wp_lload_n 1 rfl rfl dX11_digest_180 ?_
      refine wp_lmul dX11_digest_181 ?_
      refine wp_aload_n 0 rfl rfl dX11_digest_182 ?_
      refine wp_getr coX11 26 (Nat.le_of_ble_eq_true rfl) fl_X11_74 rfl q52 dX11_digest_183 ?_
      refine WP.at 186 rfl ?_
      refine wp_iload_n 3 rfl rfl dX11_digest_186 ?_
      obtain ⟨q58, H⟩ := H
      obtain ⟨q59, H⟩ := H
      refine wp_iaload q58 q59 dX11_digest_187 ?_
      refine wp_i2l dX11_digest_188 ?_
      refine wp_ladd dX11_digest_189 ?_
      refine wp_nml (fun v60 e61 => ?_)
      replace H := H v60 e61
      refine wp_lstore_n 1 rfl (Nat.le_of_ble_eq_true rfl) dX11_digest_190 (ls' := [(1, xl v60), (0, xr l0), (3, xi l3)]) rfl ?_
      refine wp_ldc2 (31 : Int64) cL_X11_401 dX11_digest_191 ?_
      refine wp_lload_n 1 rfl rfl dX11_digest_194 ?_
      refine wp_lmul dX11_digest_195 ?_
      refine WP.at 196 rfl ?_
      refine wp_aload_n 0 rfl rfl dX11_digest_196 ?_
      refine wp_getr coX11 28 (Nat.le_of_ble_eq_true rfl) fl_X11_80 rfl q52 dX11_digest_197 ?_
      refine wp_iload_n 3 rfl rfl dX11_digest_200 ?_
      obtain ⟨q62, H⟩ := H
      obtain ⟨q63, H⟩ := H
      refine wp_iaload q62 q63 dX11_digest_201 ?_
      refine wp_i2l dX11_digest_202 ?_
      refine wp_ladd dX11_digest_203 ?_
      refine wp_nml (fun v64 e65 => ?_)
      replace H := H v64 e65
      refine wp_lstore_n 1 rfl (Nat.le_of_ble_eq_true rfl) dX11_digest_204 (ls' := [(1, xl v64), (0, xr l0), (3, xi l3)]) rfl ?_
      refine wp_ldc2 (31 : Int64) cL_X11_401 dX11_digest_205 ?_
      refine WP.at 208 rfl ?_
      refine wp_lload_n 1 rfl rfl dX11_digest_208 ?_
      refine wp_lmul dX11_digest_209 ?_
      refine wp_aload_n 0 rfl rfl dX11_digest_210 ?_
      refine wp_getr coX11 29 (Nat.le_of_ble_eq_true rfl) fl_X11_83 rfl q52 dX11_digest_211 ?_
      refine wp_iload_n 3 rfl rfl dX11_digest_214 ?_
      obtain ⟨q66, H⟩ := H
      obtain ⟨q67, H⟩ := H
      refine wp_iaload q66 q67 dX11_digest_215 ?_
      refine wp_i2l dX11_digest_216 ?_
      refine wp_ladd dX11_digest_217 ?_
      refine WP.at 218 rfl ?_
      refine wp_nml (fun v68 e69 => ?_)
      replace H := H v68 e69
      refine wp_lstore_n 1 rfl (Nat.le_of_ble_eq_true rfl) dX11_digest_218 (ls' := [(1, xl v68), (0, xr l0), (3, xi l3)]) rfl ?_
      refine wp_iincN (1 : Int32) (by decide) rfl (Nat.le_of_ble_eq_true rfl) dX11_digest_219 (ls' := fun v70 => [(3, xi v70), (1, xl v68), (0, xr l0)]) (fun _ => rfl) (fun v70 e71 => ?_)
      replace H := H v70 e71
      refine WP.at 222 rfl ?_
      refine wp_goto 155 (by decide) dX11_digest_222 ?_
      exact WP.pick [2, 1, 0] rfl (hB155 v68 v70 _ H)
def p_M_digest (l0 : xN) (h : xH) (Q : Int64 → xH → Prop) : Prop := (∃ f77, p_M_digest_L6 l0 (fun (x26 : Int64) (h27 : xH) => (∃ f76, p_M_digest_L92 l0 (fun (x50 : Int64) (h51 : xH) => (∃ f75, p_M_digest_L155 l0 (fun (x72 : Int64) (h73 : xH) => (kd l0.1 = (1, 10)) ∧ Q (((31 : Int64) * x72) + ((hI h73 l0 22).toInt64)) h73) Q f75 x50 (0 : Int32) h51)) Q f76 x26 (0 : Int32) h27)) Q f77 (17 : Int64) (0 : Int32) h)
set_option maxRecDepth 100000 in
set_option maxHeartbeats 4000000 in
theorem t_M_digest (l0 : xN) (h : xH) (Q : Int64 → xH → Prop) (H : p_M_digest l0 h Q) : WP M_M_digest 0 [(0, xr l0)] [] h 0 (ql Q) := by
  unfold p_M_digest at H
  refine wp_ldc2 (17 : Int64) cL_X11_399 dX11_digest_0 ?_
  refine wp_lstore_n 1 rfl (Nat.le_of_ble_eq_true rfl) dX11_digest_3 (ls' := [(1, xl (17 : Int64)), (0, xr l0)]) rfl ?_
  refine wp_iconst (0 : Int32) (by decide) dX11_digest_4 ?_
  refine wp_istore_n 3 rfl (Nat.le_of_ble_eq_true rfl) dX11_digest_5 (ls' := [(3, xi (0 : Int32)), (1, xl (17 : Int64)), (0, xr l0)]) rfl ?_
  refine WP.at 6 rfl ?_
  obtain ⟨f77, H⟩ := H
  refine WP.pick [2, 1, 0] rfl (t_M_digest_L6 l0 _ Q ?_ f77 (17 : Int64) (0 : Int32) _ H)
  · intro x26 h27 H
    refine wp_iconst (0 : Int32) (by decide) dX11_digest_90 ?_
    refine wp_istore_n 3 rfl (Nat.le_of_ble_eq_true rfl) dX11_digest_91 (ls' := [(3, xi (0 : Int32)), (0, xr l0), (1, xl x26)]) rfl ?_
    refine WP.at 92 rfl ?_
    obtain ⟨f76, H⟩ := H
    refine WP.pick [1, 2, 0] rfl (t_M_digest_L92 l0 _ Q ?_ f76 x26 (0 : Int32) _ H)
    · intro x50 h51 H
      refine wp_iconst (0 : Int32) (by decide) dX11_digest_153 ?_
      refine wp_istore_n 3 rfl (Nat.le_of_ble_eq_true rfl) dX11_digest_154 (ls' := [(3, xi (0 : Int32)), (0, xr l0), (1, xl x50)]) rfl ?_
      refine WP.at 155 rfl ?_
      obtain ⟨f75, H⟩ := H
      refine WP.pick [1, 2, 0] rfl (t_M_digest_L155 l0 _ Q ?_ f75 x50 (0 : Int32) _ H)
      · intro x72 h73 H
        refine wp_ldc2 (31 : Int64) cL_X11_401 dX11_digest_225 ?_
        refine wp_lload_n 1 rfl rfl dX11_digest_228 ?_
        refine wp_lmul dX11_digest_229 ?_
        refine wp_aload_n 0 rfl rfl dX11_digest_230 ?_
        obtain ⟨q74, H⟩ := H
        refine wp_geti coX11 22 (Nat.le_of_ble_eq_true rfl) fl_X11_252 rfl q74 dX11_digest_231 ?_
        refine wp_i2l dX11_digest_234 ?_
        refine wp_ladd dX11_digest_235 ?_
        refine WP.at 236 rfl ?_
        exact wp_lret trivial dX11_digest_236 H
def p_L_law_L18 (l0 : xN) (l1 : xN) (l2 : xN) (K18_2000 : Nat → xH → Prop) (Q : Int32 → xH → Prop) : Nat → Int32 → Nat → xH → Prop
  | 0, _, _, _ => False
  | f + 1, l3, k, h => (kd l0.1 = (2, 0)) ∧ ((((Int32.ofNat (hS h l0 - 1)) - (7 : Int32)) < l3 → K18_2000 (k) h) ∧ (¬ ((Int32.ofNat (hS h l0 - 1)) - (7 : Int32)) < l3 → (vp_in l3 (hS h l0 - 1)) ∧ ((((hI h l0 l3.toNatClampNeg) &&& (63 : Int32)) = (0 : Int32) → (vp_in (l3 + (1 : Int32)) (hS h l0 - 1)) ∧ (k + 7 ≤ 4000) ∧ (kd l1.1 = (1, 9)) ∧ p_T_race l1 (hI h l0 (l3 + (1 : Int32)).toNatClampNeg) h (fun (v16 : Int32) (h15 : xH) => (vp_in (l3 + (1 : Int32)) (hS h15 l0 - 1)) ∧ (k + 7 ≤ 4000) ∧ (kd l2.1 = (1, 10)) ∧ p_M_race l2 (hI h15 l0 (l3 + (1 : Int32)).toNatClampNeg) h15 (fun (v21 : Int32) (h20 : xH) => ((v16 = v21 → ∀ v23 : Int32, v23 = l3 + (7 : Int32) → (p_L_law_L18 l0 l1 l2 K18_2000 Q f) v23 (k + 7) h20) ∧ (¬ v16 = v21 → Q (0 : Int32) h20))))) ∧ (((hI h l0 l3.toNatClampNeg) &&& (63 : Int32)) = (1 : Int32) → (vp_in (l3 + (1 : Int32)) (hS h l0 - 1)) ∧ (vp_in (l3 + (2 : Int32)) (hS h l0 - 1)) ∧ (vp_in (l3 + (3 : Int32)) (hS h l0 - 1)) ∧ (vp_in (l3 + (4 : Int32)) (hS h l0 - 1)) ∧ (k + 6 ≤ 4000) ∧ (kd l1.1 = (1, 9)) ∧ p_T_pool l1 (hI h l0 (l3 + (1 : Int32)).toNatClampNeg) (hI h l0 (l3 + (2 : Int32)).toNatClampNeg) (hI h l0 (l3 + (3 : Int32)).toNatClampNeg) (hI h l0 (l3 + (4 : Int32)).toNatClampNeg) h (fun (v32 : Int32) (h31 : xH) => (vp_in (l3 + (1 : Int32)) (hS h31 l0 - 1)) ∧ (vp_in (l3 + (2 : Int32)) (hS h31 l0 - 1)) ∧ (vp_in (l3 + (3 : Int32)) (hS h31 l0 - 1)) ∧ (vp_in (l3 + (4 : Int32)) (hS h31 l0 - 1)) ∧ (k + 6 ≤ 4000) ∧ (kd l2.1 = (1, 10)) ∧ p_M_pool l2 (hI h31 l0 (l3 + (1 : Int32)).toNatClampNeg) (hI h31 l0 (l3 + (2 : Int32)).toNatClampNeg) (hI h31 l0 (l3 + (3 : Int32)).toNatClampNeg) (hI h31 l0 (l3 + (4 : Int32)).toNatClampNeg) h31 (fun (v40 : Int32) (h39 : xH) => ((v32 = v40 → ∀ v42 : Int32, v42 = l3 + (7 : Int32) → (p_L_law_L18 l0 l1 l2 K18_2000 Q f) v42 (k + 6) h39) ∧ (¬ v32 = v40 → Q (0 : Int32) h39))))) ∧ (((hI h l0 l3.toNatClampNeg) &&& (63 : Int32)) = (2 : Int32) → (vp_in (l3 + (1 : Int32)) (hS h l0 - 1)) ∧ (vp_in (l3 + (2 : Int32)) (hS h l0 - 1)) ∧ (vp_in (l3 + (3 : Int32)) (hS h l0 - 1)) ∧ (vp_in (l3 + (4 : Int32)) (hS h l0 - 1)) ∧ (k + 6 ≤ 4000) ∧ (kd l1.1 = (1, 9)) ∧ p_T_twin l1 (hI h l0 (l3 + (1 : Int32)).toNatClampNeg) (hI h l0 (l3 + (2 : Int32)).toNatClampNeg) (hI h l0 (l3 + (3 : Int32)).toNatClampNeg) (hI h l0 (l3 + (4 : Int32)).toNatClampNeg) h (fun (v51 : Int32) (h50 : xH) => (vp_in (l3 + (1 : Int32)) (hS h50 l0 - 1)) ∧ (vp_in (l3 + (2 : Int32)) (hS h50 l0 - 1)) ∧ (vp_in (l3 + (3 : Int32)) (hS h50 l0 - 1)) ∧ (vp_in (l3 + (4 : Int32)) (hS h50 l0 - 1)) ∧ (k + 6 ≤ 4000) ∧ (kd l2.1 = (1, 10)) ∧ p_M_twin l2 (hI h50 l0 (l3 + (1 : Int32)).toNatClampNeg) (hI h50 l0 (l3 + (2 : Int32)).toNatClampNeg) (hI h50 l0 (l3 + (3 : Int32)).toNatClampNeg) (hI h50 l0 (l3 + (4 : Int32)).toNatClampNeg) h50 (fun (v59 : Int32) (h58 : xH) => ((v51 = v59 → ∀ v61 : Int32, v61 = l3 + (7 : Int32) → (p_L_law_L18 l0 l1 l2 K18_2000 Q f) v61 (k + 6) h58) ∧ (¬ v51 = v59 → Q (0 : Int32) h58))))) ∧ (((hI h l0 l3.toNatClampNeg) &&& (63 : Int32)) = (3 : Int32) → (vp_in (l3 + (1 : Int32)) (hS h l0 - 1)) ∧ (vp_in (l3 + (2 : Int32)) (hS h l0 - 1)) ∧ (k + 0 ≤ 4000) ∧ (kd l1.1 = (1, 9)) ∧ p_T_substitute l1 (hI h l0 (l3 + (1 : Int32)).toNatClampNeg) (hI h l0 (l3 + (2 : Int32)).toNatClampNeg) h (fun (v68 : Int32) (h67 : xH) => (vp_in (l3 + (1 : Int32)) (hS h67 l0 - 1)) ∧ (vp_in (l3 + (2 : Int32)) (hS h67 l0 - 1)) ∧ (k + 0 ≤ 4000) ∧ (kd l2.1 = (1, 10)) ∧ p_M_substitute l2 (hI h67 l0 (l3 + (1 : Int32)).toNatClampNeg) (hI h67 l0 (l3 + (2 : Int32)).toNatClampNeg) h67 (fun (v74 : Int32) (h73 : xH) => ((v68 = v74 → ∀ v76 : Int32, v76 = l3 + (7 : Int32) → (p_L_law_L18 l0 l1 l2 K18_2000 Q f) v76 (k) h73) ∧ (¬ v68 = v74 → Q (0 : Int32) h73))))) ∧ (((hI h l0 l3.toNatClampNeg) &&& (63 : Int32)) = (4 : Int32) → (vp_in (l3 + (1 : Int32)) (hS h l0 - 1)) ∧ (vp_in (l3 + (2 : Int32)) (hS h l0 - 1)) ∧ (k + 0 ≤ 4000) ∧ (kd l1.1 = (1, 9)) ∧ p_T_scratch l1 (hI h l0 (l3 + (1 : Int32)).toNatClampNeg) (hI h l0 (l3 + (2 : Int32)).toNatClampNeg) h (fun (v83 : Int32) (h82 : xH) => (vp_in (l3 + (1 : Int32)) (hS h82 l0 - 1)) ∧ (vp_in (l3 + (2 : Int32)) (hS h82 l0 - 1)) ∧ (k + 0 ≤ 4000) ∧ (kd l2.1 = (1, 10)) ∧ p_M_scratch l2 (hI h82 l0 (l3 + (1 : Int32)).toNatClampNeg) (hI h82 l0 (l3 + (2 : Int32)).toNatClampNeg) h82 (fun (v89 : Int32) (h88 : xH) => ((v83 = v89 → ∀ v91 : Int32, v91 = l3 + (7 : Int32) → (p_L_law_L18 l0 l1 l2 K18_2000 Q f) v91 (k) h88) ∧ (¬ v83 = v89 → Q (0 : Int32) h88))))) ∧ (((hI h l0 l3.toNatClampNeg) &&& (63 : Int32)) = (5 : Int32) → (vp_in (l3 + (1 : Int32)) (hS h l0 - 1)) ∧ (k + 0 ≤ 4000) ∧ (kd l1.1 = (1, 9)) ∧ p_T_off l1 (hI h l0 (l3 + (1 : Int32)).toNatClampNeg) h (fun (v97 : Int32) (h96 : xH) => (vp_in (l3 + (1 : Int32)) (hS h96 l0 - 1)) ∧ (k + 0 ≤ 4000) ∧ (kd l2.1 = (1, 10)) ∧ p_M_off l2 (hI h96 l0 (l3 + (1 : Int32)).toNatClampNeg) h96 (fun (v102 : Int32) (h101 : xH) => ((v97 = v102 → ∀ v104 : Int32, v104 = l3 + (7 : Int32) → (p_L_law_L18 l0 l1 l2 K18_2000 Q f) v104 (k) h101) ∧ (¬ v97 = v102 → Q (0 : Int32) h101))))) ∧ (((hI h l0 l3.toNatClampNeg) &&& (63 : Int32)) = (6 : Int32) → (vp_in (l3 + (1 : Int32)) (hS h l0 - 1)) ∧ (vp_in (l3 + (2 : Int32)) (hS h l0 - 1)) ∧ (vp_in (l3 + (3 : Int32)) (hS h l0 - 1)) ∧ (k + 0 ≤ 4000) ∧ (kd l1.1 = (1, 9)) ∧ p_T_place l1 (hI h l0 (l3 + (1 : Int32)).toNatClampNeg) (hI h l0 (l3 + (2 : Int32)).toNatClampNeg) (hI h l0 (l3 + (3 : Int32)).toNatClampNeg) h (fun (v112 : Int32) (h111 : xH) => (vp_in (l3 + (1 : Int32)) (hS h111 l0 - 1)) ∧ (vp_in (l3 + (2 : Int32)) (hS h111 l0 - 1)) ∧ (vp_in (l3 + (3 : Int32)) (hS h111 l0 - 1)) ∧ (k + 0 ≤ 4000) ∧ (kd l2.1 = (1, 10)) ∧ p_M_place l2 (hI h111 l0 (l3 + (1 : Int32)).toNatClampNeg) (hI h111 l0 (l3 + (2 : Int32)).toNatClampNeg) (hI h111 l0 (l3 + (3 : Int32)).toNatClampNeg) h111 (fun (v119 : Int32) (h118 : xH) => ((v112 = v119 → ∀ v121 : Int32, v121 = l3 + (7 : Int32) → (p_L_law_L18 l0 l1 l2 K18_2000 Q f) v121 (k) h118) ∧ (¬ v112 = v119 → Q (0 : Int32) h118))))) ∧ (((hI h l0 l3.toNatClampNeg) &&& (63 : Int32)) = (7 : Int32) → (vp_in (l3 + (1 : Int32)) (hS h l0 - 1)) ∧ (k + 0 ≤ 4000) ∧ (kd l1.1 = (1, 9)) ∧ p_T_official l1 (hI h l0 (l3 + (1 : Int32)).toNatClampNeg) h (fun (v127 : Int32) (h126 : xH) => (vp_in (l3 + (1 : Int32)) (hS h126 l0 - 1)) ∧ (k + 0 ≤ 4000) ∧ (kd l2.1 = (1, 10)) ∧ p_M_official l2 (hI h126 l0 (l3 + (1 : Int32)).toNatClampNeg) h126 (fun (v132 : Int32) (h131 : xH) => ((v127 = v132 → ∀ v134 : Int32, v134 = l3 + (7 : Int32) → (p_L_law_L18 l0 l1 l2 K18_2000 Q f) v134 (k) h131) ∧ (¬ v127 = v132 → Q (0 : Int32) h131))))) ∧ (((hI h l0 l3.toNatClampNeg) &&& (63 : Int32)) = (8 : Int32) → (vp_in (l3 + (1 : Int32)) (hS h l0 - 1)) ∧ (vp_in (l3 + (2 : Int32)) (hS h l0 - 1)) ∧ (k + 0 ≤ 4000) ∧ (kd l1.1 = (1, 9)) ∧ p_T_raceAt l1 (hI h l0 (l3 + (1 : Int32)).toNatClampNeg) (hI h l0 (l3 + (2 : Int32)).toNatClampNeg) h (fun (v141 : Int32) (h140 : xH) => (vp_in (l3 + (1 : Int32)) (hS h140 l0 - 1)) ∧ (vp_in (l3 + (2 : Int32)) (hS h140 l0 - 1)) ∧ (k + 0 ≤ 4000) ∧ (kd l2.1 = (1, 10)) ∧ p_M_raceAt l2 (hI h140 l0 (l3 + (1 : Int32)).toNatClampNeg) (hI h140 l0 (l3 + (2 : Int32)).toNatClampNeg) h140 (fun (v147 : Int32) (h146 : xH) => ((v141 = v147 → ∀ v149 : Int32, v149 = l3 + (7 : Int32) → (p_L_law_L18 l0 l1 l2 K18_2000 Q f) v149 (k) h146) ∧ (¬ v141 = v147 → Q (0 : Int32) h146))))) ∧ (((hI h l0 l3.toNatClampNeg) &&& (63 : Int32)) = (9 : Int32) → (vp_in (l3 + (1 : Int32)) (hS h l0 - 1)) ∧ (vp_in (l3 + (2 : Int32)) (hS h l0 - 1)) ∧ (vp_in (l3 + (3 : Int32)) (hS h l0 - 1)) ∧ (vp_in (l3 + (4 : Int32)) (hS h l0 - 1)) ∧ (vp_in (l3 + (5 : Int32)) (hS h l0 - 1)) ∧ (vp_in (l3 + (6 : Int32)) (hS h l0 - 1)) ∧ (k + 1 ≤ 4000) ∧ (kd l1.1 = (1, 9)) ∧ p_T_sell l1 (hI h l0 (l3 + (1 : Int32)).toNatClampNeg) (hI h l0 (l3 + (2 : Int32)).toNatClampNeg) (hI h l0 (l3 + (3 : Int32)).toNatClampNeg) (hI h l0 (l3 + (4 : Int32)).toNatClampNeg) (hI h l0 (l3 + (5 : Int32)).toNatClampNeg) (hI h l0 (l3 + (6 : Int32)).toNatClampNeg) h (fun (v160 : Int32) (h159 : xH) => (vp_in (l3 + (1 : Int32)) (hS h159 l0 - 1)) ∧ (vp_in (l3 + (2 : Int32)) (hS h159 l0 - 1)) ∧ (vp_in (l3 + (3 : Int32)) (hS h159 l0 - 1)) ∧ (vp_in (l3 + (4 : Int32)) (hS h159 l0 - 1)) ∧ (vp_in (l3 + (5 : Int32)) (hS h159 l0 - 1)) ∧ (vp_in (l3 + (6 : Int32)) (hS h159 l0 - 1)) ∧ (k + 1 ≤ 4000) ∧ (kd l2.1 = (1, 10)) ∧ p_M_sell l2 (hI h159 l0 (l3 + (1 : Int32)).toNatClampNeg) (hI h159 l0 (l3 + (2 : Int32)).toNatClampNeg) (hI h159 l0 (l3 + (3 : Int32)).toNatClampNeg) (hI h159 l0 (l3 + (4 : Int32)).toNatClampNeg) (hI h159 l0 (l3 + (5 : Int32)).toNatClampNeg) (hI h159 l0 (l3 + (6 : Int32)).toNatClampNeg) h159 (fun (v170 : Int32) (h169 : xH) => ((v160 = v170 → ∀ v172 : Int32, v172 = l3 + (7 : Int32) → (p_L_law_L18 l0 l1 l2 K18_2000 Q f) v172 (k + 1) h169) ∧ (¬ v160 = v170 → Q (0 : Int32) h169))))) ∧ (((hI h l0 l3.toNatClampNeg) &&& (63 : Int32)) = (10 : Int32) → (vp_in (l3 + (1 : Int32)) (hS h l0 - 1)) ∧ (k + 0 ≤ 4000) ∧ (kd l1.1 = (1, 9)) ∧ p_T_cancel l1 (hI h l0 (l3 + (1 : Int32)).toNatClampNeg) h (fun (v178 : Int32) (h177 : xH) => (vp_in (l3 + (1 : Int32)) (hS h177 l0 - 1)) ∧ (k + 0 ≤ 4000) ∧ (kd l2.1 = (1, 10)) ∧ p_M_cancel l2 (hI h177 l0 (l3 + (1 : Int32)).toNatClampNeg) h177 (fun (v183 : Int32) (h182 : xH) => ((v178 = v183 → ∀ v185 : Int32, v185 = l3 + (7 : Int32) → (p_L_law_L18 l0 l1 l2 K18_2000 Q f) v185 (k) h182) ∧ (¬ v178 = v183 → Q (0 : Int32) h182))))) ∧ (((hI h l0 l3.toNatClampNeg) &&& (63 : Int32)) = (11 : Int32) → (vp_in (l3 + (1 : Int32)) (hS h l0 - 1)) ∧ (k + 0 ≤ 4000) ∧ (kd l1.1 = (1, 9)) ∧ p_T_pay l1 (hI h l0 (l3 + (1 : Int32)).toNatClampNeg) h (fun (v191 : Int32) (h190 : xH) => (vp_in (l3 + (1 : Int32)) (hS h190 l0 - 1)) ∧ (k + 0 ≤ 4000) ∧ (kd l2.1 = (1, 10)) ∧ p_M_pay l2 (hI h190 l0 (l3 + (1 : Int32)).toNatClampNeg) h190 (fun (v196 : Int32) (h195 : xH) => ((v191 = v196 → ∀ v198 : Int32, v198 = l3 + (7 : Int32) → (p_L_law_L18 l0 l1 l2 K18_2000 Q f) v198 (k) h195) ∧ (¬ v191 = v196 → Q (0 : Int32) h195))))) ∧ (((hI h l0 l3.toNatClampNeg) &&& (63 : Int32)) = (12 : Int32) → (vp_in (l3 + (1 : Int32)) (hS h l0 - 1)) ∧ (vp_in (l3 + (2 : Int32)) (hS h l0 - 1)) ∧ (k + 0 ≤ 4000) ∧ (kd l1.1 = (1, 9)) ∧ p_T_ticket l1 (hI h l0 (l3 + (1 : Int32)).toNatClampNeg) (hI h l0 (l3 + (2 : Int32)).toNatClampNeg) h (fun (v205 : Int32) (h204 : xH) => (vp_in (l3 + (1 : Int32)) (hS h204 l0 - 1)) ∧ (vp_in (l3 + (2 : Int32)) (hS h204 l0 - 1)) ∧ (k + 0 ≤ 4000) ∧ (kd l2.1 = (1, 10)) ∧ p_M_ticket l2 (hI h204 l0 (l3 + (1 : Int32)).toNatClampNeg) (hI h204 l0 (l3 + (2 : Int32)).toNatClampNeg) h204 (fun (v211 : Int32) (h210 : xH) => ((v205 = v211 → ∀ v213 : Int32, v213 = l3 + (7 : Int32) → (p_L_law_L18 l0 l1 l2 K18_2000 Q f) v213 (k) h210) ∧ (¬ v205 = v211 → Q (0 : Int32) h210))))) ∧ (((hI h l0 l3.toNatClampNeg) &&& (63 : Int32)) = (13 : Int32) → (vp_in (l3 + (1 : Int32)) (hS h l0 - 1)) ∧ (vp_in (l3 + (2 : Int32)) (hS h l0 - 1)) ∧ (vp_in (l3 + (3 : Int32)) (hS h l0 - 1)) ∧ (vp_in (l3 + (4 : Int32)) (hS h l0 - 1)) ∧ (k + 0 ≤ 4000) ∧ (kd l1.1 = (1, 9)) ∧ p_T_units l1 (hI h l0 (l3 + (1 : Int32)).toNatClampNeg) (hI h l0 (l3 + (2 : Int32)).toNatClampNeg) (hI h l0 (l3 + (3 : Int32)).toNatClampNeg) (hI h l0 (l3 + (4 : Int32)).toNatClampNeg) h (fun (v222 : Int32) (h221 : xH) => (vp_in (l3 + (1 : Int32)) (hS h221 l0 - 1)) ∧ (vp_in (l3 + (2 : Int32)) (hS h221 l0 - 1)) ∧ (vp_in (l3 + (3 : Int32)) (hS h221 l0 - 1)) ∧ (vp_in (l3 + (4 : Int32)) (hS h221 l0 - 1)) ∧ (k + 0 ≤ 4000) ∧ (kd l2.1 = (1, 10)) ∧ p_M_units l2 (hI h221 l0 (l3 + (1 : Int32)).toNatClampNeg) (hI h221 l0 (l3 + (2 : Int32)).toNatClampNeg) (hI h221 l0 (l3 + (3 : Int32)).toNatClampNeg) (hI h221 l0 (l3 + (4 : Int32)).toNatClampNeg) h221 (fun (v230 : Int32) (h229 : xH) => ((v222 = v230 → ∀ v232 : Int32, v232 = l3 + (7 : Int32) → (p_L_law_L18 l0 l1 l2 K18_2000 Q f) v232 (k) h229) ∧ (¬ v222 = v230 → Q (0 : Int32) h229))))) ∧ (((hI h l0 l3.toNatClampNeg) &&& (63 : Int32)) = (14 : Int32) → (vp_in (l3 + (1 : Int32)) (hS h l0 - 1)) ∧ (vp_in (l3 + (2 : Int32)) (hS h l0 - 1)) ∧ (vp_in (l3 + (3 : Int32)) (hS h l0 - 1)) ∧ (vp_in (l3 + (4 : Int32)) (hS h l0 - 1)) ∧ (k + 0 ≤ 4000) ∧ (kd l1.1 = (1, 9)) ∧ p_T_dividend l1 (hI h l0 (l3 + (1 : Int32)).toNatClampNeg) (hI h l0 (l3 + (2 : Int32)).toNatClampNeg) (hI h l0 (l3 + (3 : Int32)).toNatClampNeg) (hI h l0 (l3 + (4 : Int32)).toNatClampNeg) h (fun (v241 : Int32) (h240 : xH) => (vp_in (l3 + (1 : Int32)) (hS h240 l0 - 1)) ∧ (vp_in (l3 + (2 : Int32)) (hS h240 l0 - 1)) ∧ (vp_in (l3 + (3 : Int32)) (hS h240 l0 - 1)) ∧ (vp_in (l3 + (4 : Int32)) (hS h240 l0 - 1)) ∧ (k + 0 ≤ 4000) ∧ (kd l2.1 = (1, 10)) ∧ p_M_dividend l2 (hI h240 l0 (l3 + (1 : Int32)).toNatClampNeg) (hI h240 l0 (l3 + (2 : Int32)).toNatClampNeg) (hI h240 l0 (l3 + (3 : Int32)).toNatClampNeg) (hI h240 l0 (l3 + (4 : Int32)).toNatClampNeg) h240 (fun (v249 : Int32) (h248 : xH) => ((v241 = v249 → ∀ v251 : Int32, v251 = l3 + (7 : Int32) → (p_L_law_L18 l0 l1 l2 K18_2000 Q f) v251 (k) h248) ∧ (¬ v241 = v249 → Q (0 : Int32) h248))))) ∧ (((hI h l0 l3.toNatClampNeg) &&& (63 : Int32)) = (15 : Int32) → (vp_in (l3 + (1 : Int32)) (hS h l0 - 1)) ∧ (vp_in (l3 + (2 : Int32)) (hS h l0 - 1)) ∧ (vp_in (l3 + (3 : Int32)) (hS h l0 - 1)) ∧ (vp_in (l3 + (4 : Int32)) (hS h l0 - 1)) ∧ (k + 0 ≤ 4000) ∧ (kd l1.1 = (1, 9)) ∧ p_T_odds l1 (hI h l0 (l3 + (1 : Int32)).toNatClampNeg) (hI h l0 (l3 + (2 : Int32)).toNatClampNeg) (hI h l0 (l3 + (3 : Int32)).toNatClampNeg) (hI h l0 (l3 + (4 : Int32)).toNatClampNeg) h (fun (v260 : Int32) (h259 : xH) => (vp_in (l3 + (1 : Int32)) (hS h259 l0 - 1)) ∧ (vp_in (l3 + (2 : Int32)) (hS h259 l0 - 1)) ∧ (vp_in (l3 + (3 : Int32)) (hS h259 l0 - 1)) ∧ (vp_in (l3 + (4 : Int32)) (hS h259 l0 - 1)) ∧ (k + 0 ≤ 4000) ∧ (kd l2.1 = (1, 10)) ∧ p_M_odds l2 (hI h259 l0 (l3 + (1 : Int32)).toNatClampNeg) (hI h259 l0 (l3 + (2 : Int32)).toNatClampNeg) (hI h259 l0 (l3 + (3 : Int32)).toNatClampNeg) (hI h259 l0 (l3 + (4 : Int32)).toNatClampNeg) h259 (fun (v268 : Int32) (h267 : xH) => ((v260 = v268 → ∀ v270 : Int32, v270 = l3 + (7 : Int32) → (p_L_law_L18 l0 l1 l2 K18_2000 Q f) v270 (k) h267) ∧ (¬ v260 = v268 → Q (0 : Int32) h267))))) ∧ (((hI h l0 l3.toNatClampNeg) &&& (63 : Int32)) = (16 : Int32) → (vp_in (l3 + (1 : Int32)) (hS h l0 - 1)) ∧ (vp_in (l3 + (2 : Int32)) (hS h l0 - 1)) ∧ (k + 0 ≤ 4000) ∧ (kd l1.1 = (1, 9)) ∧ p_T_book l1 (hI h l0 (l3 + (1 : Int32)).toNatClampNeg) (hI h l0 (l3 + (2 : Int32)).toNatClampNeg) h (fun (v277 : Int32) (h276 : xH) => (vp_in (l3 + (1 : Int32)) (hS h276 l0 - 1)) ∧ (vp_in (l3 + (2 : Int32)) (hS h276 l0 - 1)) ∧ (k + 0 ≤ 4000) ∧ (kd l2.1 = (1, 10)) ∧ p_M_book l2 (hI h276 l0 (l3 + (1 : Int32)).toNatClampNeg) (hI h276 l0 (l3 + (2 : Int32)).toNatClampNeg) h276 (fun (v283 : Int32) (h282 : xH) => ((v277 = v283 → ∀ v285 : Int32, v285 = l3 + (7 : Int32) → (p_L_law_L18 l0 l1 l2 K18_2000 Q f) v285 (k) h282) ∧ (¬ v277 = v283 → Q (0 : Int32) h282))))) ∧ (((hI h l0 l3.toNatClampNeg) &&& (63 : Int32)) = (17 : Int32) → (k + 0 ≤ 4000) ∧ (kd l1.1 = (1, 9)) ∧ p_T_rest l1 h (fun (v290 : Int32) (h289 : xH) => (k + 0 ≤ 4000) ∧ (kd l2.1 = (1, 10)) ∧ p_M_rest l2 h289 (fun (v294 : Int32) (h293 : xH) => ((v290 = v294 → ∀ v296 : Int32, v296 = l3 + (7 : Int32) → (p_L_law_L18 l0 l1 l2 K18_2000 Q f) v296 (k) h293) ∧ (¬ v290 = v294 → Q (0 : Int32) h293))))) ∧ (((hI h l0 l3.toNatClampNeg) &&& (63 : Int32)) = (18 : Int32) → (k + 0 ≤ 4000) ∧ (kd l1.1 = (1, 9)) ∧ p_T_unclaimed l1 h (fun (v301 : Int32) (h300 : xH) => (k + 0 ≤ 4000) ∧ (kd l2.1 = (1, 10)) ∧ p_M_unclaimed l2 h300 (fun (v305 : Int32) (h304 : xH) => ((v301 = v305 → ∀ v307 : Int32, v307 = l3 + (7 : Int32) → (p_L_law_L18 l0 l1 l2 K18_2000 Q f) v307 (k) h304) ∧ (¬ v301 = v305 → Q (0 : Int32) h304))))) ∧ (((hI h l0 l3.toNatClampNeg) &&& (63 : Int32)) = (19 : Int32) → (vp_in (l3 + (1 : Int32)) (hS h l0 - 1)) ∧ (k + 0 ≤ 4000) ∧ (kd l1.1 = (1, 9)) ∧ p_T_worst l1 (hI h l0 (l3 + (1 : Int32)).toNatClampNeg) h (fun (v313 : Int32) (h312 : xH) => (vp_in (l3 + (1 : Int32)) (hS h312 l0 - 1)) ∧ (k + 0 ≤ 4000) ∧ (kd l2.1 = (1, 10)) ∧ p_M_worst l2 (hI h312 l0 (l3 + (1 : Int32)).toNatClampNeg) h312 (fun (v318 : Int32) (h317 : xH) => ((v313 = v318 → ∀ v320 : Int32, v320 = l3 + (7 : Int32) → (p_L_law_L18 l0 l1 l2 K18_2000 Q f) v320 (k) h317) ∧ (¬ v313 = v318 → Q (0 : Int32) h317))))) ∧ (((hI h l0 l3.toNatClampNeg) &&& (63 : Int32)) = (20 : Int32) → (k + 0 ≤ 4000) ∧ (kd l1.1 = (1, 9)) ∧ p_T_worstDue l1 h (fun (v325 : Int32) (h324 : xH) => (k + 0 ≤ 4000) ∧ (kd l2.1 = (1, 10)) ∧ p_M_worstDue l2 h324 (fun (v329 : Int32) (h328 : xH) => ((v325 = v329 → ∀ v331 : Int32, v331 = l3 + (7 : Int32) → (p_L_law_L18 l0 l1 l2 K18_2000 Q f) v331 (k) h328) ∧ (¬ v325 = v329 → Q (0 : Int32) h328))))) ∧ (((hI h l0 l3.toNatClampNeg) &&& (63 : Int32)) = (21 : Int32) → (vp_in (l3 + (1 : Int32)) (hS h l0 - 1)) ∧ (k + 0 ≤ 4000) ∧ (kd l1.1 = (1, 9)) ∧ p_T_premium l1 (hI h l0 (l3 + (1 : Int32)).toNatClampNeg) h (fun (v337 : Int32) (h336 : xH) => (vp_in (l3 + (1 : Int32)) (hS h336 l0 - 1)) ∧ (k + 0 ≤ 4000) ∧ (kd l2.1 = (1, 10)) ∧ p_M_premium l2 (hI h336 l0 (l3 + (1 : Int32)).toNatClampNeg) h336 (fun (v342 : Int32) (h341 : xH) => ((v337 = v342 → ∀ v344 : Int32, v344 = l3 + (7 : Int32) → (p_L_law_L18 l0 l1 l2 K18_2000 Q f) v344 (k) h341) ∧ (¬ v337 = v342 → Q (0 : Int32) h341))))) ∧ (((hI h l0 l3.toNatClampNeg) &&& (63 : Int32)) = (22 : Int32) → (vp_in (l3 + (1 : Int32)) (hS h l0 - 1)) ∧ (vp_in (l3 + (2 : Int32)) (hS h l0 - 1)) ∧ (k + 0 ≤ 4000) ∧ (kd l1.1 = (1, 9)) ∧ p_T_drawer l1 (hI h l0 (l3 + (1 : Int32)).toNatClampNeg) (hI h l0 (l3 + (2 : Int32)).toNatClampNeg) h (fun (v351 : Int32) (h350 : xH) => (vp_in (l3 + (1 : Int32)) (hS h350 l0 - 1)) ∧ (vp_in (l3 + (2 : Int32)) (hS h350 l0 - 1)) ∧ (k + 0 ≤ 4000) ∧ (kd l2.1 = (1, 10)) ∧ p_M_drawer l2 (hI h350 l0 (l3 + (1 : Int32)).toNatClampNeg) (hI h350 l0 (l3 + (2 : Int32)).toNatClampNeg) h350 (fun (v357 : Int32) (h356 : xH) => ((v351 = v357 → ∀ v359 : Int32, v359 = l3 + (7 : Int32) → (p_L_law_L18 l0 l1 l2 K18_2000 Q f) v359 (k) h356) ∧ (¬ v351 = v357 → Q (0 : Int32) h356))))) ∧ (((hI h l0 l3.toNatClampNeg) &&& (63 : Int32)) = (23 : Int32) → (vp_in (l3 + (1 : Int32)) (hS h l0 - 1)) ∧ (k + 0 ≤ 4000) ∧ (kd l1.1 = (1, 9)) ∧ p_T_lose l1 (hI h l0 (l3 + (1 : Int32)).toNatClampNeg) h (fun (v365 : Int32) (h364 : xH) => (vp_in (l3 + (1 : Int32)) (hS h364 l0 - 1)) ∧ (k + 0 ≤ 4000) ∧ (kd l2.1 = (1, 10)) ∧ p_M_lose l2 (hI h364 l0 (l3 + (1 : Int32)).toNatClampNeg) h364 (fun (v370 : Int32) (h369 : xH) => ((v365 = v370 → ∀ v372 : Int32, v372 = l3 + (7 : Int32) → (p_L_law_L18 l0 l1 l2 K18_2000 Q f) v372 (k) h369) ∧ (¬ v365 = v370 → Q (0 : Int32) h369))))) ∧ (((hI h l0 l3.toNatClampNeg) &&& (63 : Int32)) = (24 : Int32) → (vp_in (l3 + (1 : Int32)) (hS h l0 - 1)) ∧ (vp_in (l3 + (2 : Int32)) (hS h l0 - 1)) ∧ (vp_in (l3 + (3 : Int32)) (hS h l0 - 1)) ∧ (k + 0 ≤ 4000) ∧ (kd l1.1 = (1, 9)) ∧ p_T_keep l1 (hI h l0 (l3 + (1 : Int32)).toNatClampNeg) (hI h l0 (l3 + (2 : Int32)).toNatClampNeg) (hI h l0 (l3 + (3 : Int32)).toNatClampNeg) h (fun (v380 : Int32) (h379 : xH) => (vp_in (l3 + (1 : Int32)) (hS h379 l0 - 1)) ∧ (vp_in (l3 + (2 : Int32)) (hS h379 l0 - 1)) ∧ (vp_in (l3 + (3 : Int32)) (hS h379 l0 - 1)) ∧ (k + 0 ≤ 4000) ∧ (kd l2.1 = (1, 10)) ∧ p_M_keep l2 (hI h379 l0 (l3 + (1 : Int32)).toNatClampNeg) (hI h379 l0 (l3 + (2 : Int32)).toNatClampNeg) (hI h379 l0 (l3 + (3 : Int32)).toNatClampNeg) h379 (fun (v387 : Int32) (h386 : xH) => ((v380 = v387 → ∀ v389 : Int32, v389 = l3 + (7 : Int32) → (p_L_law_L18 l0 l1 l2 K18_2000 Q f) v389 (k) h386) ∧ (¬ v380 = v387 → Q (0 : Int32) h386))))) ∧ (((hI h l0 l3.toNatClampNeg) &&& (63 : Int32)) = (25 : Int32) → (vp_in (l3 + (1 : Int32)) (hS h l0 - 1)) ∧ (vp_in (l3 + (2 : Int32)) (hS h l0 - 1)) ∧ (vp_in (l3 + (3 : Int32)) (hS h l0 - 1)) ∧ (vp_in (l3 + (4 : Int32)) (hS h l0 - 1)) ∧ (vp_in (l3 + (5 : Int32)) (hS h l0 - 1)) ∧ (k + 0 ≤ 4000) ∧ (kd l1.1 = (1, 9)) ∧ p_T_note l1 (hI h l0 (l3 + (1 : Int32)).toNatClampNeg) (hI h l0 (l3 + (2 : Int32)).toNatClampNeg) ((((hI h l0 (l3 + (3 : Int32)).toNatClampNeg).toInt64) <<< ((32 : Int32).toInt64 &&& 63)) ||| (((hI h l0 (l3 + (4 : Int32)).toNatClampNeg).toInt64) &&& (4294967295 : Int64))) (hI h l0 (l3 + (5 : Int32)).toNatClampNeg) h (fun (v399 : Int32) (h398 : xH) => (vp_in (l3 + (1 : Int32)) (hS h398 l0 - 1)) ∧ (vp_in (l3 + (2 : Int32)) (hS h398 l0 - 1)) ∧ (vp_in (l3 + (3 : Int32)) (hS h398 l0 - 1)) ∧ (vp_in (l3 + (4 : Int32)) (hS h398 l0 - 1)) ∧ (vp_in (l3 + (5 : Int32)) (hS h398 l0 - 1)) ∧ (k + 0 ≤ 4000) ∧ (kd l2.1 = (1, 10)) ∧ p_M_note l2 (hI h398 l0 (l3 + (1 : Int32)).toNatClampNeg) (hI h398 l0 (l3 + (2 : Int32)).toNatClampNeg) ((((hI h398 l0 (l3 + (3 : Int32)).toNatClampNeg).toInt64) <<< ((32 : Int32).toInt64 &&& 63)) ||| (((hI h398 l0 (l3 + (4 : Int32)).toNatClampNeg).toInt64) &&& (4294967295 : Int64))) (hI h398 l0 (l3 + (5 : Int32)).toNatClampNeg) h398 (fun (v408 : Int32) (h407 : xH) => ((v399 = v408 → ∀ v410 : Int32, v410 = l3 + (7 : Int32) → (p_L_law_L18 l0 l1 l2 K18_2000 Q f) v410 (k) h407) ∧ (¬ v399 = v408 → Q (0 : Int32) h407))))) ∧ (((hI h l0 l3.toNatClampNeg) &&& (63 : Int32)) = (26 : Int32) → (vp_in (l3 + (1 : Int32)) (hS h l0 - 1)) ∧ (vp_in (l3 + (2 : Int32)) (hS h l0 - 1)) ∧ (vp_in (l3 + (3 : Int32)) (hS h l0 - 1)) ∧ (k + 0 ≤ 4000) ∧ (kd l1.1 = (1, 9)) ∧ p_T_coins l1 (hI h l0 (l3 + (1 : Int32)).toNatClampNeg) (hI h l0 (l3 + (2 : Int32)).toNatClampNeg) (hI h l0 (l3 + (3 : Int32)).toNatClampNeg) h (fun (v418 : Int32) (h417 : xH) => (vp_in (l3 + (1 : Int32)) (hS h417 l0 - 1)) ∧ (vp_in (l3 + (2 : Int32)) (hS h417 l0 - 1)) ∧ (vp_in (l3 + (3 : Int32)) (hS h417 l0 - 1)) ∧ (k + 0 ≤ 4000) ∧ (kd l2.1 = (1, 10)) ∧ p_M_coins l2 (hI h417 l0 (l3 + (1 : Int32)).toNatClampNeg) (hI h417 l0 (l3 + (2 : Int32)).toNatClampNeg) (hI h417 l0 (l3 + (3 : Int32)).toNatClampNeg) h417 (fun (v425 : Int32) (h424 : xH) => ((v418 = v425 → ∀ v427 : Int32, v427 = l3 + (7 : Int32) → (p_L_law_L18 l0 l1 l2 K18_2000 Q f) v427 (k) h424) ∧ (¬ v418 = v425 → Q (0 : Int32) h424))))) ∧ (((hI h l0 l3.toNatClampNeg) &&& (63 : Int32)) = (27 : Int32) → (vp_in (l3 + (1 : Int32)) (hS h l0 - 1)) ∧ (vp_in (l3 + (2 : Int32)) (hS h l0 - 1)) ∧ (k + 0 ≤ 4000) ∧ (kd l1.1 = (1, 9)) ∧ p_T_clear l1 (hI h l0 (l3 + (1 : Int32)).toNatClampNeg) (hI h l0 (l3 + (2 : Int32)).toNatClampNeg) h (fun (v434 : Int32) (h433 : xH) => (vp_in (l3 + (1 : Int32)) (hS h433 l0 - 1)) ∧ (vp_in (l3 + (2 : Int32)) (hS h433 l0 - 1)) ∧ (k + 0 ≤ 4000) ∧ (kd l2.1 = (1, 10)) ∧ p_M_clear l2 (hI h433 l0 (l3 + (1 : Int32)).toNatClampNeg) (hI h433 l0 (l3 + (2 : Int32)).toNatClampNeg) h433 (fun (v440 : Int32) (h439 : xH) => ((v434 = v440 → ∀ v442 : Int32, v442 = l3 + (7 : Int32) → (p_L_law_L18 l0 l1 l2 K18_2000 Q f) v442 (k) h439) ∧ (¬ v434 = v440 → Q (0 : Int32) h439))))) ∧ (((hI h l0 l3.toNatClampNeg) &&& (63 : Int32)) = (28 : Int32) → (vp_in (l3 + (1 : Int32)) (hS h l0 - 1)) ∧ (vp_in (l3 + (2 : Int32)) (hS h l0 - 1)) ∧ (k + 0 ≤ 4000) ∧ (kd l1.1 = (1, 9)) ∧ p_T_kind l1 (hI h l0 (l3 + (1 : Int32)).toNatClampNeg) (hI h l0 (l3 + (2 : Int32)).toNatClampNeg) h (fun (v449 : Int32) (h448 : xH) => (vp_in (l3 + (1 : Int32)) (hS h448 l0 - 1)) ∧ (vp_in (l3 + (2 : Int32)) (hS h448 l0 - 1)) ∧ (k + 0 ≤ 4000) ∧ (kd l2.1 = (1, 10)) ∧ p_M_kind l2 (hI h448 l0 (l3 + (1 : Int32)).toNatClampNeg) (hI h448 l0 (l3 + (2 : Int32)).toNatClampNeg) h448 (fun (v455 : Int32) (h454 : xH) => ((v449 = v455 → ∀ v457 : Int32, v457 = l3 + (7 : Int32) → (p_L_law_L18 l0 l1 l2 K18_2000 Q f) v457 (k) h454) ∧ (¬ v449 = v455 → Q (0 : Int32) h454))))) ∧ (((hI h l0 l3.toNatClampNeg) &&& (63 : Int32)) = (29 : Int32) → (vp_in (l3 + (1 : Int32)) (hS h l0 - 1)) ∧ (vp_in (l3 + (2 : Int32)) (hS h l0 - 1)) ∧ (k + 0 ≤ 4000) ∧ (kd l1.1 = (1, 9)) ∧ p_T_read l1 (hI h l0 (l3 + (1 : Int32)).toNatClampNeg) (hI h l0 (l3 + (2 : Int32)).toNatClampNeg) h (fun (v464 : Int32) (h463 : xH) => (vp_in (l3 + (1 : Int32)) (hS h463 l0 - 1)) ∧ (vp_in (l3 + (2 : Int32)) (hS h463 l0 - 1)) ∧ (k + 0 ≤ 4000) ∧ (kd l2.1 = (1, 10)) ∧ p_M_read l2 (hI h463 l0 (l3 + (1 : Int32)).toNatClampNeg) (hI h463 l0 (l3 + (2 : Int32)).toNatClampNeg) h463 (fun (v470 : Int32) (h469 : xH) => ((v464 = v470 → ∀ v472 : Int32, v472 = l3 + (7 : Int32) → (p_L_law_L18 l0 l1 l2 K18_2000 Q f) v472 (k) h469) ∧ (¬ v464 = v470 → Q (0 : Int32) h469))))) ∧ (((hI h l0 l3.toNatClampNeg) &&& (63 : Int32)) = (30 : Int32) → (vp_in (l3 + (1 : Int32)) (hS h l0 - 1)) ∧ (vp_in (l3 + (2 : Int32)) (hS h l0 - 1)) ∧ (vp_in (l3 + (3 : Int32)) (hS h l0 - 1)) ∧ (k + 0 ≤ 4000) ∧ (kd l1.1 = (1, 9)) ∧ p_T_letter l1 (hI h l0 (l3 + (1 : Int32)).toNatClampNeg) (hI h l0 (l3 + (2 : Int32)).toNatClampNeg) (hI h l0 (l3 + (3 : Int32)).toNatClampNeg) h (fun (v480 : Int32) (h479 : xH) => (vp_in (l3 + (1 : Int32)) (hS h479 l0 - 1)) ∧ (vp_in (l3 + (2 : Int32)) (hS h479 l0 - 1)) ∧ (vp_in (l3 + (3 : Int32)) (hS h479 l0 - 1)) ∧ (k + 0 ≤ 4000) ∧ (kd l2.1 = (1, 10)) ∧ p_M_letter l2 (hI h479 l0 (l3 + (1 : Int32)).toNatClampNeg) (hI h479 l0 (l3 + (2 : Int32)).toNatClampNeg) (hI h479 l0 (l3 + (3 : Int32)).toNatClampNeg) h479 (fun (v487 : Int32) (h486 : xH) => ((v480 = v487 → ∀ v489 : Int32, v489 = l3 + (7 : Int32) → (p_L_law_L18 l0 l1 l2 K18_2000 Q f) v489 (k) h486) ∧ (¬ v480 = v487 → Q (0 : Int32) h486))))) ∧ (((hI h l0 l3.toNatClampNeg) &&& (63 : Int32)) = (31 : Int32) → (vp_in (l3 + (1 : Int32)) (hS h l0 - 1)) ∧ (vp_in (l3 + (2 : Int32)) (hS h l0 - 1)) ∧ (vp_in (l3 + (3 : Int32)) (hS h l0 - 1)) ∧ (vp_in (l3 + (4 : Int32)) (hS h l0 - 1)) ∧ (k + 0 ≤ 4000) ∧ (kd l1.1 = (1, 9)) ∧ p_T_coin l1 (hI h l0 (l3 + (1 : Int32)).toNatClampNeg) (hI h l0 (l3 + (2 : Int32)).toNatClampNeg) (hI h l0 (l3 + (3 : Int32)).toNatClampNeg) (hI h l0 (l3 + (4 : Int32)).toNatClampNeg) h (fun (v498 : Int32) (h497 : xH) => (vp_in (l3 + (1 : Int32)) (hS h497 l0 - 1)) ∧ (vp_in (l3 + (2 : Int32)) (hS h497 l0 - 1)) ∧ (vp_in (l3 + (3 : Int32)) (hS h497 l0 - 1)) ∧ (vp_in (l3 + (4 : Int32)) (hS h497 l0 - 1)) ∧ (k + 0 ≤ 4000) ∧ (kd l2.1 = (1, 10)) ∧ p_M_coin l2 (hI h497 l0 (l3 + (1 : Int32)).toNatClampNeg) (hI h497 l0 (l3 + (2 : Int32)).toNatClampNeg) (hI h497 l0 (l3 + (3 : Int32)).toNatClampNeg) (hI h497 l0 (l3 + (4 : Int32)).toNatClampNeg) h497 (fun (v506 : Int32) (h505 : xH) => ((v498 = v506 → ∀ v508 : Int32, v508 = l3 + (7 : Int32) → (p_L_law_L18 l0 l1 l2 K18_2000 Q f) v508 (k) h505) ∧ (¬ v498 = v506 → Q (0 : Int32) h505))))) ∧ (((hI h l0 l3.toNatClampNeg) &&& (63 : Int32)) = (32 : Int32) → (vp_in (l3 + (1 : Int32)) (hS h l0 - 1)) ∧ (vp_in (l3 + (2 : Int32)) (hS h l0 - 1)) ∧ (vp_in (l3 + (3 : Int32)) (hS h l0 - 1)) ∧ (k + 0 ≤ 4000) ∧ (kd l1.1 = (1, 9)) ∧ p_T_coinAt l1 (hI h l0 (l3 + (1 : Int32)).toNatClampNeg) (hI h l0 (l3 + (2 : Int32)).toNatClampNeg) (hI h l0 (l3 + (3 : Int32)).toNatClampNeg) h (fun (v516 : Int32) (h515 : xH) => (vp_in (l3 + (1 : Int32)) (hS h515 l0 - 1)) ∧ (vp_in (l3 + (2 : Int32)) (hS h515 l0 - 1)) ∧ (vp_in (l3 + (3 : Int32)) (hS h515 l0 - 1)) ∧ (k + 0 ≤ 4000) ∧ (kd l2.1 = (1, 10)) ∧ p_M_coinAt l2 (hI h515 l0 (l3 + (1 : Int32)).toNatClampNeg) (hI h515 l0 (l3 + (2 : Int32)).toNatClampNeg) (hI h515 l0 (l3 + (3 : Int32)).toNatClampNeg) h515 (fun (v523 : Int32) (h522 : xH) => ((v516 = v523 → ∀ v525 : Int32, v525 = l3 + (7 : Int32) → (p_L_law_L18 l0 l1 l2 K18_2000 Q f) v525 (k) h522) ∧ (¬ v516 = v523 → Q (0 : Int32) h522))))) ∧ (((hI h l0 l3.toNatClampNeg) &&& (63 : Int32)) = (33 : Int32) → (vp_in (l3 + (1 : Int32)) (hS h l0 - 1)) ∧ (vp_in (l3 + (2 : Int32)) (hS h l0 - 1)) ∧ (vp_in (l3 + (3 : Int32)) (hS h l0 - 1)) ∧ (vp_in (l3 + (4 : Int32)) (hS h l0 - 1)) ∧ (k + 0 ≤ 4000) ∧ (kd l1.1 = (1, 9)) ∧ p_T_change l1 (hI h l0 (l3 + (1 : Int32)).toNatClampNeg) (hI h l0 (l3 + (2 : Int32)).toNatClampNeg) (hI h l0 (l3 + (3 : Int32)).toNatClampNeg) (hI h l0 (l3 + (4 : Int32)).toNatClampNeg) h (fun (v534 : Int32) (h533 : xH) => (vp_in (l3 + (1 : Int32)) (hS h533 l0 - 1)) ∧ (vp_in (l3 + (2 : Int32)) (hS h533 l0 - 1)) ∧ (vp_in (l3 + (3 : Int32)) (hS h533 l0 - 1)) ∧ (vp_in (l3 + (4 : Int32)) (hS h533 l0 - 1)) ∧ (k + 0 ≤ 4000) ∧ (kd l2.1 = (1, 10)) ∧ p_M_change l2 (hI h533 l0 (l3 + (1 : Int32)).toNatClampNeg) (hI h533 l0 (l3 + (2 : Int32)).toNatClampNeg) (hI h533 l0 (l3 + (3 : Int32)).toNatClampNeg) (hI h533 l0 (l3 + (4 : Int32)).toNatClampNeg) h533 (fun (v542 : Int32) (h541 : xH) => ((v534 = v542 → ∀ v544 : Int32, v544 = l3 + (7 : Int32) → (p_L_law_L18 l0 l1 l2 K18_2000 Q f) v544 (k) h541) ∧ (¬ v534 = v542 → Q (0 : Int32) h541))))) ∧ (((hI h l0 l3.toNatClampNeg) &&& (63 : Int32)) = (34 : Int32) → (vp_in (l3 + (1 : Int32)) (hS h l0 - 1)) ∧ (vp_in (l3 + (2 : Int32)) (hS h l0 - 1)) ∧ (vp_in (l3 + (3 : Int32)) (hS h l0 - 1)) ∧ (k + 0 ≤ 4000) ∧ (kd l1.1 = (1, 9)) ∧ p_T_satchel l1 (hI h l0 (l3 + (1 : Int32)).toNatClampNeg) (hI h l0 (l3 + (2 : Int32)).toNatClampNeg) (hI h l0 (l3 + (3 : Int32)).toNatClampNeg) h (fun (v552 : Int32) (h551 : xH) => (vp_in (l3 + (1 : Int32)) (hS h551 l0 - 1)) ∧ (vp_in (l3 + (2 : Int32)) (hS h551 l0 - 1)) ∧ (vp_in (l3 + (3 : Int32)) (hS h551 l0 - 1)) ∧ (k + 0 ≤ 4000) ∧ (kd l2.1 = (1, 10)) ∧ p_M_satchel l2 (hI h551 l0 (l3 + (1 : Int32)).toNatClampNeg) (hI h551 l0 (l3 + (2 : Int32)).toNatClampNeg) (hI h551 l0 (l3 + (3 : Int32)).toNatClampNeg) h551 (fun (v559 : Int32) (h558 : xH) => ((v552 = v559 → ∀ v561 : Int32, v561 = l3 + (7 : Int32) → (p_L_law_L18 l0 l1 l2 K18_2000 Q f) v561 (k) h558) ∧ (¬ v552 = v559 → Q (0 : Int32) h558))))) ∧ (((hI h l0 l3.toNatClampNeg) &&& (63 : Int32)) = (35 : Int32) → (vp_in (l3 + (1 : Int32)) (hS h l0 - 1)) ∧ (vp_in (l3 + (2 : Int32)) (hS h l0 - 1)) ∧ (vp_in (l3 + (3 : Int32)) (hS h l0 - 1)) ∧ (vp_in (l3 + (4 : Int32)) (hS h l0 - 1)) ∧ (vp_in (l3 + (5 : Int32)) (hS h l0 - 1)) ∧ (k + 0 ≤ 4000) ∧ (kd l1.1 = (1, 9)) ∧ p_T_gather l1 (hI h l0 (l3 + (1 : Int32)).toNatClampNeg) (hI h l0 (l3 + (2 : Int32)).toNatClampNeg) (hI h l0 (l3 + (3 : Int32)).toNatClampNeg) (hI h l0 (l3 + (4 : Int32)).toNatClampNeg) (hI h l0 (l3 + (5 : Int32)).toNatClampNeg) h (fun (v571 : Int32) (h570 : xH) => (vp_in (l3 + (1 : Int32)) (hS h570 l0 - 1)) ∧ (vp_in (l3 + (2 : Int32)) (hS h570 l0 - 1)) ∧ (vp_in (l3 + (3 : Int32)) (hS h570 l0 - 1)) ∧ (vp_in (l3 + (4 : Int32)) (hS h570 l0 - 1)) ∧ (vp_in (l3 + (5 : Int32)) (hS h570 l0 - 1)) ∧ (k + 0 ≤ 4000) ∧ (kd l2.1 = (1, 10)) ∧ p_M_gather l2 (hI h570 l0 (l3 + (1 : Int32)).toNatClampNeg) (hI h570 l0 (l3 + (2 : Int32)).toNatClampNeg) (hI h570 l0 (l3 + (3 : Int32)).toNatClampNeg) (hI h570 l0 (l3 + (4 : Int32)).toNatClampNeg) (hI h570 l0 (l3 + (5 : Int32)).toNatClampNeg) h570 (fun (v580 : Int32) (h579 : xH) => ((v571 = v580 → ∀ v582 : Int32, v582 = l3 + (7 : Int32) → (p_L_law_L18 l0 l1 l2 K18_2000 Q f) v582 (k) h579) ∧ (¬ v571 = v580 → Q (0 : Int32) h579))))) ∧ (((hI h l0 l3.toNatClampNeg) &&& (63 : Int32)) = (36 : Int32) → (vp_in (l3 + (1 : Int32)) (hS h l0 - 1)) ∧ (vp_in (l3 + (2 : Int32)) (hS h l0 - 1)) ∧ (vp_in (l3 + (3 : Int32)) (hS h l0 - 1)) ∧ (vp_in (l3 + (4 : Int32)) (hS h l0 - 1)) ∧ (vp_in (l3 + (5 : Int32)) (hS h l0 - 1)) ∧ (k + 0 ≤ 4000) ∧ (kd l1.1 = (1, 9)) ∧ p_T_shift l1 (hI h l0 (l3 + (1 : Int32)).toNatClampNeg) (hI h l0 (l3 + (2 : Int32)).toNatClampNeg) (hI h l0 (l3 + (3 : Int32)).toNatClampNeg) (hI h l0 (l3 + (4 : Int32)).toNatClampNeg) (hI h l0 (l3 + (5 : Int32)).toNatClampNeg) h (fun (v592 : Int32) (h591 : xH) => (vp_in (l3 + (1 : Int32)) (hS h591 l0 - 1)) ∧ (vp_in (l3 + (2 : Int32)) (hS h591 l0 - 1)) ∧ (vp_in (l3 + (3 : Int32)) (hS h591 l0 - 1)) ∧ (vp_in (l3 + (4 : Int32)) (hS h591 l0 - 1)) ∧ (vp_in (l3 + (5 : Int32)) (hS h591 l0 - 1)) ∧ (k + 0 ≤ 4000) ∧ (kd l2.1 = (1, 10)) ∧ p_M_shift l2 (hI h591 l0 (l3 + (1 : Int32)).toNatClampNeg) (hI h591 l0 (l3 + (2 : Int32)).toNatClampNeg) (hI h591 l0 (l3 + (3 : Int32)).toNatClampNeg) (hI h591 l0 (l3 + (4 : Int32)).toNatClampNeg) (hI h591 l0 (l3 + (5 : Int32)).toNatClampNeg) h591 (fun (v601 : Int32) (h600 : xH) => ((v592 = v601 → ∀ v603 : Int32, v603 = l3 + (7 : Int32) → (p_L_law_L18 l0 l1 l2 K18_2000 Q f) v603 (k) h600) ∧ (¬ v592 = v601 → Q (0 : Int32) h600))))) ∧ (((hI h l0 l3.toNatClampNeg) &&& (63 : Int32)) = (37 : Int32) → (k + 0 ≤ 4000) ∧ (kd l1.1 = (1, 9)) ∧ p_T_came l1 h (fun (v608 : Int32) (h607 : xH) => (k + 0 ≤ 4000) ∧ (kd l2.1 = (1, 10)) ∧ p_M_came l2 h607 (fun (v612 : Int32) (h611 : xH) => ((v608 = v612 → ∀ v614 : Int32, v614 = l3 + (7 : Int32) → (p_L_law_L18 l0 l1 l2 K18_2000 Q f) v614 (k) h611) ∧ (¬ v608 = v612 → Q (0 : Int32) h611))))) ∧ (((hI h l0 l3.toNatClampNeg) &&& (63 : Int32)) = (38 : Int32) → (vp_in (l3 + (1 : Int32)) (hS h l0 - 1)) ∧ (vp_in (l3 + (2 : Int32)) (hS h l0 - 1)) ∧ (k + 0 ≤ 4000) ∧ (kd l1.1 = (1, 9)) ∧ p_T_held l1 (hI h l0 (l3 + (1 : Int32)).toNatClampNeg) (hI h l0 (l3 + (2 : Int32)).toNatClampNeg) h (fun (v621 : Int32) (h620 : xH) => (vp_in (l3 + (1 : Int32)) (hS h620 l0 - 1)) ∧ (vp_in (l3 + (2 : Int32)) (hS h620 l0 - 1)) ∧ (k + 0 ≤ 4000) ∧ (kd l2.1 = (1, 10)) ∧ p_M_held l2 (hI h620 l0 (l3 + (1 : Int32)).toNatClampNeg) (hI h620 l0 (l3 + (2 : Int32)).toNatClampNeg) h620 (fun (v627 : Int32) (h626 : xH) => ((v621 = v627 → ∀ v629 : Int32, v629 = l3 + (7 : Int32) → (p_L_law_L18 l0 l1 l2 K18_2000 Q f) v629 (k) h626) ∧ (¬ v621 = v627 → Q (0 : Int32) h626))))) ∧ (((hI h l0 l3.toNatClampNeg) &&& (63 : Int32)) = (39 : Int32) → (vp_in (l3 + (1 : Int32)) (hS h l0 - 1)) ∧ (k + 0 ≤ 4000) ∧ (kd l1.1 = (1, 9)) ∧ p_T_cash l1 (hI h l0 (l3 + (1 : Int32)).toNatClampNeg) h (fun (v635 : Int32) (h634 : xH) => (vp_in (l3 + (1 : Int32)) (hS h634 l0 - 1)) ∧ (k + 0 ≤ 4000) ∧ (kd l2.1 = (1, 10)) ∧ p_M_cash l2 (hI h634 l0 (l3 + (1 : Int32)).toNatClampNeg) h634 (fun (v640 : Int32) (h639 : xH) => ((v635 = v640 → ∀ v642 : Int32, v642 = l3 + (7 : Int32) → (p_L_law_L18 l0 l1 l2 K18_2000 Q f) v642 (k) h639) ∧ (¬ v635 = v640 → Q (0 : Int32) h639))))) ∧ (((hI h l0 l3.toNatClampNeg) &&& (63 : Int32)) = (40 : Int32) → (vp_in (l3 + (1 : Int32)) (hS h l0 - 1)) ∧ (vp_in (l3 + (2 : Int32)) (hS h l0 - 1)) ∧ (k + 0 ≤ 4000) ∧ (kd l1.1 = (1, 9)) ∧ p_T_lap l1 (hI h l0 (l3 + (1 : Int32)).toNatClampNeg) (hI h l0 (l3 + (2 : Int32)).toNatClampNeg) h (fun (v649 : Int32) (h648 : xH) => (vp_in (l3 + (1 : Int32)) (hS h648 l0 - 1)) ∧ (vp_in (l3 + (2 : Int32)) (hS h648 l0 - 1)) ∧ (k + 0 ≤ 4000) ∧ (kd l2.1 = (1, 10)) ∧ p_M_lap l2 (hI h648 l0 (l3 + (1 : Int32)).toNatClampNeg) (hI h648 l0 (l3 + (2 : Int32)).toNatClampNeg) h648 (fun (v655 : Int32) (h654 : xH) => ((v649 = v655 → ∀ v657 : Int32, v657 = l3 + (7 : Int32) → (p_L_law_L18 l0 l1 l2 K18_2000 Q f) v657 (k) h654) ∧ (¬ v649 = v655 → Q (0 : Int32) h654))))) ∧ (((hI h l0 l3.toNatClampNeg) &&& (63 : Int32)) = (41 : Int32) → (vp_in (l3 + (1 : Int32)) (hS h l0 - 1)) ∧ (vp_in (l3 + (2 : Int32)) (hS h l0 - 1)) ∧ (k + 0 ≤ 4000) ∧ (kd l1.1 = (1, 9)) ∧ p_T_lapAt l1 (hI h l0 (l3 + (1 : Int32)).toNatClampNeg) (hI h l0 (l3 + (2 : Int32)).toNatClampNeg) h (fun (v664 : Int32) (h663 : xH) => (vp_in (l3 + (1 : Int32)) (hS h663 l0 - 1)) ∧ (vp_in (l3 + (2 : Int32)) (hS h663 l0 - 1)) ∧ (k + 0 ≤ 4000) ∧ (kd l2.1 = (1, 10)) ∧ p_M_lapAt l2 (hI h663 l0 (l3 + (1 : Int32)).toNatClampNeg) (hI h663 l0 (l3 + (2 : Int32)).toNatClampNeg) h663 (fun (v670 : Int32) (h669 : xH) => ((v664 = v670 → ∀ v672 : Int32, v672 = l3 + (7 : Int32) → (p_L_law_L18 l0 l1 l2 K18_2000 Q f) v672 (k) h669) ∧ (¬ v664 = v670 → Q (0 : Int32) h669))))) ∧ (((hI h l0 l3.toNatClampNeg) &&& (63 : Int32)) = (42 : Int32) → (vp_in (l3 + (1 : Int32)) (hS h l0 - 1)) ∧ (vp_in (l3 + (2 : Int32)) (hS h l0 - 1)) ∧ (k + 0 ≤ 4000) ∧ (kd l1.1 = (1, 9)) ∧ p_T_pace l1 (hI h l0 (l3 + (1 : Int32)).toNatClampNeg) (hI h l0 (l3 + (2 : Int32)).toNatClampNeg) h (fun (v679 : Int32) (h678 : xH) => (vp_in (l3 + (1 : Int32)) (hS h678 l0 - 1)) ∧ (vp_in (l3 + (2 : Int32)) (hS h678 l0 - 1)) ∧ (k + 0 ≤ 4000) ∧ (kd l2.1 = (1, 10)) ∧ p_M_pace l2 (hI h678 l0 (l3 + (1 : Int32)).toNatClampNeg) (hI h678 l0 (l3 + (2 : Int32)).toNatClampNeg) h678 (fun (v685 : Int32) (h684 : xH) => ((v679 = v685 → ∀ v687 : Int32, v687 = l3 + (7 : Int32) → (p_L_law_L18 l0 l1 l2 K18_2000 Q f) v687 (k) h684) ∧ (¬ v679 = v685 → Q (0 : Int32) h684))))) ∧ (((hI h l0 l3.toNatClampNeg) &&& (63 : Int32)) = (43 : Int32) → (vp_in (l3 + (1 : Int32)) (hS h l0 - 1)) ∧ (vp_in (l3 + (2 : Int32)) (hS h l0 - 1)) ∧ (vp_in (l3 + (3 : Int32)) (hS h l0 - 1)) ∧ (k + 0 ≤ 4000) ∧ (kd l1.1 = (1, 9)) ∧ p_T_remainder l1 (hI h l0 (l3 + (1 : Int32)).toNatClampNeg) (hI h l0 (l3 + (2 : Int32)).toNatClampNeg) (hI h l0 (l3 + (3 : Int32)).toNatClampNeg) h (fun (v695 : Int32) (h694 : xH) => (vp_in (l3 + (1 : Int32)) (hS h694 l0 - 1)) ∧ (vp_in (l3 + (2 : Int32)) (hS h694 l0 - 1)) ∧ (vp_in (l3 + (3 : Int32)) (hS h694 l0 - 1)) ∧ (k + 0 ≤ 4000) ∧ (kd l2.1 = (1, 10)) ∧ p_M_remainder l2 (hI h694 l0 (l3 + (1 : Int32)).toNatClampNeg) (hI h694 l0 (l3 + (2 : Int32)).toNatClampNeg) (hI h694 l0 (l3 + (3 : Int32)).toNatClampNeg) h694 (fun (v702 : Int32) (h701 : xH) => ((v695 = v702 → ∀ v704 : Int32, v704 = l3 + (7 : Int32) → (p_L_law_L18 l0 l1 l2 K18_2000 Q f) v704 (k) h701) ∧ (¬ v695 = v702 → Q (0 : Int32) h701))))) ∧ (((hI h l0 l3.toNatClampNeg) &&& (63 : Int32)) = (44 : Int32) → (vp_in (l3 + (1 : Int32)) (hS h l0 - 1)) ∧ (vp_in (l3 + (2 : Int32)) (hS h l0 - 1)) ∧ (k + 0 ≤ 4000) ∧ (kd l1.1 = (1, 9)) ∧ p_T_ask l1 (hI h l0 (l3 + (1 : Int32)).toNatClampNeg) (hI h l0 (l3 + (2 : Int32)).toNatClampNeg) h (fun (v711 : Int32) (h710 : xH) => (vp_in (l3 + (1 : Int32)) (hS h710 l0 - 1)) ∧ (vp_in (l3 + (2 : Int32)) (hS h710 l0 - 1)) ∧ (k + 0 ≤ 4000) ∧ (kd l2.1 = (1, 10)) ∧ p_M_ask l2 (hI h710 l0 (l3 + (1 : Int32)).toNatClampNeg) (hI h710 l0 (l3 + (2 : Int32)).toNatClampNeg) h710 (fun (v717 : Int32) (h716 : xH) => ((v711 = v717 → ∀ v719 : Int32, v719 = l3 + (7 : Int32) → (p_L_law_L18 l0 l1 l2 K18_2000 Q f) v719 (k) h716) ∧ (¬ v711 = v717 → Q (0 : Int32) h716))))) ∧ (((hI h l0 l3.toNatClampNeg) &&& (63 : Int32)) = (45 : Int32) → (vp_in (l3 + (1 : Int32)) (hS h l0 - 1)) ∧ (k + 0 ≤ 4000) ∧ (kd l1.1 = (1, 9)) ∧ p_T_trace l1 (hI h l0 (l3 + (1 : Int32)).toNatClampNeg) h (fun (v725 : Int32) (h724 : xH) => (vp_in (l3 + (1 : Int32)) (hS h724 l0 - 1)) ∧ (k + 0 ≤ 4000) ∧ (kd l2.1 = (1, 10)) ∧ p_M_trace l2 (hI h724 l0 (l3 + (1 : Int32)).toNatClampNeg) h724 (fun (v730 : Int32) (h729 : xH) => ((v725 = v730 → ∀ v732 : Int32, v732 = l3 + (7 : Int32) → (p_L_law_L18 l0 l1 l2 K18_2000 Q f) v732 (k) h729) ∧ (¬ v725 = v730 → Q (0 : Int32) h729))))) ∧ (((hI h l0 l3.toNatClampNeg) &&& (63 : Int32)) = (46 : Int32) → (k + 0 ≤ 4000) ∧ (kd l1.1 = (1, 9)) ∧ p_T_finding l1 h (fun (v737 : Int32) (h736 : xH) => (k + 0 ≤ 4000) ∧ (kd l2.1 = (1, 10)) ∧ p_M_finding l2 h736 (fun (v741 : Int32) (h740 : xH) => ((v737 = v741 → ∀ v743 : Int32, v743 = l3 + (7 : Int32) → (p_L_law_L18 l0 l1 l2 K18_2000 Q f) v743 (k) h740) ∧ (¬ v737 = v741 → Q (0 : Int32) h740))))) ∧ (((hI h l0 l3.toNatClampNeg) &&& (63 : Int32)) = (47 : Int32) → (vp_in (l3 + (1 : Int32)) (hS h l0 - 1)) ∧ (k + 0 ≤ 4000) ∧ (kd l1.1 = (1, 9)) ∧ p_T_count l1 (hI h l0 (l3 + (1 : Int32)).toNatClampNeg) h (fun (v749 : Int32) (h748 : xH) => (vp_in (l3 + (1 : Int32)) (hS h748 l0 - 1)) ∧ (k + 0 ≤ 4000) ∧ (kd l2.1 = (1, 10)) ∧ p_M_count l2 (hI h748 l0 (l3 + (1 : Int32)).toNatClampNeg) h748 (fun (v754 : Int32) (h753 : xH) => ((v749 = v754 → ∀ v756 : Int32, v756 = l3 + (7 : Int32) → (p_L_law_L18 l0 l1 l2 K18_2000 Q f) v756 (k) h753) ∧ (¬ v749 = v754 → Q (0 : Int32) h753))))) ∧ (((hI h l0 l3.toNatClampNeg) &&& (63 : Int32)) = (48 : Int32) → (k + 0 ≤ 4000) ∧ (kd l1.1 = (1, 9)) ∧ p_T_digest l1 h (fun (v761 : Int64) (h760 : xH) => (k + 0 ≤ 4000) ∧ (kd l2.1 = (1, 10)) ∧ p_M_digest l2 h760 (fun (v765 : Int64) (h764 : xH) => (((lg_cmp v761 v765) = 0 → ∀ v767 : Int32, v767 = l3 + (7 : Int32) → (p_L_law_L18 l0 l1 l2 K18_2000 Q f) v767 (k) h764) ∧ (¬ (lg_cmp v761 v765) = 0 → Q (0 : Int32) h764))))) ∧ ((∀ q ∈ ([(0 : Int32), (1 : Int32), (2 : Int32), (3 : Int32), (4 : Int32), (5 : Int32), (6 : Int32), (7 : Int32), (8 : Int32), (9 : Int32), (10 : Int32), (11 : Int32), (12 : Int32), (13 : Int32), (14 : Int32), (15 : Int32), (16 : Int32), (17 : Int32), (18 : Int32), (19 : Int32), (20 : Int32), (21 : Int32), (22 : Int32), (23 : Int32), (24 : Int32), (25 : Int32), (26 : Int32), (27 : Int32), (28 : Int32), (29 : Int32), (30 : Int32), (31 : Int32), (32 : Int32), (33 : Int32), (34 : Int32), (35 : Int32), (36 : Int32), (37 : Int32), (38 : Int32), (39 : Int32), (40 : Int32), (41 : Int32), (42 : Int32), (43 : Int32), (44 : Int32), (45 : Int32), (46 : Int32), (47 : Int32), (48 : Int32)] : List Int32), ((hI h l0 l3.toNatClampNeg) &&& (63 : Int32)) ≠ q) → ∀ v769 : Int32, v769 = l3 + (7 : Int32) → (p_L_law_L18 l0 l1 l2 K18_2000 Q f) v769 (k) h))))
set_option maxRecDepth 100000 in
set_option maxHeartbeats 4000000 in
theorem t_L_law_L18 (l0 : xN) (l1 : xN) (l2 : xN) (K18_2000 : Nat → xH → Prop) (Q : Int32 → xH → Prop) (hK18_2000 : ∀ (k : Nat) (h : xH), K18_2000 k h → WP M_L_law 2000 [] [] h k (qi Q)) : ∀ (f : Nat) (l3 : Int32) (k : Nat) (h : xH), p_L_law_L18 l0 l1 l2 K18_2000 Q f l3 k h → WP M_L_law 18 [(0, xr l0), (1, xr l1), (2, xr l2), (3, xi l3)] [] h k (qi Q) := by
  intro f
  induction f with
  | zero => exact fun _ _ _ H => H.elim
  | succ f hB18 =>
    intro l3 k h H
    unfold p_L_law_L18 at H
    refine wp_iload_n 3 rfl rfl dL_law_18 ?_
    refine wp_aload_n 0 rfl rfl dL_law_19 ?_
    obtain ⟨q9, H⟩ := H
    refine wp_alen q9 ⟨(Nat.le_of_ble_eq_true rfl), (Nat.le_of_ble_eq_true rfl)⟩ rfl dL_law_20 ?_
    refine wp_bipush (7 : Int32) (by decide) dL_law_21 ?_
    refine wp_isub dL_law_23 ?_
    refine WP.at 24 rfl ?_
    refine wp_icmp_gt 2000 (by decide) dL_law_24 (fun c10 => ?_) (fun c10 => ?_)
    · replace H := H.1 c10
      exact WP.pick [] rfl (hK18_2000 (k) _ H)
    · replace H := H.2 c10
      refine wp_aload_n 0 rfl rfl dL_law_27 ?_
      refine wp_iload_n 3 rfl rfl dL_law_28 ?_
      obtain ⟨q11, H⟩ := H
      refine wp_iaload q9 q11 dL_law_29 ?_
      refine wp_bipush (63 : Int32) (by decide) dL_law_30 ?_
      refine wp_iand dL_law_32 ?_
      refine WP.at 33 rfl ?_
      refine wp_tsw dL_law_33 [((0 : Int32), 244), ((1 : Int32), 267), ((2 : Int32), 320), ((3 : Int32), 373), ((4 : Int32), 406), ((5 : Int32), 439), ((6 : Int32), 462), ((7 : Int32), 505), ((8 : Int32), 528), ((9 : Int32), 561), ((10 : Int32), 636), ((11 : Int32), 659), ((12 : Int32), 682), ((13 : Int32), 715), ((14 : Int32), 768), ((15 : Int32), 821), ((16 : Int32), 874), ((17 : Int32), 907), ((18 : Int32), 920), ((19 : Int32), 933), ((20 : Int32), 956), ((21 : Int32), 969), ((22 : Int32), 992), ((23 : Int32), 1025), ((24 : Int32), 1048), ((25 : Int32), 1091), ((26 : Int32), 1174), ((27 : Int32), 1217), ((28 : Int32), 1250), ((29 : Int32), 1283), ((30 : Int32), 1316), ((31 : Int32), 1359), ((32 : Int32), 1412), ((33 : Int32), 1455), ((34 : Int32), 1508), ((35 : Int32), 1551), ((36 : Int32), 1614), ((37 : Int32), 1677), ((38 : Int32), 1690), ((39 : Int32), 1723), ((40 : Int32), 1746), ((41 : Int32), 1779), ((42 : Int32), 1812), ((43 : Int32), 1845), ((44 : Int32), 1888), ((45 : Int32), 1921), ((46 : Int32), 1944), ((47 : Int32), 1957), ((48 : Int32), 1980)] 1994 (by decide) (by decide +kernel) (by decide +kernel) ?_ ?_
      · refine List.forall_mem_cons.mpr ⟨fun c0 => ?_, List.forall_mem_cons.mpr ⟨fun c0 => ?_, List.forall_mem_cons.mpr ⟨fun c0 => ?_, List.forall_mem_cons.mpr ⟨fun c0 => ?_, List.forall_mem_cons.mpr ⟨fun c0 => ?_, List.forall_mem_cons.mpr ⟨fun c0 => ?_, List.forall_mem_cons.mpr ⟨fun c0 => ?_, List.forall_mem_cons.mpr ⟨fun c0 => ?_, List.forall_mem_cons.mpr ⟨fun c0 => ?_, List.forall_mem_cons.mpr ⟨fun c0 => ?_, List.forall_mem_cons.mpr ⟨fun c0 => ?_, List.forall_mem_cons.mpr ⟨fun c0 => ?_, List.forall_mem_cons.mpr ⟨fun c0 => ?_, List.forall_mem_cons.mpr ⟨fun c0 => ?_, List.forall_mem_cons.mpr ⟨fun c0 => ?_, List.forall_mem_cons.mpr ⟨fun c0 => ?_, List.forall_mem_cons.mpr ⟨fun c0 => ?_, List.forall_mem_cons.mpr ⟨fun c0 => ?_, List.forall_mem_cons.mpr ⟨fun c0 => ?_, List.forall_mem_cons.mpr ⟨fun c0 => ?_, List.forall_mem_cons.mpr ⟨fun c0 => ?_, List.forall_mem_cons.mpr ⟨fun c0 => ?_, List.forall_mem_cons.mpr ⟨fun c0 => ?_, List.forall_mem_cons.mpr ⟨fun c0 => ?_, List.forall_mem_cons.mpr ⟨fun c0 => ?_, List.forall_mem_cons.mpr ⟨fun c0 => ?_, List.forall_mem_cons.mpr ⟨fun c0 => ?_, List.forall_mem_cons.mpr ⟨fun c0 => ?_, List.forall_mem_cons.mpr ⟨fun c0 => ?_, List.forall_mem_cons.mpr ⟨fun c0 => ?_, List.forall_mem_cons.mpr ⟨fun c0 => ?_, List.forall_mem_cons.mpr ⟨fun c0 => ?_, List.forall_mem_cons.mpr ⟨fun c0 => ?_, List.forall_mem_cons.mpr ⟨fun c0 => ?_, List.forall_mem_cons.mpr ⟨fun c0 => ?_, List.forall_mem_cons.mpr ⟨fun c0 => ?_, List.forall_mem_cons.mpr ⟨fun c0 => ?_, List.forall_mem_cons.mpr ⟨fun c0 => ?_, List.forall_mem_cons.mpr ⟨fun c0 => ?_, List.forall_mem_cons.mpr ⟨fun c0 => ?_, List.forall_mem_cons.mpr ⟨fun c0 => ?_, List.forall_mem_cons.mpr ⟨fun c0 => ?_, List.forall_mem_cons.mpr ⟨fun c0 => ?_, List.forall_mem_cons.mpr ⟨fun c0 => ?_, List.forall_mem_cons.mpr ⟨fun c0 => ?_, List.forall_mem_cons.mpr ⟨fun c0 => ?_, List.forall_mem_cons.mpr ⟨fun c0 => ?_, List.forall_mem_cons.mpr ⟨fun c0 => ?_, List.forall_mem_cons.mpr ⟨fun c0 => ?_, fun _ z => absurd z List.not_mem_nil⟩⟩⟩⟩⟩⟩⟩⟩⟩⟩⟩⟩⟩⟩⟩⟩⟩⟩⟩⟩⟩⟩⟩⟩⟩⟩⟩⟩⟩⟩⟩⟩⟩⟩⟩⟩⟩⟩⟩⟩⟩⟩⟩⟩⟩⟩⟩⟩⟩
        · replace H := H.1 c0
          refine wp_aload_n 1 rfl rfl dL_law_244 ?_
          refine wp_aload_n 0 rfl rfl dL_law_245 ?_
          refine wp_iload_n 3 rfl rfl dL_law_246 ?_
          refine wp_iconst (1 : Int32) (by decide) dL_law_247 ?_
          refine wp_iadd dL_law_248 ?_
          obtain ⟨q12, H⟩ := H
          refine wp_iaload q9 q12 dL_law_249 ?_
          refine WP.at 250 rfl ?_
          obtain ⟨q13, H⟩ := H
          obtain ⟨q14, H⟩ := H
          refine wp_cVi (M2 := M_T_race) coX10 l1 q14 [xi (hI h l0 (l3 + (1 : Int32)).toNatClampNeg)] rfl lv_L_13 mo_T_race (Nat.le_of_ble_eq_true rfl) ⟨(Nat.le_of_ble_eq_true rfl), (Nat.le_of_ble_eq_true rfl)⟩ (Nat.le_of_ble_eq_true rfl) q13 dL_law_250 (t_T_race l1 (hI h l0 (l3 + (1 : Int32)).toNatClampNeg) _ _ H) (fun v16 h15 H => ?_)
          refine WP.at 253 rfl ?_
          refine wp_aload_n 2 rfl rfl dL_law_253 ?_
          refine wp_aload_n 0 rfl rfl dL_law_254 ?_
          refine wp_iload_n 3 rfl rfl dL_law_255 ?_
          refine wp_iconst (1 : Int32) (by decide) dL_law_256 ?_
          refine wp_iadd dL_law_257 ?_
          obtain ⟨q17, H⟩ := H
          refine wp_iaload q9 q17 dL_law_258 ?_
          refine WP.at 259 rfl ?_
          obtain ⟨q18, H⟩ := H
          obtain ⟨q19, H⟩ := H
          refine wp_cVi (M2 := M_M_race) coX11 l2 q19 [xi (hI h15 l0 (l3 + (1 : Int32)).toNatClampNeg)] rfl lv_L_17 mo_M_race (Nat.le_of_ble_eq_true rfl) ⟨(Nat.le_of_ble_eq_true rfl), (Nat.le_of_ble_eq_true rfl)⟩ (Nat.le_of_ble_eq_true rfl) q18 dL_law_259 (t_M_race l2 (hI h15 l0 (l3 + (1 : Int32)).toNatClampNeg) _ _ H) (fun v21 h20 H => ?_)
          refine WP.at 262 rfl ?_
          refine wp_icmp_eq 1994 (by decide) dL_law_262 (fun c22 => ?_) (fun c22 => ?_)
          · replace H := H.1 c22
            refine wp_iincN (7 : Int32) (by decide) rfl (Nat.le_of_ble_eq_true rfl) dL_law_1994 (ls' := fun v23 => [(3, xi v23), (0, xr l0), (1, xr l1), (2, xr l2)]) (fun _ => rfl) (fun v23 e24 => ?_)
            replace H := H v23 e24
            refine WP.at 1997 rfl ?_
            refine wp_goto 18 (by decide) dL_law_1997 ?_
            exact WP.pick [1, 2, 3, 0] rfl (hB18 v23 (k + 7) _ H)
          · replace H := H.2 c22
            refine wp_iconst (0 : Int32) (by decide) dL_law_265 ?_
            exact wp_iret (Or.inl rfl) dL_law_266 H
        · replace H := H.2.1 c0
          refine wp_aload_n 1 rfl rfl dL_law_267 ?_
          refine wp_aload_n 0 rfl rfl dL_law_268 ?_
          refine wp_iload_n 3 rfl rfl dL_law_269 ?_
          refine wp_iconst (1 : Int32) (by decide) dL_law_270 ?_
          refine wp_iadd dL_law_271 ?_
          obtain ⟨q25, H⟩ := H
          refine wp_iaload q9 q25 dL_law_272 ?_
          refine wp_aload_n 0 rfl rfl dL_law_273 ?_
          refine WP.at 274 rfl ?_
          refine wp_iload_n 3 rfl rfl dL_law_274 ?_
          refine wp_iconst (2 : Int32) (by decide) dL_law_275 ?_
          refine wp_iadd dL_law_276 ?_
          obtain ⟨q26, H⟩ := H
          refine wp_iaload q9 q26 dL_law_277 ?_
          refine wp_aload_n 0 rfl rfl dL_law_278 ?_
          refine wp_iload_n 3 rfl rfl dL_law_279 ?_
          refine wp_iconst (3 : Int32) (by decide) dL_law_280 ?_
          refine wp_iadd dL_law_281 ?_
          refine WP.at 282 rfl ?_
          obtain ⟨q27, H⟩ := H
          refine wp_iaload q9 q27 dL_law_282 ?_
          refine wp_aload_n 0 rfl rfl dL_law_283 ?_
          refine wp_iload_n 3 rfl rfl dL_law_284 ?_
          refine wp_iconst (4 : Int32) (by decide) dL_law_285 ?_
          refine wp_iadd dL_law_286 ?_
          obtain ⟨q28, H⟩ := H
          refine wp_iaload q9 q28 dL_law_287 ?_
          refine WP.at 288 rfl ?_
          obtain ⟨q29, H⟩ := H
          obtain ⟨q30, H⟩ := H
          refine wp_cVi (M2 := M_T_pool) coX10 l1 q30 [xi (hI h l0 (l3 + (1 : Int32)).toNatClampNeg), xi (hI h l0 (l3 + (2 : Int32)).toNatClampNeg), xi (hI h l0 (l3 + (3 : Int32)).toNatClampNeg), xi (hI h l0 (l3 + (4 : Int32)).toNatClampNeg)] rfl lv_L_18 mo_T_pool (Nat.le_of_ble_eq_true rfl) ⟨(Nat.le_of_ble_eq_true rfl), (Nat.le_of_ble_eq_true rfl)⟩ (Nat.le_of_ble_eq_true rfl) q29 dL_law_288 (t_T_pool l1 (hI h l0 (l3 + (1 : Int32)).toNatClampNeg) (hI h l0 (l3 + (2 : Int32)).toNatClampNeg) (hI h l0 (l3 + (3 : Int32)).toNatClampNeg) (hI h l0 (l3 + (4 : Int32)).toNatClampNeg) _ _ H) (fun v32 h31 H => ?_)
          refine wp_aload_n 2 rfl rfl dL_law_291 ?_
          refine WP.at 292 rfl ?_
          refine wp_aload_n 0 rfl rfl dL_law_292 ?_
          refine wp_iload_n 3 rfl rfl dL_law_293 ?_
          refine wp_iconst (1 : Int32) (by decide) dL_law_294 ?_
          refine wp_iadd dL_law_295 ?_
          obtain ⟨q33, H⟩ := H
          refine wp_iaload q9 q33 dL_law_296 ?_
          refine wp_aload_n 0 rfl rfl dL_law_297 ?_
          refine wp_iload_n 3 rfl rfl dL_law_298 ?_
          refine wp_iconst (2 : Int32) (by decide) dL_law_299 ?_
          refine WP.at 300 rfl ?_
          refine wp_iadd dL_law_300 ?_
          obtain ⟨q34, H⟩ := H
          refine wp_iaload q9 q34 dL_law_301 ?_
          refine wp_aload_n 0 rfl rfl dL_law_302 ?_
          refine wp_iload_n 3 rfl rfl dL_law_303 ?_
          refine wp_iconst (3 : Int32) (by decide) dL_law_304 ?_
          refine wp_iadd dL_law_305 ?_
          obtain ⟨q35, H⟩ := H
          refine wp_iaload q9 q35 dL_law_306 ?_
          refine wp_aload_n 0 rfl rfl dL_law_307 ?_
          refine WP.at 308 rfl ?_
          refine wp_iload_n 3 rfl rfl dL_law_308 ?_
          refine wp_iconst (4 : Int32) (by decide) dL_law_309 ?_
          refine wp_iadd dL_law_310 ?_
          obtain ⟨q36, H⟩ := H
          refine wp_iaload q9 q36 dL_law_311 ?_
          refine WP.at 312 rfl ?_
          obtain ⟨q37, H⟩ := H
          obtain ⟨q38, H⟩ := H
          refine wp_cVi (M2 := M_M_pool) coX11 l2 q38 [xi (hI h31 l0 (l3 + (1 : Int32)).toNatClampNeg), xi (hI h31 l0 (l3 + (2 : Int32)).toNatClampNeg), xi (hI h31 l0 (l3 + (3 : Int32)).toNatClampNeg), xi (hI h31 l0 (l3 + (4 : Int32)).toNatClampNeg)] rfl lv_L_22 mo_M_pool (Nat.le_of_ble_eq_true rfl) ⟨(Nat.le_of_ble_eq_true rfl), (Nat.le_of_ble_eq_true rfl)⟩ (Nat.le_of_ble_eq_true rfl) q37 dL_law_312 (t_M_pool l2 (hI h31 l0 (l3 + (1 : Int32)).toNatClampNeg) (hI h31 l0 (l3 + (2 : Int32)).toNatClampNeg) (hI h31 l0 (l3 + (3 : Int32)).toNatClampNeg) (hI h31 l0 (l3 + (4 : Int32)).toNatClampNeg) _ _ H) (fun v40 h39 H => ?_)
          refine WP.at 315 rfl ?_
          refine wp_icmp_eq 1994 (by decide) dL_law_315 (fun c41 => ?_) (fun c41 => ?_)
          · replace H := H.1 c41
            refine wp_iincN (7 : Int32) (by decide) rfl (Nat.le_of_ble_eq_true rfl) dL_law_1994 (ls' := fun v42 => [(3, xi v42), (0, xr l0), (1, xr l1), (2, xr l2)]) (fun _ => rfl) (fun v42 e43 => ?_)
            replace H := H v42 e43
            refine WP.at 1997 rfl ?_
            refine wp_goto 18 (by decide) dL_law_1997 ?_
            exact WP.pick [1, 2, 3, 0] rfl (hB18 v42 (k + 6) _ H)
          · replace H := H.2 c41
            refine wp_iconst (0 : Int32) (by decide) dL_law_318 ?_
            exact wp_iret (Or.inl rfl) dL_law_319 H
        · replace H := H.2.2.1 c0
          refine wp_aload_n 1 rfl rfl dL_law_320 ?_
          refine wp_aload_n 0 rfl rfl dL_law_321 ?_
          refine wp_iload_n 3 rfl rfl dL_law_322 ?_
          refine wp_iconst (1 : Int32) (by decide) dL_law_323 ?_
          refine wp_iadd dL_law_324 ?_
          obtain ⟨q44, H⟩ := H
          refine wp_iaload q9 q44 dL_law_325 ?_
          refine wp_aload_n 0 rfl rfl dL_law_326 ?_
          refine WP.at 327 rfl ?_
          refine wp_iload_n 3 rfl rfl dL_law_327 ?_
          refine wp_iconst (2 : Int32) (by decide) dL_law_328 ?_
          refine wp_iadd dL_law_329 ?_
          obtain ⟨q45, H⟩ := H
          refine wp_iaload q9 q45 dL_law_330 ?_
          refine wp_aload_n 0 rfl rfl dL_law_331 ?_
          refine wp_iload_n 3 rfl rfl dL_law_332 ?_
          refine wp_iconst (3 : Int32) (by decide) dL_law_333 ?_
          refine wp_iadd dL_law_334 ?_
          refine WP.at 335 rfl ?_
          obtain ⟨q46, H⟩ := H
          refine wp_iaload q9 q46 dL_law_335 ?_
          refine wp_aload_n 0 rfl rfl dL_law_336 ?_
          refine wp_iload_n 3 rfl rfl dL_law_337 ?_
          refine wp_iconst (4 : Int32) (by decide) dL_law_338 ?_
          refine wp_iadd dL_law_339 ?_
          obtain ⟨q47, H⟩ := H
          refine wp_iaload q9 q47 dL_law_340 ?_
          refine WP.at 341 rfl ?_
          obtain ⟨q48, H⟩ := H
          obtain ⟨q49, H⟩ := H
          refine wp_cVi (M2 := M_T_twin) coX10 l1 q49 [xi (hI h l0 (l3 + (1 : Int32)).toNatClampNeg), xi (hI h l0 (l3 + (2 : Int32)).toNatClampNeg), xi (hI h l0 (l3 + (3 : Int32)).toNatClampNeg), xi (hI h l0 (l3 + (4 : Int32)).toNatClampNeg)] rfl lv_L_23 mo_T_twin (Nat.le_of_ble_eq_true rfl) ⟨(Nat.le_of_ble_eq_true rfl), (Nat.le_of_ble_eq_true rfl)⟩ (Nat.le_of_ble_eq_true rfl) q48 dL_law_341 (t_T_twin l1 (hI h l0 (l3 + (1 : Int32)).toNatClampNeg) (hI h l0 (l3 + (2 : Int32)).toNatClampNeg) (hI h l0 (l3 + (3 : Int32)).toNatClampNeg) (hI h l0 (l3 + (4 : Int32)).toNatClampNeg) _ _ H) (fun v51 h50 H => ?_)
          refine wp_aload_n 2 rfl rfl dL_law_344 ?_
          refine WP.at 345 rfl ?_
          refine wp_aload_n 0 rfl rfl dL_law_345 ?_
          refine wp_iload_n 3 rfl rfl dL_law_346 ?_
          refine wp_iconst (1 : Int32) (by decide) dL_law_347 ?_
          refine wp_iadd dL_law_348 ?_
          obtain ⟨q52, H⟩ := H
          refine wp_iaload q9 q52 dL_law_349 ?_
          refine wp_aload_n 0 rfl rfl dL_law_350 ?_
          refine wp_iload_n 3 rfl rfl dL_law_351 ?_
          refine wp_iconst (2 : Int32) (by decide) dL_law_352 ?_
          refine WP.at 353 rfl ?_
          refine wp_iadd dL_law_353 ?_
          obtain ⟨q53, H⟩ := H
          refine wp_iaload q9 q53 dL_law_354 ?_
          refine wp_aload_n 0 rfl rfl dL_law_355 ?_
          refine wp_iload_n 3 rfl rfl dL_law_356 ?_
          refine wp_iconst (3 : Int32) (by decide) dL_law_357 ?_
          refine wp_iadd dL_law_358 ?_
          obtain ⟨q54, H⟩ := H
          refine wp_iaload q9 q54 dL_law_359 ?_
          refine wp_aload_n 0 rfl rfl dL_law_360 ?_
          refine WP.at 361 rfl ?_
          refine wp_iload_n 3 rfl rfl dL_law_361 ?_
          refine wp_iconst (4 : Int32) (by decide) dL_law_362 ?_
          refine wp_iadd dL_law_363 ?_
          obtain ⟨q55, H⟩ := H
          refine wp_iaload q9 q55 dL_law_364 ?_
          refine WP.at 365 rfl ?_
          obtain ⟨q56, H⟩ := H
          obtain ⟨q57, H⟩ := H
          refine wp_cVi (M2 := M_M_twin) coX11 l2 q57 [xi (hI h50 l0 (l3 + (1 : Int32)).toNatClampNeg), xi (hI h50 l0 (l3 + (2 : Int32)).toNatClampNeg), xi (hI h50 l0 (l3 + (3 : Int32)).toNatClampNeg), xi (hI h50 l0 (l3 + (4 : Int32)).toNatClampNeg)] rfl lv_L_26 mo_M_twin (Nat.le_of_ble_eq_true rfl) ⟨(Nat.le_of_ble_eq_true rfl), (Nat.le_of_ble_eq_true rfl)⟩ (Nat.le_of_ble_eq_true rfl) q56 dL_law_365 (t_M_twin l2 (hI h50 l0 (l3 + (1 : Int32)).toNatClampNeg) (hI h50 l0 (l3 + (2 : Int32)).toNatClampNeg) (hI h50 l0 (l3 + (3 : Int32)).toNatClampNeg) (hI h50 l0 (l3 + (4 : Int32)).toNatClampNeg) _ _ H) (fun v59 h58 H => ?_)
          refine WP.at 368 rfl ?_
          refine wp_icmp_eq 1994 (by decide) dL_law_368 (fun c60 => ?_) (fun c60 => ?_)
          · replace H := H.1 c60
            refine wp_iincN (7 : Int32) (by decide) rfl (Nat.le_of_ble_eq_true rfl) dL_law_1994 (ls' := fun v61 => [(3, xi v61), (0, xr l0), (1, xr l1), (2, xr l2)]) (fun _ => rfl) (fun v61 e62 => ?_)
            replace H := H v61 e62
            refine WP.at 1997 rfl ?_
            refine wp_goto 18 (by decide) dL_law_1997 ?_
            exact WP.pick [1, 2, 3, 0] rfl (hB18 v61 (k + 6) _ H)
          · replace H := H.2 c60
            refine wp_iconst (0 : Int32) (by decide) dL_law_371 ?_
            exact wp_iret (Or.inl rfl) dL_law_372 H
        · replace H := H.2.2.2.1 c0
          refine wp_aload_n 1 rfl rfl dL_law_373 ?_
          refine wp_aload_n 0 rfl rfl dL_law_374 ?_
          refine wp_iload_n 3 rfl rfl dL_law_375 ?_
          refine wp_iconst (1 : Int32) (by decide) dL_law_376 ?_
          refine wp_iadd dL_law_377 ?_
          obtain ⟨q63, H⟩ := H
          refine wp_iaload q9 q63 dL_law_378 ?_
          refine wp_aload_n 0 rfl rfl dL_law_379 ?_
          refine WP.at 380 rfl ?_
          refine wp_iload_n 3 rfl rfl dL_law_380 ?_
          refine wp_iconst (2 : Int32) (by decide) dL_law_381 ?_
          refine wp_iadd dL_law_382 ?_
          obtain ⟨q64, H⟩ := H
          refine wp_iaload q9 q64 dL_law_383 ?_
          refine WP.at 384 rfl ?_
          obtain ⟨q65, H⟩ := H
          obtain ⟨q66, H⟩ := H
          refine wp_cVi (M2 := M_T_substitute) coX10 l1 q66 [xi (hI h l0 (l3 + (1 : Int32)).toNatClampNeg), xi (hI h l0 (l3 + (2 : Int32)).toNatClampNeg)] rfl lv_L_27 mo_T_substitute (Nat.le_of_ble_eq_true rfl) ⟨(Nat.le_of_ble_eq_true rfl), (Nat.le_of_ble_eq_true rfl)⟩ (Nat.le_of_ble_eq_true rfl) q65 dL_law_384 (t_T_substitute l1 (hI h l0 (l3 + (1 : Int32)).toNatClampNeg) (hI h l0 (l3 + (2 : Int32)).toNatClampNeg) _ _ H) (fun v68 h67 H => ?_)
          refine wp_aload_n 2 rfl rfl dL_law_387 ?_
          refine wp_aload_n 0 rfl rfl dL_law_388 ?_
          refine wp_iload_n 3 rfl rfl dL_law_389 ?_
          refine WP.at 390 rfl ?_
          refine wp_iconst (1 : Int32) (by decide) dL_law_390 ?_
          refine wp_iadd dL_law_391 ?_
          obtain ⟨q69, H⟩ := H
          refine wp_iaload q9 q69 dL_law_392 ?_
          refine wp_aload_n 0 rfl rfl dL_law_393 ?_
          refine wp_iload_n 3 rfl rfl dL_law_394 ?_
          refine wp_iconst (2 : Int32) (by decide) dL_law_395 ?_
          refine wp_iadd dL_law_396 ?_
          obtain ⟨q70, H⟩ := H
          refine wp_iaload q9 q70 dL_law_397 ?_
          refine WP.at 398 rfl ?_
          refine WP.at 398 rfl ?_
          obtain ⟨q71, H⟩ := H
          obtain ⟨q72, H⟩ := H
          refine wp_cVi (M2 := M_M_substitute) coX11 l2 q72 [xi (hI h67 l0 (l3 + (1 : Int32)).toNatClampNeg), xi (hI h67 l0 (l3 + (2 : Int32)).toNatClampNeg)] rfl lv_L_31 mo_M_substitute (Nat.le_of_ble_eq_true rfl) ⟨(Nat.le_of_ble_eq_true rfl), (Nat.le_of_ble_eq_true rfl)⟩ (Nat.le_of_ble_eq_true rfl) q71 dL_law_398 (t_M_substitute l2 (hI h67 l0 (l3 + (1 : Int32)).toNatClampNeg) (hI h67 l0 (l3 + (2 : Int32)).toNatClampNeg) _ _ H) (fun v74 h73 H => ?_)
          refine WP.at 401 rfl ?_
          refine wp_icmp_eq 1994 (by decide) dL_law_401 (fun c75 => ?_) (fun c75 => ?_)
          · replace H := H.1 c75
            refine wp_iincN (7 : Int32) (by decide) rfl (Nat.le_of_ble_eq_true rfl) dL_law_1994 (ls' := fun v76 => [(3, xi v76), (0, xr l0), (1, xr l1), (2, xr l2)]) (fun _ => rfl) (fun v76 e77 => ?_)
            replace H := H v76 e77
            refine WP.at 1997 rfl ?_
            refine wp_goto 18 (by decide) dL_law_1997 ?_
            exact WP.pick [1, 2, 3, 0] rfl (hB18 v76 (k) _ H)
          · replace H := H.2 c75
            refine wp_iconst (0 : Int32) (by decide) dL_law_404 ?_
            exact wp_iret (Or.inl rfl) dL_law_405 H
        · replace H := H.2.2.2.2.1 c0
          refine wp_aload_n 1 rfl rfl dL_law_406 ?_
          refine wp_aload_n 0 rfl rfl dL_law_407 ?_
          refine wp_iload_n 3 rfl rfl dL_law_408 ?_
          refine wp_iconst (1 : Int32) (by decide) dL_law_409 ?_
          refine wp_iadd dL_law_410 ?_
          obtain ⟨q78, H⟩ := H
          refine wp_iaload q9 q78 dL_law_411 ?_
          refine wp_aload_n 0 rfl rfl dL_law_412 ?_
          refine WP.at 413 rfl ?_
          refine wp_iload_n 3 rfl rfl dL_law_413 ?_
          refine wp_iconst (2 : Int32) (by decide) dL_law_414 ?_
          refine wp_iadd dL_law_415 ?_
          obtain ⟨q79, H⟩ := H
          refine wp_iaload q9 q79 dL_law_416 ?_
          refine WP.at 417 rfl ?_
          obtain ⟨q80, H⟩ := H
          obtain ⟨q81, H⟩ := H
          refine wp_cVi (M2 := M_T_scratch) coX10 l1 q81 [xi (hI h l0 (l3 + (1 : Int32)).toNatClampNeg), xi (hI h l0 (l3 + (2 : Int32)).toNatClampNeg)] rfl lv_L_32 mo_T_scratch (Nat.le_of_ble_eq_true rfl) ⟨(Nat.le_of_ble_eq_true rfl), (Nat.le_of_ble_eq_true rfl)⟩ (Nat.le_of_ble_eq_true rfl) q80 dL_law_417 (t_T_scratch l1 (hI h l0 (l3 + (1 : Int32)).toNatClampNeg) (hI h l0 (l3 + (2 : Int32)).toNatClampNeg) _ _ H) (fun v83 h82 H => ?_)
          refine wp_aload_n 2 rfl rfl dL_law_420 ?_
          refine wp_aload_n 0 rfl rfl dL_law_421 ?_
          refine wp_iload_n 3 rfl rfl dL_law_422 ?_
          refine WP.at 423 rfl ?_
          refine wp_iconst (1 : Int32) (by decide) dL_law_423 ?_
          refine wp_iadd dL_law_424 ?_
          obtain ⟨q84, H⟩ := H
          refine wp_iaload q9 q84 dL_law_425 ?_
          refine wp_aload_n 0 rfl rfl dL_law_426 ?_
          refine wp_iload_n 3 rfl rfl dL_law_427 ?_
          refine wp_iconst (2 : Int32) (by decide) dL_law_428 ?_
          refine wp_iadd dL_law_429 ?_
          obtain ⟨q85, H⟩ := H
          refine wp_iaload q9 q85 dL_law_430 ?_
          refine WP.at 431 rfl ?_
          refine WP.at 431 rfl ?_
          obtain ⟨q86, H⟩ := H
          obtain ⟨q87, H⟩ := H
          refine wp_cVi (M2 := M_M_scratch) coX11 l2 q87 [xi (hI h82 l0 (l3 + (1 : Int32)).toNatClampNeg), xi (hI h82 l0 (l3 + (2 : Int32)).toNatClampNeg)] rfl lv_L_35 mo_M_scratch (Nat.le_of_ble_eq_true rfl) ⟨(Nat.le_of_ble_eq_true rfl), (Nat.le_of_ble_eq_true rfl)⟩ (Nat.le_of_ble_eq_true rfl) q86 dL_law_431 (t_M_scratch l2 (hI h82 l0 (l3 + (1 : Int32)).toNatClampNeg) (hI h82 l0 (l3 + (2 : Int32)).toNatClampNeg) _ _ H) (fun v89 h88 H => ?_)
          refine WP.at 434 rfl ?_
          refine wp_icmp_eq 1994 (by decide) dL_law_434 (fun c90 => ?_) (fun c90 => ?_)
          · replace H := H.1 c90
            refine wp_iincN (7 : Int32) (by decide) rfl (Nat.le_of_ble_eq_true rfl) dL_law_1994 (ls' := fun v91 => [(3, xi v91), (0, xr l0), (1, xr l1), (2, xr l2)]) (fun _ => rfl) (fun v91 e92 => ?_)
            replace H := H v91 e92
            refine WP.at 1997 rfl ?_
            refine wp_goto 18 (by decide) dL_law_1997 ?_
            exact WP.pick [1, 2, 3, 0] rfl (hB18 v91 (k) _ H)
          · replace H := H.2 c90
            refine wp_iconst (0 : Int32) (by decide) dL_law_437 ?_
            exact wp_iret (Or.inl rfl) dL_law_438 H
        · replace H := H.2.2.2.2.2.1 c0
          refine wp_aload_n 1 rfl rfl dL_law_439 ?_
          refine wp_aload_n 0 rfl rfl dL_law_440 ?_
          refine wp_iload_n 3 rfl rfl dL_law_441 ?_
          refine wp_iconst (1 : Int32) (by decide) dL_law_442 ?_
          refine wp_iadd dL_law_443 ?_
          obtain ⟨q93, H⟩ := H
          refine wp_iaload q9 q93 dL_law_444 ?_
          refine WP.at 445 rfl ?_
          obtain ⟨q94, H⟩ := H
          obtain ⟨q95, H⟩ := H
          refine wp_cVi (M2 := M_T_off) coX10 l1 q95 [xi (hI h l0 (l3 + (1 : Int32)).toNatClampNeg)] rfl lv_L_36 mo_T_off (Nat.le_of_ble_eq_true rfl) ⟨(Nat.le_of_ble_eq_true rfl), (Nat.le_of_ble_eq_true rfl)⟩ (Nat.le_of_ble_eq_true rfl) q94 dL_law_445 (t_T_off l1 (hI h l0 (l3 + (1 : Int32)).toNatClampNeg) _ _ H) (fun v97 h96 H => ?_)
          refine WP.at 448 rfl ?_
          refine wp_aload_n 2 rfl rfl dL_law_448 ?_
          refine wp_aload_n 0 rfl rfl dL_law_449 ?_
          refine wp_iload_n 3 rfl rfl dL_law_450 ?_
          refine wp_iconst (1 : Int32) (by decide) dL_law_451 ?_
          refine wp_iadd dL_law_452 ?_
          obtain ⟨q98, H⟩ := H
          refine wp_iaload q9 q98 dL_law_453 ?_
          refine WP.at 454 rfl ?_
          obtain ⟨q99, H⟩ := H
          obtain ⟨q100, H⟩ := H
          refine wp_cVi (M2 := M_M_off) coX11 l2 q100 [xi (hI h96 l0 (l3 + (1 : Int32)).toNatClampNeg)] rfl lv_L_39 mo_M_off (Nat.le_of_ble_eq_true rfl) ⟨(Nat.le_of_ble_eq_true rfl), (Nat.le_of_ble_eq_true rfl)⟩ (Nat.le_of_ble_eq_true rfl) q99 dL_law_454 (t_M_off l2 (hI h96 l0 (l3 + (1 : Int32)).toNatClampNeg) _ _ H) (fun v102 h101 H => ?_)
          refine WP.at 457 rfl ?_
          refine wp_icmp_eq 1994 (by decide) dL_law_457 (fun c103 => ?_) (fun c103 => ?_)
          · replace H := H.1 c103
            refine wp_iincN (7 : Int32) (by decide) rfl (Nat.le_of_ble_eq_true rfl) dL_law_1994 (ls' := fun v104 => [(3, xi v104), (0, xr l0), (1, xr l1), (2, xr l2)]) (fun _ => rfl) (fun v104 e105 => ?_)
            replace H := H v104 e105
            refine WP.at 1997 rfl ?_
            refine wp_goto 18 (by decide) dL_law_1997 ?_
            exact WP.pick [1, 2, 3, 0] rfl (hB18 v104 (k) _ H)
          · replace H := H.2 c103
            refine wp_iconst (0 : Int32) (by decide) dL_law_460 ?_
            exact wp_iret (Or.inl rfl) dL_law_461 H
        · replace H := H.2.2.2.2.2.2.1 c0
          refine wp_aload_n 1 rfl rfl dL_law_462 ?_
          refine wp_aload_n 0 rfl rfl dL_law_463 ?_
          refine wp_iload_n 3 rfl rfl dL_law_464 ?_
          refine wp_iconst (1 : Int32) (by decide) dL_law_465 ?_
          refine wp_iadd dL_law_466 ?_
          obtain ⟨q106, H⟩ := H
          refine wp_iaload q9 q106 dL_law_467 ?_
          refine wp_aload_n 0 rfl rfl dL_law_468 ?_
          refine WP.at 469 rfl ?_
          refine wp_iload_n 3 rfl rfl dL_law_469 ?_
          refine wp_iconst (2 : Int32) (by decide) dL_law_470 ?_
          refine wp_iadd dL_law_471 ?_
          obtain ⟨q107, H⟩ := H
          refine wp_iaload q9 q107 dL_law_472 ?_
          refine wp_aload_n 0 rfl rfl dL_law_473 ?_
          refine wp_iload_n 3 rfl rfl dL_law_474 ?_
          refine wp_iconst (3 : Int32) (by decide) dL_law_475 ?_
          refine wp_iadd dL_law_476 ?_
          refine WP.at 477 rfl ?_
          obtain ⟨q108, H⟩ := H
          refine wp_iaload q9 q108 dL_law_477 ?_
          refine WP.at 478 rfl ?_
          obtain ⟨q109, H⟩ := H
          obtain ⟨q110, H⟩ := H
          refine wp_cVi (M2 := M_T_place) coX10 l1 q110 [xi (hI h l0 (l3 + (1 : Int32)).toNatClampNeg), xi (hI h l0 (l3 + (2 : Int32)).toNatClampNeg), xi (hI h l0 (l3 + (3 : Int32)).toNatClampNeg)] rfl lv_L_40 mo_T_place (Nat.le_of_ble_eq_true rfl) ⟨(Nat.le_of_ble_eq_true rfl), (Nat.le_of_ble_eq_true rfl)⟩ (Nat.le_of_ble_eq_true rfl) q109 dL_law_478 (t_T_place l1 (hI h l0 (l3 + (1 : Int32)).toNatClampNeg) (hI h l0 (l3 + (2 : Int32)).toNatClampNeg) (hI h l0 (l3 + (3 : Int32)).toNatClampNeg) _ _ H) (fun v112 h111 H => ?_)
          refine wp_aload_n 2 rfl rfl dL_law_481 ?_
          refine wp_aload_n 0 rfl rfl dL_law_482 ?_
          refine wp_iload_n 3 rfl rfl dL_law_483 ?_
          refine wp_iconst (1 : Int32) (by decide) dL_law_484 ?_
          refine wp_iadd dL_law_485 ?_
          obtain ⟨q113, H⟩ := H
          refine wp_iaload q9 q113 dL_law_486 ?_
          refine WP.at 487 rfl ?_
          refine wp_aload_n 0 rfl rfl dL_law_487 ?_
          refine wp_iload_n 3 rfl rfl dL_law_488 ?_
          refine wp_iconst (2 : Int32) (by decide) dL_law_489 ?_
          refine wp_iadd dL_law_490 ?_
          obtain ⟨q114, H⟩ := H
          refine wp_iaload q9 q114 dL_law_491 ?_
          refine wp_aload_n 0 rfl rfl dL_law_492 ?_
          refine wp_iload_n 3 rfl rfl dL_law_493 ?_
          refine wp_iconst (3 : Int32) (by decide) dL_law_494 ?_
          refine WP.at 495 rfl ?_
          refine wp_iadd dL_law_495 ?_
          obtain ⟨q115, H⟩ := H
          refine wp_iaload q9 q115 dL_law_496 ?_
          refine WP.at 497 rfl ?_
          obtain ⟨q116, H⟩ := H
          obtain ⟨q117, H⟩ := H
          refine wp_cVi (M2 := M_M_place) coX11 l2 q117 [xi (hI h111 l0 (l3 + (1 : Int32)).toNatClampNeg), xi (hI h111 l0 (l3 + (2 : Int32)).toNatClampNeg), xi (hI h111 l0 (l3 + (3 : Int32)).toNatClampNeg)] rfl lv_L_44 mo_M_place (Nat.le_of_ble_eq_true rfl) ⟨(Nat.le_of_ble_eq_true rfl), (Nat.le_of_ble_eq_true rfl)⟩ (Nat.le_of_ble_eq_true rfl) q116 dL_law_497 (t_M_place l2 (hI h111 l0 (l3 + (1 : Int32)).toNatClampNeg) (hI h111 l0 (l3 + (2 : Int32)).toNatClampNeg) (hI h111 l0 (l3 + (3 : Int32)).toNatClampNeg) _ _ H) (fun v119 h118 H => ?_)
          refine WP.at 500 rfl ?_
          refine wp_icmp_eq 1994 (by decide) dL_law_500 (fun c120 => ?_) (fun c120 => ?_)
          · replace H := H.1 c120
            refine wp_iincN (7 : Int32) (by decide) rfl (Nat.le_of_ble_eq_true rfl) dL_law_1994 (ls' := fun v121 => [(3, xi v121), (0, xr l0), (1, xr l1), (2, xr l2)]) (fun _ => rfl) (fun v121 e122 => ?_)
            replace H := H v121 e122
            refine WP.at 1997 rfl ?_
            refine wp_goto 18 (by decide) dL_law_1997 ?_
            exact WP.pick [1, 2, 3, 0] rfl (hB18 v121 (k) _ H)
          · replace H := H.2 c120
            refine wp_iconst (0 : Int32) (by decide) dL_law_503 ?_
            exact wp_iret (Or.inl rfl) dL_law_504 H
        · replace H := H.2.2.2.2.2.2.2.1 c0
          refine wp_aload_n 1 rfl rfl dL_law_505 ?_
          refine wp_aload_n 0 rfl rfl dL_law_506 ?_
          refine wp_iload_n 3 rfl rfl dL_law_507 ?_
          refine wp_iconst (1 : Int32) (by decide) dL_law_508 ?_
          refine wp_iadd dL_law_509 ?_
          obtain ⟨q123, H⟩ := H
          refine wp_iaload q9 q123 dL_law_510 ?_
          refine WP.at 511 rfl ?_
          obtain ⟨q124, H⟩ := H
          obtain ⟨q125, H⟩ := H
          refine wp_cVi (M2 := M_T_official) coX10 l1 q125 [xi (hI h l0 (l3 + (1 : Int32)).toNatClampNeg)] rfl lv_L_45 mo_T_official (Nat.le_of_ble_eq_true rfl) ⟨(Nat.le_of_ble_eq_true rfl), (Nat.le_of_ble_eq_true rfl)⟩ (Nat.le_of_ble_eq_true rfl) q124 dL_law_511 (t_T_official l1 (hI h l0 (l3 + (1 : Int32)).toNatClampNeg) _ _ H) (fun v127 h126 H => ?_)
          refine WP.at 514 rfl ?_
          refine wp_aload_n 2 rfl rfl dL_law_514 ?_
          refine wp_aload_n 0 rfl rfl dL_law_515 ?_
          refine wp_iload_n 3 rfl rfl dL_law_516 ?_
          refine wp_iconst (1 : Int32) (by decide) dL_law_517 ?_
          refine wp_iadd dL_law_518 ?_
          obtain ⟨q128, H⟩ := H
          refine wp_iaload q9 q128 dL_law_519 ?_
          refine WP.at 520 rfl ?_
          obtain ⟨q129, H⟩ := H
          obtain ⟨q130, H⟩ := H
          refine wp_cVi (M2 := M_M_official) coX11 l2 q130 [xi (hI h126 l0 (l3 + (1 : Int32)).toNatClampNeg)] rfl lv_L_48 mo_M_official (Nat.le_of_ble_eq_true rfl) ⟨(Nat.le_of_ble_eq_true rfl), (Nat.le_of_ble_eq_true rfl)⟩ (Nat.le_of_ble_eq_true rfl) q129 dL_law_520 (t_M_official l2 (hI h126 l0 (l3 + (1 : Int32)).toNatClampNeg) _ _ H) (fun v132 h131 H => ?_)
          refine WP.at 523 rfl ?_
          refine wp_icmp_eq 1994 (by decide) dL_law_523 (fun c133 => ?_) (fun c133 => ?_)
          · replace H := H.1 c133
            refine wp_iincN (7 : Int32) (by decide) rfl (Nat.le_of_ble_eq_true rfl) dL_law_1994 (ls' := fun v134 => [(3, xi v134), (0, xr l0), (1, xr l1), (2, xr l2)]) (fun _ => rfl) (fun v134 e135 => ?_)
            replace H := H v134 e135
            refine WP.at 1997 rfl ?_
            refine wp_goto 18 (by decide) dL_law_1997 ?_
            exact WP.pick [1, 2, 3, 0] rfl (hB18 v134 (k) _ H)
          · replace H := H.2 c133
            refine wp_iconst (0 : Int32) (by decide) dL_law_526 ?_
            exact wp_iret (Or.inl rfl) dL_law_527 H
        · replace H := H.2.2.2.2.2.2.2.2.1 c0
          refine wp_aload_n 1 rfl rfl dL_law_528 ?_
          refine wp_aload_n 0 rfl rfl dL_law_529 ?_
          refine wp_iload_n 3 rfl rfl dL_law_530 ?_
          refine wp_iconst (1 : Int32) (by decide) dL_law_531 ?_
          refine wp_iadd dL_law_532 ?_
          obtain ⟨q136, H⟩ := H
          refine wp_iaload q9 q136 dL_law_533 ?_
          refine wp_aload_n 0 rfl rfl dL_law_534 ?_
          refine WP.at 535 rfl ?_
          refine wp_iload_n 3 rfl rfl dL_law_535 ?_
          refine wp_iconst (2 : Int32) (by decide) dL_law_536 ?_
          refine wp_iadd dL_law_537 ?_
          obtain ⟨q137, H⟩ := H
          refine wp_iaload q9 q137 dL_law_538 ?_
          refine WP.at 539 rfl ?_
          obtain ⟨q138, H⟩ := H
          obtain ⟨q139, H⟩ := H
          refine wp_cVi (M2 := M_T_raceAt) coX10 l1 q139 [xi (hI h l0 (l3 + (1 : Int32)).toNatClampNeg), xi (hI h l0 (l3 + (2 : Int32)).toNatClampNeg)] rfl lv_L_49 mo_T_raceAt (Nat.le_of_ble_eq_true rfl) ⟨(Nat.le_of_ble_eq_true rfl), (Nat.le_of_ble_eq_true rfl)⟩ (Nat.le_of_ble_eq_true rfl) q138 dL_law_539 (t_T_raceAt l1 (hI h l0 (l3 + (1 : Int32)).toNatClampNeg) (hI h l0 (l3 + (2 : Int32)).toNatClampNeg) _ _ H) (fun v141 h140 H => ?_)
          refine wp_aload_n 2 rfl rfl dL_law_542 ?_
          refine wp_aload_n 0 rfl rfl dL_law_543 ?_
          refine wp_iload_n 3 rfl rfl dL_law_544 ?_
          refine WP.at 545 rfl ?_
          refine wp_iconst (1 : Int32) (by decide) dL_law_545 ?_
          refine wp_iadd dL_law_546 ?_
          obtain ⟨q142, H⟩ := H
          refine wp_iaload q9 q142 dL_law_547 ?_
          refine wp_aload_n 0 rfl rfl dL_law_548 ?_
          refine wp_iload_n 3 rfl rfl dL_law_549 ?_
          refine wp_iconst (2 : Int32) (by decide) dL_law_550 ?_
          refine wp_iadd dL_law_551 ?_
          obtain ⟨q143, H⟩ := H
          refine wp_iaload q9 q143 dL_law_552 ?_
          refine WP.at 553 rfl ?_
          refine WP.at 553 rfl ?_
          obtain ⟨q144, H⟩ := H
          obtain ⟨q145, H⟩ := H
          refine wp_cVi (M2 := M_M_raceAt) coX11 l2 q145 [xi (hI h140 l0 (l3 + (1 : Int32)).toNatClampNeg), xi (hI h140 l0 (l3 + (2 : Int32)).toNatClampNeg)] rfl lv_L_52 mo_M_raceAt (Nat.le_of_ble_eq_true rfl) ⟨(Nat.le_of_ble_eq_true rfl), (Nat.le_of_ble_eq_true rfl)⟩ (Nat.le_of_ble_eq_true rfl) q144 dL_law_553 (t_M_raceAt l2 (hI h140 l0 (l3 + (1 : Int32)).toNatClampNeg) (hI h140 l0 (l3 + (2 : Int32)).toNatClampNeg) _ _ H) (fun v147 h146 H => ?_)
          refine WP.at 556 rfl ?_
          refine wp_icmp_eq 1994 (by decide) dL_law_556 (fun c148 => ?_) (fun c148 => ?_)
          · replace H := H.1 c148
            refine wp_iincN (7 : Int32) (by decide) rfl (Nat.le_of_ble_eq_true rfl) dL_law_1994 (ls' := fun v149 => [(3, xi v149), (0, xr l0), (1, xr l1), (2, xr l2)]) (fun _ => rfl) (fun v149 e150 => ?_)
            replace H := H v149 e150
            refine WP.at 1997 rfl ?_
            refine wp_goto 18 (by decide) dL_law_1997 ?_
            exact WP.pick [1, 2, 3, 0] rfl (hB18 v149 (k) _ H)
          · replace H := H.2 c148
            refine wp_iconst (0 : Int32) (by decide) dL_law_559 ?_
            exact wp_iret (Or.inl rfl) dL_law_560 H
        · replace H := H.2.2.2.2.2.2.2.2.2.1 c0
          refine wp_aload_n 1 rfl rfl dL_law_561 ?_
          refine wp_aload_n 0 rfl rfl dL_law_562 ?_
          refine wp_iload_n 3 rfl rfl dL_law_563 ?_
          refine wp_iconst (1 : Int32) (by decide) dL_law_564 ?_
          refine wp_iadd dL_law_565 ?_
          obtain ⟨q151, H⟩ := H
          refine wp_iaload q9 q151 dL_law_566 ?_
          refine wp_aload_n 0 rfl rfl dL_law_567 ?_
          refine WP.at 568 rfl ?_
          refine wp_iload_n 3 rfl rfl dL_law_568 ?_
          refine wp_iconst (2 : Int32) (by decide) dL_law_569 ?_
          refine wp_iadd dL_law_570 ?_
          obtain ⟨q152, H⟩ := H
          refine wp_iaload q9 q152 dL_law_571 ?_
          refine wp_aload_n 0 rfl rfl dL_law_572 ?_
          refine wp_iload_n 3 rfl rfl dL_law_573 ?_
          refine wp_iconst (3 : Int32) (by decide) dL_law_574 ?_
          refine wp_iadd dL_law_575 ?_
          refine WP.at 576 rfl ?_
          obtain ⟨q153, H⟩ := H
          refine wp_iaload q9 q153 dL_law_576 ?_
          refine wp_aload_n 0 rfl rfl dL_law_577 ?_
          refine wp_iload_n 3 rfl rfl dL_law_578 ?_
          refine wp_iconst (4 : Int32) (by decide) dL_law_579 ?_
          refine wp_iadd dL_law_580 ?_
          obtain ⟨q154, H⟩ := H
          refine wp_iaload q9 q154 dL_law_581 ?_
          refine wp_aload_n 0 rfl rfl dL_law_582 ?_
          refine wp_iload_n 3 rfl rfl dL_law_583 ?_
          refine WP.at 584 rfl ?_
          refine wp_iconst (5 : Int32) (by decide) dL_law_584 ?_
          refine wp_iadd dL_law_585 ?_
          obtain ⟨q155, H⟩ := H
          refine wp_iaload q9 q155 dL_law_586 ?_
          refine wp_aload_n 0 rfl rfl dL_law_587 ?_
          refine wp_iload_n 3 rfl rfl dL_law_588 ?_
          refine wp_bipush (6 : Int32) (by decide) dL_law_589 ?_
          refine wp_iadd dL_law_591 ?_
          obtain ⟨q156, H⟩ := H
          refine wp_iaload q9 q156 dL_law_592 ?_
          refine WP.at 593 rfl ?_
          refine WP.at 593 rfl ?_
          obtain ⟨q157, H⟩ := H
          obtain ⟨q158, H⟩ := H
          refine wp_cVi (M2 := M_T_sell) coX10 l1 q158 [xi (hI h l0 (l3 + (1 : Int32)).toNatClampNeg), xi (hI h l0 (l3 + (2 : Int32)).toNatClampNeg), xi (hI h l0 (l3 + (3 : Int32)).toNatClampNeg), xi (hI h l0 (l3 + (4 : Int32)).toNatClampNeg), xi (hI h l0 (l3 + (5 : Int32)).toNatClampNeg), xi (hI h l0 (l3 + (6 : Int32)).toNatClampNeg)] rfl lv_L_53 mo_T_sell (Nat.le_of_ble_eq_true rfl) ⟨(Nat.le_of_ble_eq_true rfl), (Nat.le_of_ble_eq_true rfl)⟩ (Nat.le_of_ble_eq_true rfl) q157 dL_law_593 (t_T_sell l1 (hI h l0 (l3 + (1 : Int32)).toNatClampNeg) (hI h l0 (l3 + (2 : Int32)).toNatClampNeg) (hI h l0 (l3 + (3 : Int32)).toNatClampNeg) (hI h l0 (l3 + (4 : Int32)).toNatClampNeg) (hI h l0 (l3 + (5 : Int32)).toNatClampNeg) (hI h l0 (l3 + (6 : Int32)).toNatClampNeg) _ _ H) (fun v160 h159 H => ?_)
          refine wp_aload_n 2 rfl rfl dL_law_596 ?_
          refine wp_aload_n 0 rfl rfl dL_law_597 ?_
          refine wp_iload_n 3 rfl rfl dL_law_598 ?_
          refine wp_iconst (1 : Int32) (by decide) dL_law_599 ?_
          refine wp_iadd dL_law_600 ?_
          obtain ⟨q161, H⟩ := H
          refine wp_iaload q9 q161 dL_law_601 ?_
          refine wp_aload_n 0 rfl rfl dL_law_602 ?_
          refine WP.at 603 rfl ?_
          refine wp_iload_n 3 rfl rfl dL_law_603 ?_
          refine wp_iconst (2 : Int32) (by decide) dL_law_604 ?_
          refine wp_iadd dL_law_605 ?_
          obtain ⟨q162, H⟩ := H
          refine wp_iaload q9 q162 dL_law_606 ?_
          refine wp_aload_n 0 rfl rfl dL_law_607 ?_
          refine wp_iload_n 3 rfl rfl dL_law_608 ?_
          refine wp_iconst (3 : Int32) (by decide) dL_law_609 ?_
          refine wp_iadd dL_law_610 ?_
          refine WP.at 611 rfl ?_
          obtain ⟨q163, H⟩ := H
          refine wp_iaload q9 q163 dL_law_611 ?_
          refine wp_aload_n 0 rfl rfl dL_law_612 ?_
          refine wp_iload_n 3 rfl rfl dL_law_613 ?_
          refine wp_iconst (4 : Int32) (by decide) dL_law_614 ?_
          refine wp_iadd dL_law_615 ?_
          obtain ⟨q164, H⟩ := H
          refine wp_iaload q9 q164 dL_law_616 ?_
          refine wp_aload_n 0 rfl rfl dL_law_617 ?_
          refine wp_iload_n 3 rfl rfl dL_law_618 ?_
          refine WP.at 619 rfl ?_
          refine wp_iconst (5 : Int32) (by decide) dL_law_619 ?_
          refine wp_iadd dL_law_620 ?_
          obtain ⟨q165, H⟩ := H
          refine wp_iaload q9 q165 dL_law_621 ?_
          refine wp_aload_n 0 rfl rfl dL_law_622 ?_
          refine wp_iload_n 3 rfl rfl dL_law_623 ?_
          refine wp_bipush (6 : Int32) (by decide) dL_law_624 ?_
          refine wp_iadd dL_law_626 ?_
          obtain ⟨q166, H⟩ := H
          refine wp_iaload q9 q166 dL_law_627 ?_
          refine WP.at 628 rfl ?_
          refine WP.at 628 rfl ?_
          obtain ⟨q167, H⟩ := H
          obtain ⟨q168, H⟩ := H
          refine wp_cVi (M2 := M_M_sell) coX11 l2 q168 [xi (hI h159 l0 (l3 + (1 : Int32)).toNatClampNeg), xi (hI h159 l0 (l3 + (2 : Int32)).toNatClampNeg), xi (hI h159 l0 (l3 + (3 : Int32)).toNatClampNeg), xi (hI h159 l0 (l3 + (4 : Int32)).toNatClampNeg), xi (hI h159 l0 (l3 + (5 : Int32)).toNatClampNeg), xi (hI h159 l0 (l3 + (6 : Int32)).toNatClampNeg)] rfl lv_L_57 mo_M_sell (Nat.le_of_ble_eq_true rfl) ⟨(Nat.le_of_ble_eq_true rfl), (Nat.le_of_ble_eq_true rfl)⟩ (Nat.le_of_ble_eq_true rfl) q167 dL_law_628 (t_M_sell l2 (hI h159 l0 (l3 + (1 : Int32)).toNatClampNeg) (hI h159 l0 (l3 + (2 : Int32)).toNatClampNeg) (hI h159 l0 (l3 + (3 : Int32)).toNatClampNeg) (hI h159 l0 (l3 + (4 : Int32)).toNatClampNeg) (hI h159 l0 (l3 + (5 : Int32)).toNatClampNeg) (hI h159 l0 (l3 + (6 : Int32)).toNatClampNeg) _ _ H) (fun v170 h169 H => ?_)
          refine WP.at 631 rfl ?_
          refine wp_icmp_eq 1994 (by decide) dL_law_631 (fun c171 => ?_) (fun c171 => ?_)
          · replace H := H.1 c171
            refine wp_iincN (7 : Int32) (by decide) rfl (Nat.le_of_ble_eq_true rfl) dL_law_1994 (ls' := fun v172 => [(3, xi v172), (0, xr l0), (1, xr l1), (2, xr l2)]) (fun _ => rfl) (fun v172 e173 => ?_)
            replace H := H v172 e173
            refine WP.at 1997 rfl ?_
            refine wp_goto 18 (by decide) dL_law_1997 ?_
            exact WP.pick [1, 2, 3, 0] rfl (hB18 v172 (k + 1) _ H)
          · replace H := H.2 c171
            refine wp_iconst (0 : Int32) (by decide) dL_law_634 ?_
            exact wp_iret (Or.inl rfl) dL_law_635 H
        · replace H := H.2.2.2.2.2.2.2.2.2.2.1 c0
          refine wp_aload_n 1 rfl rfl dL_law_636 ?_
          refine wp_aload_n 0 rfl rfl dL_law_637 ?_
          refine wp_iload_n 3 rfl rfl dL_law_638 ?_
          refine wp_iconst (1 : Int32) (by decide) dL_law_639 ?_
          refine wp_iadd dL_law_640 ?_
          obtain ⟨q174, H⟩ := H
          refine wp_iaload q9 q174 dL_law_641 ?_
          refine WP.at 642 rfl ?_
          obtain ⟨q175, H⟩ := H
          obtain ⟨q176, H⟩ := H
          refine wp_cVi (M2 := M_T_cancel) coX10 l1 q176 [xi (hI h l0 (l3 + (1 : Int32)).toNatClampNeg)] rfl lv_L_58 mo_T_cancel (Nat.le_of_ble_eq_true rfl) ⟨(Nat.le_of_ble_eq_true rfl), (Nat.le_of_ble_eq_true rfl)⟩ (Nat.le_of_ble_eq_true rfl) q175 dL_law_642 (t_T_cancel l1 (hI h l0 (l3 + (1 : Int32)).toNatClampNeg) _ _ H) (fun v178 h177 H => ?_)
          refine WP.at 645 rfl ?_
          refine wp_aload_n 2 rfl rfl dL_law_645 ?_
          refine wp_aload_n 0 rfl rfl dL_law_646 ?_
          refine wp_iload_n 3 rfl rfl dL_law_647 ?_
          refine wp_iconst (1 : Int32) (by decide) dL_law_648 ?_
          refine wp_iadd dL_law_649 ?_
          obtain ⟨q179, H⟩ := H
          refine wp_iaload q9 q179 dL_law_650 ?_
          refine WP.at 651 rfl ?_
          obtain ⟨q180, H⟩ := H
          obtain ⟨q181, H⟩ := H
          refine wp_cVi (M2 := M_M_cancel) coX11 l2 q181 [xi (hI h177 l0 (l3 + (1 : Int32)).toNatClampNeg)] rfl lv_L_61 mo_M_cancel (Nat.le_of_ble_eq_true rfl) ⟨(Nat.le_of_ble_eq_true rfl), (Nat.le_of_ble_eq_true rfl)⟩ (Nat.le_of_ble_eq_true rfl) q180 dL_law_651 (t_M_cancel l2 (hI h177 l0 (l3 + (1 : Int32)).toNatClampNeg) _ _ H) (fun v183 h182 H => ?_)
          refine WP.at 654 rfl ?_
          refine wp_icmp_eq 1994 (by decide) dL_law_654 (fun c184 => ?_) (fun c184 => ?_)
          · replace H := H.1 c184
            refine wp_iincN (7 : Int32) (by decide) rfl (Nat.le_of_ble_eq_true rfl) dL_law_1994 (ls' := fun v185 => [(3, xi v185), (0, xr l0), (1, xr l1), (2, xr l2)]) (fun _ => rfl) (fun v185 e186 => ?_)
            replace H := H v185 e186
            refine WP.at 1997 rfl ?_
            refine wp_goto 18 (by decide) dL_law_1997 ?_
            exact WP.pick [1, 2, 3, 0] rfl (hB18 v185 (k) _ H)
          · replace H := H.2 c184
            refine wp_iconst (0 : Int32) (by decide) dL_law_657 ?_
            exact wp_iret (Or.inl rfl) dL_law_658 H
        · replace H := H.2.2.2.2.2.2.2.2.2.2.2.1 c0
          refine wp_aload_n 1 rfl rfl dL_law_659 ?_
          refine wp_aload_n 0 rfl rfl dL_law_660 ?_
          refine wp_iload_n 3 rfl rfl dL_law_661 ?_
          refine wp_iconst (1 : Int32) (by decide) dL_law_662 ?_
          refine wp_iadd dL_law_663 ?_
          obtain ⟨q187, H⟩ := H
          refine wp_iaload q9 q187 dL_law_664 ?_
          refine WP.at 665 rfl ?_
          obtain ⟨q188, H⟩ := H
          obtain ⟨q189, H⟩ := H
          refine wp_cVi (M2 := M_T_pay) coX10 l1 q189 [xi (hI h l0 (l3 + (1 : Int32)).toNatClampNeg)] rfl lv_L_62 mo_T_pay (Nat.le_of_ble_eq_true rfl) ⟨(Nat.le_of_ble_eq_true rfl), (Nat.le_of_ble_eq_true rfl)⟩ (Nat.le_of_ble_eq_true rfl) q188 dL_law_665 (t_T_pay l1 (hI h l0 (l3 + (1 : Int32)).toNatClampNeg) _ _ H) (fun v191 h190 H => ?_)
          refine WP.at 668 rfl ?_
          refine wp_aload_n 2 rfl rfl dL_law_668 ?_
          refine wp_aload_n 0 rfl rfl dL_law_669 ?_
          refine wp_iload_n 3 rfl rfl dL_law_670 ?_
          refine wp_iconst (1 : Int32) (by decide) dL_law_671 ?_
          refine wp_iadd dL_law_672 ?_
          obtain ⟨q192, H⟩ := H
          refine wp_iaload q9 q192 dL_law_673 ?_
          refine WP.at 674 rfl ?_
          obtain ⟨q193, H⟩ := H
          obtain ⟨q194, H⟩ := H
          refine wp_cVi (M2 := M_M_pay) coX11 l2 q194 [xi (hI h190 l0 (l3 + (1 : Int32)).toNatClampNeg)] rfl lv_L_65 mo_M_pay (Nat.le_of_ble_eq_true rfl) ⟨(Nat.le_of_ble_eq_true rfl), (Nat.le_of_ble_eq_true rfl)⟩ (Nat.le_of_ble_eq_true rfl) q193 dL_law_674 (t_M_pay l2 (hI h190 l0 (l3 + (1 : Int32)).toNatClampNeg) _ _ H) (fun v196 h195 H => ?_)
          refine WP.at 677 rfl ?_
          refine wp_icmp_eq 1994 (by decide) dL_law_677 (fun c197 => ?_) (fun c197 => ?_)
          · replace H := H.1 c197
            refine wp_iincN (7 : Int32) (by decide) rfl (Nat.le_of_ble_eq_true rfl) dL_law_1994 (ls' := fun v198 => [(3, xi v198), (0, xr l0), (1, xr l1), (2, xr l2)]) (fun _ => rfl) (fun v198 e199 => ?_)
            replace H := H v198 e199
            refine WP.at 1997 rfl ?_
            refine wp_goto 18 (by decide) dL_law_1997 ?_
            exact WP.pick [1, 2, 3, 0] rfl (hB18 v198 (k) _ H)
          · replace H := H.2 c197
            refine wp_iconst (0 : Int32) (by decide) dL_law_680 ?_
            exact wp_iret (Or.inl rfl) dL_law_681 H
        · replace H := H.2.2.2.2.2.2.2.2.2.2.2.2.1 c0
          refine wp_aload_n 1 rfl rfl dL_law_682 ?_
          refine wp_aload_n 0 rfl rfl dL_law_683 ?_
          refine wp_iload_n 3 rfl rfl dL_law_684 ?_
          refine wp_iconst (1 : Int32) (by decide) dL_law_685 ?_
          refine wp_iadd dL_law_686 ?_
          obtain ⟨q200, H⟩ := H
          refine wp_iaload q9 q200 dL_law_687 ?_
          refine wp_aload_n 0 rfl rfl dL_law_688 ?_
          refine WP.at 689 rfl ?_
          refine wp_iload_n 3 rfl rfl dL_law_689 ?_
          refine wp_iconst (2 : Int32) (by decide) dL_law_690 ?_
          refine wp_iadd dL_law_691 ?_
          obtain ⟨q201, H⟩ := H
          refine wp_iaload q9 q201 dL_law_692 ?_
          refine WP.at 693 rfl ?_
          obtain ⟨q202, H⟩ := H
          obtain ⟨q203, H⟩ := H
          refine wp_cVi (M2 := M_T_ticket) coX10 l1 q203 [xi (hI h l0 (l3 + (1 : Int32)).toNatClampNeg), xi (hI h l0 (l3 + (2 : Int32)).toNatClampNeg)] rfl lv_L_66 mo_T_ticket (Nat.le_of_ble_eq_true rfl) ⟨(Nat.le_of_ble_eq_true rfl), (Nat.le_of_ble_eq_true rfl)⟩ (Nat.le_of_ble_eq_true rfl) q202 dL_law_693 (t_T_ticket l1 (hI h l0 (l3 + (1 : Int32)).toNatClampNeg) (hI h l0 (l3 + (2 : Int32)).toNatClampNeg) _ _ H) (fun v205 h204 H => ?_)
          refine wp_aload_n 2 rfl rfl dL_law_696 ?_
          refine wp_aload_n 0 rfl rfl dL_law_697 ?_
          refine wp_iload_n 3 rfl rfl dL_law_698 ?_
          refine WP.at 699 rfl ?_
          refine wp_iconst (1 : Int32) (by decide) dL_law_699 ?_
          refine wp_iadd dL_law_700 ?_
          obtain ⟨q206, H⟩ := H
          refine wp_iaload q9 q206 dL_law_701 ?_
          refine wp_aload_n 0 rfl rfl dL_law_702 ?_
          refine wp_iload_n 3 rfl rfl dL_law_703 ?_
          refine wp_iconst (2 : Int32) (by decide) dL_law_704 ?_
          refine wp_iadd dL_law_705 ?_
          obtain ⟨q207, H⟩ := H
          refine wp_iaload q9 q207 dL_law_706 ?_
          refine WP.at 707 rfl ?_
          refine WP.at 707 rfl ?_
          obtain ⟨q208, H⟩ := H
          obtain ⟨q209, H⟩ := H
          refine wp_cVi (M2 := M_M_ticket) coX11 l2 q209 [xi (hI h204 l0 (l3 + (1 : Int32)).toNatClampNeg), xi (hI h204 l0 (l3 + (2 : Int32)).toNatClampNeg)] rfl lv_L_69 mo_M_ticket (Nat.le_of_ble_eq_true rfl) ⟨(Nat.le_of_ble_eq_true rfl), (Nat.le_of_ble_eq_true rfl)⟩ (Nat.le_of_ble_eq_true rfl) q208 dL_law_707 (t_M_ticket l2 (hI h204 l0 (l3 + (1 : Int32)).toNatClampNeg) (hI h204 l0 (l3 + (2 : Int32)).toNatClampNeg) _ _ H) (fun v211 h210 H => ?_)
          refine WP.at 710 rfl ?_
          refine wp_icmp_eq 1994 (by decide) dL_law_710 (fun c212 => ?_) (fun c212 => ?_)
          · replace H := H.1 c212
            refine wp_iincN (7 : Int32) (by decide) rfl (Nat.le_of_ble_eq_true rfl) dL_law_1994 (ls' := fun v213 => [(3, xi v213), (0, xr l0), (1, xr l1), (2, xr l2)]) (fun _ => rfl) (fun v213 e214 => ?_)
            replace H := H v213 e214
            refine WP.at 1997 rfl ?_
            refine wp_goto 18 (by decide) dL_law_1997 ?_
            exact WP.pick [1, 2, 3, 0] rfl (hB18 v213 (k) _ H)
          · replace H := H.2 c212
            refine wp_iconst (0 : Int32) (by decide) dL_law_713 ?_
            exact wp_iret (Or.inl rfl) dL_law_714 H
        · replace H := H.2.2.2.2.2.2.2.2.2.2.2.2.2.1 c0
          refine wp_aload_n 1 rfl rfl dL_law_715 ?_
          refine wp_aload_n 0 rfl rfl dL_law_716 ?_
          refine wp_iload_n 3 rfl rfl dL_law_717 ?_
          refine wp_iconst (1 : Int32) (by decide) dL_law_718 ?_
          refine wp_iadd dL_law_719 ?_
          obtain ⟨q215, H⟩ := H
          refine wp_iaload q9 q215 dL_law_720 ?_
          refine wp_aload_n 0 rfl rfl dL_law_721 ?_
          refine WP.at 722 rfl ?_
          refine wp_iload_n 3 rfl rfl dL_law_722 ?_
          refine wp_iconst (2 : Int32) (by decide) dL_law_723 ?_
          refine wp_iadd dL_law_724 ?_
          obtain ⟨q216, H⟩ := H
          refine wp_iaload q9 q216 dL_law_725 ?_
          refine wp_aload_n 0 rfl rfl dL_law_726 ?_
          refine wp_iload_n 3 rfl rfl dL_law_727 ?_
          refine wp_iconst (3 : Int32) (by decide) dL_law_728 ?_
          refine wp_iadd dL_law_729 ?_
          refine WP.at 730 rfl ?_
          obtain ⟨q217, H⟩ := H
          refine wp_iaload q9 q217 dL_law_730 ?_
          refine wp_aload_n 0 rfl rfl dL_law_731 ?_
          refine wp_iload_n 3 rfl rfl dL_law_732 ?_
          refine wp_iconst (4 : Int32) (by decide) dL_law_733 ?_
          refine wp_iadd dL_law_734 ?_
          obtain ⟨q218, H⟩ := H
          refine wp_iaload q9 q218 dL_law_735 ?_
          refine WP.at 736 rfl ?_
          obtain ⟨q219, H⟩ := H
          obtain ⟨q220, H⟩ := H
          refine wp_cVi (M2 := M_T_units) coX10 l1 q220 [xi (hI h l0 (l3 + (1 : Int32)).toNatClampNeg), xi (hI h l0 (l3 + (2 : Int32)).toNatClampNeg), xi (hI h l0 (l3 + (3 : Int32)).toNatClampNeg), xi (hI h l0 (l3 + (4 : Int32)).toNatClampNeg)] rfl lv_L_70 mo_T_units (Nat.le_of_ble_eq_true rfl) ⟨(Nat.le_of_ble_eq_true rfl), (Nat.le_of_ble_eq_true rfl)⟩ (Nat.le_of_ble_eq_true rfl) q219 dL_law_736 (t_T_units l1 (hI h l0 (l3 + (1 : Int32)).toNatClampNeg) (hI h l0 (l3 + (2 : Int32)).toNatClampNeg) (hI h l0 (l3 + (3 : Int32)).toNatClampNeg) (hI h l0 (l3 + (4 : Int32)).toNatClampNeg) _ _ H) (fun v222 h221 H => ?_)
          refine wp_aload_n 2 rfl rfl dL_law_739 ?_
          refine WP.at 740 rfl ?_
          refine wp_aload_n 0 rfl rfl dL_law_740 ?_
          refine wp_iload_n 3 rfl rfl dL_law_741 ?_
          refine wp_iconst (1 : Int32) (by decide) dL_law_742 ?_
          refine wp_iadd dL_law_743 ?_
          obtain ⟨q223, H⟩ := H
          refine wp_iaload q9 q223 dL_law_744 ?_
          refine wp_aload_n 0 rfl rfl dL_law_745 ?_
          refine wp_iload_n 3 rfl rfl dL_law_746 ?_
          refine wp_iconst (2 : Int32) (by decide) dL_law_747 ?_
          refine WP.at 748 rfl ?_
          refine wp_iadd dL_law_748 ?_
          obtain ⟨q224, H⟩ := H
          refine wp_iaload q9 q224 dL_law_749 ?_
          refine wp_aload_n 0 rfl rfl dL_law_750 ?_
          refine wp_iload_n 3 rfl rfl dL_law_751 ?_
          refine wp_iconst (3 : Int32) (by decide) dL_law_752 ?_
          refine wp_iadd dL_law_753 ?_
          obtain ⟨q225, H⟩ := H
          refine wp_iaload q9 q225 dL_law_754 ?_
          refine wp_aload_n 0 rfl rfl dL_law_755 ?_
          refine WP.at 756 rfl ?_
          refine wp_iload_n 3 rfl rfl dL_law_756 ?_
          refine wp_iconst (4 : Int32) (by decide) dL_law_757 ?_
          refine wp_iadd dL_law_758 ?_
          obtain ⟨q226, H⟩ := H
          refine wp_iaload q9 q226 dL_law_759 ?_
          refine WP.at 760 rfl ?_
          obtain ⟨q227, H⟩ := H
          obtain ⟨q228, H⟩ := H
          refine wp_cVi (M2 := M_M_units) coX11 l2 q228 [xi (hI h221 l0 (l3 + (1 : Int32)).toNatClampNeg), xi (hI h221 l0 (l3 + (2 : Int32)).toNatClampNeg), xi (hI h221 l0 (l3 + (3 : Int32)).toNatClampNeg), xi (hI h221 l0 (l3 + (4 : Int32)).toNatClampNeg)] rfl lv_L_73 mo_M_units (Nat.le_of_ble_eq_true rfl) ⟨(Nat.le_of_ble_eq_true rfl), (Nat.le_of_ble_eq_true rfl)⟩ (Nat.le_of_ble_eq_true rfl) q227 dL_law_760 (t_M_units l2 (hI h221 l0 (l3 + (1 : Int32)).toNatClampNeg) (hI h221 l0 (l3 + (2 : Int32)).toNatClampNeg) (hI h221 l0 (l3 + (3 : Int32)).toNatClampNeg) (hI h221 l0 (l3 + (4 : Int32)).toNatClampNeg) _ _ H) (fun v230 h229 H => ?_)
          refine WP.at 763 rfl ?_
          refine wp_icmp_eq 1994 (by decide) dL_law_763 (fun c231 => ?_) (fun c231 => ?_)
          · replace H := H.1 c231
            refine wp_iincN (7 : Int32) (by decide) rfl (Nat.le_of_ble_eq_true rfl) dL_law_1994 (ls' := fun v232 => [(3, xi v232), (0, xr l0), (1, xr l1), (2, xr l2)]) (fun _ => rfl) (fun v232 e233 => ?_)
            replace H := H v232 e233
            refine WP.at 1997 rfl ?_
            refine wp_goto 18 (by decide) dL_law_1997 ?_
            exact WP.pick [1, 2, 3, 0] rfl (hB18 v232 (k) _ H)
          · replace H := H.2 c231
            refine wp_iconst (0 : Int32) (by decide) dL_law_766 ?_
            exact wp_iret (Or.inl rfl) dL_law_767 H
        · replace H := H.2.2.2.2.2.2.2.2.2.2.2.2.2.2.1 c0
          refine wp_aload_n 1 rfl rfl dL_law_768 ?_
          refine wp_aload_n 0 rfl rfl dL_law_769 ?_
          refine wp_iload_n 3 rfl rfl dL_law_770 ?_
          refine wp_iconst (1 : Int32) (by decide) dL_law_771 ?_
          refine wp_iadd dL_law_772 ?_
          obtain ⟨q234, H⟩ := H
          refine wp_iaload q9 q234 dL_law_773 ?_
          refine wp_aload_n 0 rfl rfl dL_law_774 ?_
          refine WP.at 775 rfl ?_
          refine wp_iload_n 3 rfl rfl dL_law_775 ?_
          refine wp_iconst (2 : Int32) (by decide) dL_law_776 ?_
          refine wp_iadd dL_law_777 ?_
          obtain ⟨q235, H⟩ := H
          refine wp_iaload q9 q235 dL_law_778 ?_
          refine wp_aload_n 0 rfl rfl dL_law_779 ?_
          refine wp_iload_n 3 rfl rfl dL_law_780 ?_
          refine wp_iconst (3 : Int32) (by decide) dL_law_781 ?_
          refine wp_iadd dL_law_782 ?_
          refine WP.at 783 rfl ?_
          obtain ⟨q236, H⟩ := H
          refine wp_iaload q9 q236 dL_law_783 ?_
          refine wp_aload_n 0 rfl rfl dL_law_784 ?_
          refine wp_iload_n 3 rfl rfl dL_law_785 ?_
          refine wp_iconst (4 : Int32) (by decide) dL_law_786 ?_
          refine wp_iadd dL_law_787 ?_
          obtain ⟨q237, H⟩ := H
          refine wp_iaload q9 q237 dL_law_788 ?_
          refine WP.at 789 rfl ?_
          obtain ⟨q238, H⟩ := H
          obtain ⟨q239, H⟩ := H
          refine wp_cVi (M2 := M_T_dividend) coX10 l1 q239 [xi (hI h l0 (l3 + (1 : Int32)).toNatClampNeg), xi (hI h l0 (l3 + (2 : Int32)).toNatClampNeg), xi (hI h l0 (l3 + (3 : Int32)).toNatClampNeg), xi (hI h l0 (l3 + (4 : Int32)).toNatClampNeg)] rfl lv_L_74 mo_T_dividend (Nat.le_of_ble_eq_true rfl) ⟨(Nat.le_of_ble_eq_true rfl), (Nat.le_of_ble_eq_true rfl)⟩ (Nat.le_of_ble_eq_true rfl) q238 dL_law_789 (t_T_dividend l1 (hI h l0 (l3 + (1 : Int32)).toNatClampNeg) (hI h l0 (l3 + (2 : Int32)).toNatClampNeg) (hI h l0 (l3 + (3 : Int32)).toNatClampNeg) (hI h l0 (l3 + (4 : Int32)).toNatClampNeg) _ _ H) (fun v241 h240 H => ?_)
          refine wp_aload_n 2 rfl rfl dL_law_792 ?_
          refine WP.at 793 rfl ?_
          refine wp_aload_n 0 rfl rfl dL_law_793 ?_
          refine wp_iload_n 3 rfl rfl dL_law_794 ?_
          refine wp_iconst (1 : Int32) (by decide) dL_law_795 ?_
          refine wp_iadd dL_law_796 ?_
          obtain ⟨q242, H⟩ := H
          refine wp_iaload q9 q242 dL_law_797 ?_
          refine wp_aload_n 0 rfl rfl dL_law_798 ?_
          refine wp_iload_n 3 rfl rfl dL_law_799 ?_
          refine wp_iconst (2 : Int32) (by decide) dL_law_800 ?_
          refine WP.at 801 rfl ?_
          refine wp_iadd dL_law_801 ?_
          obtain ⟨q243, H⟩ := H
          refine wp_iaload q9 q243 dL_law_802 ?_
          refine wp_aload_n 0 rfl rfl dL_law_803 ?_
          refine wp_iload_n 3 rfl rfl dL_law_804 ?_
          refine wp_iconst (3 : Int32) (by decide) dL_law_805 ?_
          refine wp_iadd dL_law_806 ?_
          obtain ⟨q244, H⟩ := H
          refine wp_iaload q9 q244 dL_law_807 ?_
          refine wp_aload_n 0 rfl rfl dL_law_808 ?_
          refine WP.at 809 rfl ?_
          refine wp_iload_n 3 rfl rfl dL_law_809 ?_
          refine wp_iconst (4 : Int32) (by decide) dL_law_810 ?_
          refine wp_iadd dL_law_811 ?_
          obtain ⟨q245, H⟩ := H
          refine wp_iaload q9 q245 dL_law_812 ?_
          refine WP.at 813 rfl ?_
          obtain ⟨q246, H⟩ := H
          obtain ⟨q247, H⟩ := H
          refine wp_cVi (M2 := M_M_dividend) coX11 l2 q247 [xi (hI h240 l0 (l3 + (1 : Int32)).toNatClampNeg), xi (hI h240 l0 (l3 + (2 : Int32)).toNatClampNeg), xi (hI h240 l0 (l3 + (3 : Int32)).toNatClampNeg), xi (hI h240 l0 (l3 + (4 : Int32)).toNatClampNeg)] rfl lv_L_77 mo_M_dividend (Nat.le_of_ble_eq_true rfl) ⟨(Nat.le_of_ble_eq_true rfl), (Nat.le_of_ble_eq_true rfl)⟩ (Nat.le_of_ble_eq_true rfl) q246 dL_law_813 (t_M_dividend l2 (hI h240 l0 (l3 + (1 : Int32)).toNatClampNeg) (hI h240 l0 (l3 + (2 : Int32)).toNatClampNeg) (hI h240 l0 (l3 + (3 : Int32)).toNatClampNeg) (hI h240 l0 (l3 + (4 : Int32)).toNatClampNeg) _ _ H) (fun v249 h248 H => ?_)
          refine WP.at 816 rfl ?_
          refine wp_icmp_eq 1994 (by decide) dL_law_816 (fun c250 => ?_) (fun c250 => ?_)
          · replace H := H.1 c250
            refine wp_iincN (7 : Int32) (by decide) rfl (Nat.le_of_ble_eq_true rfl) dL_law_1994 (ls' := fun v251 => [(3, xi v251), (0, xr l0), (1, xr l1), (2, xr l2)]) (fun _ => rfl) (fun v251 e252 => ?_)
            replace H := H v251 e252
            refine WP.at 1997 rfl ?_
            refine wp_goto 18 (by decide) dL_law_1997 ?_
            exact WP.pick [1, 2, 3, 0] rfl (hB18 v251 (k) _ H)
          · replace H := H.2 c250
            refine wp_iconst (0 : Int32) (by decide) dL_law_819 ?_
            exact wp_iret (Or.inl rfl) dL_law_820 H
        · replace H := H.2.2.2.2.2.2.2.2.2.2.2.2.2.2.2.1 c0
          refine wp_aload_n 1 rfl rfl dL_law_821 ?_
          refine wp_aload_n 0 rfl rfl dL_law_822 ?_
          refine wp_iload_n 3 rfl rfl dL_law_823 ?_
          refine wp_iconst (1 : Int32) (by decide) dL_law_824 ?_
          refine wp_iadd dL_law_825 ?_
          obtain ⟨q253, H⟩ := H
          refine wp_iaload q9 q253 dL_law_826 ?_
          refine wp_aload_n 0 rfl rfl dL_law_827 ?_
          refine WP.at 828 rfl ?_
          refine wp_iload_n 3 rfl rfl dL_law_828 ?_
          refine wp_iconst (2 : Int32) (by decide) dL_law_829 ?_
          refine wp_iadd dL_law_830 ?_
          obtain ⟨q254, H⟩ := H
          refine wp_iaload q9 q254 dL_law_831 ?_
          refine wp_aload_n 0 rfl rfl dL_law_832 ?_
          refine wp_iload_n 3 rfl rfl dL_law_833 ?_
          refine wp_iconst (3 : Int32) (by decide) dL_law_834 ?_
          refine wp_iadd dL_law_835 ?_
          refine WP.at 836 rfl ?_
          obtain ⟨q255, H⟩ := H
          refine wp_iaload q9 q255 dL_law_836 ?_
          refine wp_aload_n 0 rfl rfl dL_law_837 ?_
          refine wp_iload_n 3 rfl rfl dL_law_838 ?_
          refine wp_iconst (4 : Int32) (by decide) dL_law_839 ?_
          refine wp_iadd dL_law_840 ?_
          obtain ⟨q256, H⟩ := H
          refine wp_iaload q9 q256 dL_law_841 ?_
          refine WP.at 842 rfl ?_
          obtain ⟨q257, H⟩ := H
          obtain ⟨q258, H⟩ := H
          refine wp_cVi (M2 := M_T_odds) coX10 l1 q258 [xi (hI h l0 (l3 + (1 : Int32)).toNatClampNeg), xi (hI h l0 (l3 + (2 : Int32)).toNatClampNeg), xi (hI h l0 (l3 + (3 : Int32)).toNatClampNeg), xi (hI h l0 (l3 + (4 : Int32)).toNatClampNeg)] rfl lv_L_78 mo_T_odds (Nat.le_of_ble_eq_true rfl) ⟨(Nat.le_of_ble_eq_true rfl), (Nat.le_of_ble_eq_true rfl)⟩ (Nat.le_of_ble_eq_true rfl) q257 dL_law_842 (t_T_odds l1 (hI h l0 (l3 + (1 : Int32)).toNatClampNeg) (hI h l0 (l3 + (2 : Int32)).toNatClampNeg) (hI h l0 (l3 + (3 : Int32)).toNatClampNeg) (hI h l0 (l3 + (4 : Int32)).toNatClampNeg) _ _ H) (fun v260 h259 H => ?_)
          refine wp_aload_n 2 rfl rfl dL_law_845 ?_
          refine WP.at 846 rfl ?_
          refine wp_aload_n 0 rfl rfl dL_law_846 ?_
          refine wp_iload_n 3 rfl rfl dL_law_847 ?_
          refine wp_iconst (1 : Int32) (by decide) dL_law_848 ?_
          refine wp_iadd dL_law_849 ?_
          obtain ⟨q261, H⟩ := H
          refine wp_iaload q9 q261 dL_law_850 ?_
          refine wp_aload_n 0 rfl rfl dL_law_851 ?_
          refine wp_iload_n 3 rfl rfl dL_law_852 ?_
          refine wp_iconst (2 : Int32) (by decide) dL_law_853 ?_
          refine WP.at 854 rfl ?_
          refine wp_iadd dL_law_854 ?_
          obtain ⟨q262, H⟩ := H
          refine wp_iaload q9 q262 dL_law_855 ?_
          refine wp_aload_n 0 rfl rfl dL_law_856 ?_
          refine wp_iload_n 3 rfl rfl dL_law_857 ?_
          refine wp_iconst (3 : Int32) (by decide) dL_law_858 ?_
          refine wp_iadd dL_law_859 ?_
          obtain ⟨q263, H⟩ := H
          refine wp_iaload q9 q263 dL_law_860 ?_
          refine wp_aload_n 0 rfl rfl dL_law_861 ?_
          refine WP.at 862 rfl ?_
          refine wp_iload_n 3 rfl rfl dL_law_862 ?_
          refine wp_iconst (4 : Int32) (by decide) dL_law_863 ?_
          refine wp_iadd dL_law_864 ?_
          obtain ⟨q264, H⟩ := H
          refine wp_iaload q9 q264 dL_law_865 ?_
          refine WP.at 866 rfl ?_
          obtain ⟨q265, H⟩ := H
          obtain ⟨q266, H⟩ := H
          refine wp_cVi (M2 := M_M_odds) coX11 l2 q266 [xi (hI h259 l0 (l3 + (1 : Int32)).toNatClampNeg), xi (hI h259 l0 (l3 + (2 : Int32)).toNatClampNeg), xi (hI h259 l0 (l3 + (3 : Int32)).toNatClampNeg), xi (hI h259 l0 (l3 + (4 : Int32)).toNatClampNeg)] rfl lv_L_81 mo_M_odds (Nat.le_of_ble_eq_true rfl) ⟨(Nat.le_of_ble_eq_true rfl), (Nat.le_of_ble_eq_true rfl)⟩ (Nat.le_of_ble_eq_true rfl) q265 dL_law_866 (t_M_odds l2 (hI h259 l0 (l3 + (1 : Int32)).toNatClampNeg) (hI h259 l0 (l3 + (2 : Int32)).toNatClampNeg) (hI h259 l0 (l3 + (3 : Int32)).toNatClampNeg) (hI h259 l0 (l3 + (4 : Int32)).toNatClampNeg) _ _ H) (fun v268 h267 H => ?_)
          refine WP.at 869 rfl ?_
          refine wp_icmp_eq 1994 (by decide) dL_law_869 (fun c269 => ?_) (fun c269 => ?_)
          · replace H := H.1 c269
            refine wp_iincN (7 : Int32) (by decide) rfl (Nat.le_of_ble_eq_true rfl) dL_law_1994 (ls' := fun v270 => [(3, xi v270), (0, xr l0), (1, xr l1), (2, xr l2)]) (fun _ => rfl) (fun v270 e271 => ?_)
            replace H := H v270 e271
            refine WP.at 1997 rfl ?_
            refine wp_goto 18 (by decide) dL_law_1997 ?_
            exact WP.pick [1, 2, 3, 0] rfl (hB18 v270 (k) _ H)
          · replace H := H.2 c269
            refine wp_iconst (0 : Int32) (by decide) dL_law_872 ?_
            exact wp_iret (Or.inl rfl) dL_law_873 H
        · replace H := H.2.2.2.2.2.2.2.2.2.2.2.2.2.2.2.2.1 c0
          refine wp_aload_n 1 rfl rfl dL_law_874 ?_
          refine wp_aload_n 0 rfl rfl dL_law_875 ?_
          refine wp_iload_n 3 rfl rfl dL_law_876 ?_
          refine wp_iconst (1 : Int32) (by decide) dL_law_877 ?_
          refine wp_iadd dL_law_878 ?_
          obtain ⟨q272, H⟩ := H
          refine wp_iaload q9 q272 dL_law_879 ?_
          refine wp_aload_n 0 rfl rfl dL_law_880 ?_
          refine WP.at 881 rfl ?_
          refine wp_iload_n 3 rfl rfl dL_law_881 ?_
          refine wp_iconst (2 : Int32) (by decide) dL_law_882 ?_
          refine wp_iadd dL_law_883 ?_
          obtain ⟨q273, H⟩ := H
          refine wp_iaload q9 q273 dL_law_884 ?_
          refine WP.at 885 rfl ?_
          obtain ⟨q274, H⟩ := H
          obtain ⟨q275, H⟩ := H
          refine wp_cVi (M2 := M_T_book) coX10 l1 q275 [xi (hI h l0 (l3 + (1 : Int32)).toNatClampNeg), xi (hI h l0 (l3 + (2 : Int32)).toNatClampNeg)] rfl lv_L_82 mo_T_book (Nat.le_of_ble_eq_true rfl) ⟨(Nat.le_of_ble_eq_true rfl), (Nat.le_of_ble_eq_true rfl)⟩ (Nat.le_of_ble_eq_true rfl) q274 dL_law_885 (t_T_book l1 (hI h l0 (l3 + (1 : Int32)).toNatClampNeg) (hI h l0 (l3 + (2 : Int32)).toNatClampNeg) _ _ H) (fun v277 h276 H => ?_)
          refine wp_aload_n 2 rfl rfl dL_law_888 ?_
          refine wp_aload_n 0 rfl rfl dL_law_889 ?_
          refine wp_iload_n 3 rfl rfl dL_law_890 ?_
          refine WP.at 891 rfl ?_
          refine wp_iconst (1 : Int32) (by decide) dL_law_891 ?_
          refine wp_iadd dL_law_892 ?_
          obtain ⟨q278, H⟩ := H
          refine wp_iaload q9 q278 dL_law_893 ?_
          refine wp_aload_n 0 rfl rfl dL_law_894 ?_
          refine wp_iload_n 3 rfl rfl dL_law_895 ?_
          refine wp_iconst (2 : Int32) (by decide) dL_law_896 ?_
          refine wp_iadd dL_law_897 ?_
          obtain ⟨q279, H⟩ := H
          refine wp_iaload q9 q279 dL_law_898 ?_
          refine WP.at 899 rfl ?_
          refine WP.at 899 rfl ?_
          obtain ⟨q280, H⟩ := H
          obtain ⟨q281, H⟩ := H
          refine wp_cVi (M2 := M_M_book) coX11 l2 q281 [xi (hI h276 l0 (l3 + (1 : Int32)).toNatClampNeg), xi (hI h276 l0 (l3 + (2 : Int32)).toNatClampNeg)] rfl lv_L_85 mo_M_book (Nat.le_of_ble_eq_true rfl) ⟨(Nat.le_of_ble_eq_true rfl), (Nat.le_of_ble_eq_true rfl)⟩ (Nat.le_of_ble_eq_true rfl) q280 dL_law_899 (t_M_book l2 (hI h276 l0 (l3 + (1 : Int32)).toNatClampNeg) (hI h276 l0 (l3 + (2 : Int32)).toNatClampNeg) _ _ H) (fun v283 h282 H => ?_)
          refine WP.at 902 rfl ?_
          refine wp_icmp_eq 1994 (by decide) dL_law_902 (fun c284 => ?_) (fun c284 => ?_)
          · replace H := H.1 c284
            refine wp_iincN (7 : Int32) (by decide) rfl (Nat.le_of_ble_eq_true rfl) dL_law_1994 (ls' := fun v285 => [(3, xi v285), (0, xr l0), (1, xr l1), (2, xr l2)]) (fun _ => rfl) (fun v285 e286 => ?_)
            replace H := H v285 e286
            refine WP.at 1997 rfl ?_
            refine wp_goto 18 (by decide) dL_law_1997 ?_
            exact WP.pick [1, 2, 3, 0] rfl (hB18 v285 (k) _ H)
          · replace H := H.2 c284
            refine wp_iconst (0 : Int32) (by decide) dL_law_905 ?_
            exact wp_iret (Or.inl rfl) dL_law_906 H
        · replace H := H.2.2.2.2.2.2.2.2.2.2.2.2.2.2.2.2.2.1 c0
          refine wp_aload_n 1 rfl rfl dL_law_907 ?_
          refine WP.at 908 rfl ?_
          obtain ⟨q287, H⟩ := H
          obtain ⟨q288, H⟩ := H
          refine wp_cVi (M2 := M_T_rest) coX10 l1 q288 [] rfl lv_L_86 mo_T_rest (Nat.le_of_ble_eq_true rfl) ⟨(Nat.le_of_ble_eq_true rfl), (Nat.le_of_ble_eq_true rfl)⟩ (Nat.le_of_ble_eq_true rfl) q287 dL_law_908 (t_T_rest l1 _ _ H) (fun v290 h289 H => ?_)
          refine wp_aload_n 2 rfl rfl dL_law_911 ?_
          refine WP.at 912 rfl ?_
          obtain ⟨q291, H⟩ := H
          obtain ⟨q292, H⟩ := H
          refine wp_cVi (M2 := M_M_rest) coX11 l2 q292 [] rfl lv_L_90 mo_M_rest (Nat.le_of_ble_eq_true rfl) ⟨(Nat.le_of_ble_eq_true rfl), (Nat.le_of_ble_eq_true rfl)⟩ (Nat.le_of_ble_eq_true rfl) q291 dL_law_912 (t_M_rest l2 _ _ H) (fun v294 h293 H => ?_)
          refine WP.at 915 rfl ?_
          refine wp_icmp_eq 1994 (by decide) dL_law_915 (fun c295 => ?_) (fun c295 => ?_)
          · replace H := H.1 c295
            refine wp_iincN (7 : Int32) (by decide) rfl (Nat.le_of_ble_eq_true rfl) dL_law_1994 (ls' := fun v296 => [(3, xi v296), (0, xr l0), (1, xr l1), (2, xr l2)]) (fun _ => rfl) (fun v296 e297 => ?_)
            replace H := H v296 e297
            refine WP.at 1997 rfl ?_
            refine wp_goto 18 (by decide) dL_law_1997 ?_
            exact WP.pick [1, 2, 3, 0] rfl (hB18 v296 (k) _ H)
          · replace H := H.2 c295
            refine wp_iconst (0 : Int32) (by decide) dL_law_918 ?_
            exact wp_iret (Or.inl rfl) dL_law_919 H
        · replace H := H.2.2.2.2.2.2.2.2.2.2.2.2.2.2.2.2.2.2.1 c0
          refine wp_aload_n 1 rfl rfl dL_law_920 ?_
          refine WP.at 921 rfl ?_
          obtain ⟨q298, H⟩ := H
          obtain ⟨q299, H⟩ := H
          refine wp_cVi (M2 := M_T_unclaimed) coX10 l1 q299 [] rfl lv_L_91 mo_T_unclaimed (Nat.le_of_ble_eq_true rfl) ⟨(Nat.le_of_ble_eq_true rfl), (Nat.le_of_ble_eq_true rfl)⟩ (Nat.le_of_ble_eq_true rfl) q298 dL_law_921 (t_T_unclaimed l1 _ _ H) (fun v301 h300 H => ?_)
          refine wp_aload_n 2 rfl rfl dL_law_924 ?_
          refine WP.at 925 rfl ?_
          obtain ⟨q302, H⟩ := H
          obtain ⟨q303, H⟩ := H
          refine wp_cVi (M2 := M_M_unclaimed) coX11 l2 q303 [] rfl lv_L_94 mo_M_unclaimed (Nat.le_of_ble_eq_true rfl) ⟨(Nat.le_of_ble_eq_true rfl), (Nat.le_of_ble_eq_true rfl)⟩ (Nat.le_of_ble_eq_true rfl) q302 dL_law_925 (t_M_unclaimed l2 _ _ H) (fun v305 h304 H => ?_)
          refine WP.at 928 rfl ?_
          refine wp_icmp_eq 1994 (by decide) dL_law_928 (fun c306 => ?_) (fun c306 => ?_)
          · replace H := H.1 c306
            refine wp_iincN (7 : Int32) (by decide) rfl (Nat.le_of_ble_eq_true rfl) dL_law_1994 (ls' := fun v307 => [(3, xi v307), (0, xr l0), (1, xr l1), (2, xr l2)]) (fun _ => rfl) (fun v307 e308 => ?_)
            replace H := H v307 e308
            refine WP.at 1997 rfl ?_
            refine wp_goto 18 (by decide) dL_law_1997 ?_
            exact WP.pick [1, 2, 3, 0] rfl (hB18 v307 (k) _ H)
          · replace H := H.2 c306
            refine wp_iconst (0 : Int32) (by decide) dL_law_931 ?_
            exact wp_iret (Or.inl rfl) dL_law_932 H
        · replace H := H.2.2.2.2.2.2.2.2.2.2.2.2.2.2.2.2.2.2.2.1 c0
          refine wp_aload_n 1 rfl rfl dL_law_933 ?_
          refine wp_aload_n 0 rfl rfl dL_law_934 ?_
          refine wp_iload_n 3 rfl rfl dL_law_935 ?_
          refine wp_iconst (1 : Int32) (by decide) dL_law_936 ?_
          refine wp_iadd dL_law_937 ?_
          obtain ⟨q309, H⟩ := H
          refine wp_iaload q9 q309 dL_law_938 ?_
          refine WP.at 939 rfl ?_
          obtain ⟨q310, H⟩ := H
          obtain ⟨q311, H⟩ := H
          refine wp_cVi (M2 := M_T_worst) coX10 l1 q311 [xi (hI h l0 (l3 + (1 : Int32)).toNatClampNeg)] rfl lv_L_95 mo_T_worst (Nat.le_of_ble_eq_true rfl) ⟨(Nat.le_of_ble_eq_true rfl), (Nat.le_of_ble_eq_true rfl)⟩ (Nat.le_of_ble_eq_true rfl) q310 dL_law_939 (t_T_worst l1 (hI h l0 (l3 + (1 : Int32)).toNatClampNeg) _ _ H) (fun v313 h312 H => ?_)
          refine WP.at 942 rfl ?_
          refine wp_aload_n 2 rfl rfl dL_law_942 ?_
          refine wp_aload_n 0 rfl rfl dL_law_943 ?_
          refine wp_iload_n 3 rfl rfl dL_law_944 ?_
          refine wp_iconst (1 : Int32) (by decide) dL_law_945 ?_
          refine wp_iadd dL_law_946 ?_
          obtain ⟨q314, H⟩ := H
          refine wp_iaload q9 q314 dL_law_947 ?_
          refine WP.at 948 rfl ?_
          obtain ⟨q315, H⟩ := H
          obtain ⟨q316, H⟩ := H
          refine wp_cVi (M2 := M_M_worst) coX11 l2 q316 [xi (hI h312 l0 (l3 + (1 : Int32)).toNatClampNeg)] rfl lv_L_98 mo_M_worst (Nat.le_of_ble_eq_true rfl) ⟨(Nat.le_of_ble_eq_true rfl), (Nat.le_of_ble_eq_true rfl)⟩ (Nat.le_of_ble_eq_true rfl) q315 dL_law_948 (t_M_worst l2 (hI h312 l0 (l3 + (1 : Int32)).toNatClampNeg) _ _ H) (fun v318 h317 H => ?_)
          refine WP.at 951 rfl ?_
          refine wp_icmp_eq 1994 (by decide) dL_law_951 (fun c319 => ?_) (fun c319 => ?_)
          · replace H := H.1 c319
            refine wp_iincN (7 : Int32) (by decide) rfl (Nat.le_of_ble_eq_true rfl) dL_law_1994 (ls' := fun v320 => [(3, xi v320), (0, xr l0), (1, xr l1), (2, xr l2)]) (fun _ => rfl) (fun v320 e321 => ?_)
            replace H := H v320 e321
            refine WP.at 1997 rfl ?_
            refine wp_goto 18 (by decide) dL_law_1997 ?_
            exact WP.pick [1, 2, 3, 0] rfl (hB18 v320 (k) _ H)
          · replace H := H.2 c319
            refine wp_iconst (0 : Int32) (by decide) dL_law_954 ?_
            exact wp_iret (Or.inl rfl) dL_law_955 H
        · replace H := H.2.2.2.2.2.2.2.2.2.2.2.2.2.2.2.2.2.2.2.2.1 c0
          refine wp_aload_n 1 rfl rfl dL_law_956 ?_
          refine WP.at 957 rfl ?_
          obtain ⟨q322, H⟩ := H
          obtain ⟨q323, H⟩ := H
          refine wp_cVi (M2 := M_T_worstDue) coX10 l1 q323 [] rfl lv_L_99 mo_T_worstDue (Nat.le_of_ble_eq_true rfl) ⟨(Nat.le_of_ble_eq_true rfl), (Nat.le_of_ble_eq_true rfl)⟩ (Nat.le_of_ble_eq_true rfl) q322 dL_law_957 (t_T_worstDue l1 _ _ H) (fun v325 h324 H => ?_)
          refine wp_aload_n 2 rfl rfl dL_law_960 ?_
          refine WP.at 961 rfl ?_
          obtain ⟨q326, H⟩ := H
          obtain ⟨q327, H⟩ := H
          refine wp_cVi (M2 := M_M_worstDue) coX11 l2 q327 [] rfl lv_L_102 mo_M_worstDue (Nat.le_of_ble_eq_true rfl) ⟨(Nat.le_of_ble_eq_true rfl), (Nat.le_of_ble_eq_true rfl)⟩ (Nat.le_of_ble_eq_true rfl) q326 dL_law_961 (t_M_worstDue l2 _ _ H) (fun v329 h328 H => ?_)
          refine WP.at 964 rfl ?_
          refine wp_icmp_eq 1994 (by decide) dL_law_964 (fun c330 => ?_) (fun c330 => ?_)
          · replace H := H.1 c330
            refine wp_iincN (7 : Int32) (by decide) rfl (Nat.le_of_ble_eq_true rfl) dL_law_1994 (ls' := fun v331 => [(3, xi v331), (0, xr l0), (1, xr l1), (2, xr l2)]) (fun _ => rfl) (fun v331 e332 => ?_)
            replace H := H v331 e332
            refine WP.at 1997 rfl ?_
            refine wp_goto 18 (by decide) dL_law_1997 ?_
            exact WP.pick [1, 2, 3, 0] rfl (hB18 v331 (k) _ H)
          · replace H := H.2 c330
            refine wp_iconst (0 : Int32) (by decide) dL_law_967 ?_
            exact wp_iret (Or.inl rfl) dL_law_968 H
        · replace H := H.2.2.2.2.2.2.2.2.2.2.2.2.2.2.2.2.2.2.2.2.2.1 c0
          refine wp_aload_n 1 rfl rfl dL_law_969 ?_
          refine wp_aload_n 0 rfl rfl dL_law_970 ?_
          refine wp_iload_n 3 rfl rfl dL_law_971 ?_
          refine wp_iconst (1 : Int32) (by decide) dL_law_972 ?_
          refine wp_iadd dL_law_973 ?_
          obtain ⟨q333, H⟩ := H
          refine wp_iaload q9 q333 dL_law_974 ?_
          refine WP.at 975 rfl ?_
          obtain ⟨q334, H⟩ := H
          obtain ⟨q335, H⟩ := H
          refine wp_cVi (M2 := M_T_premium) coX10 l1 q335 [xi (hI h l0 (l3 + (1 : Int32)).toNatClampNeg)] rfl lv_L_103 mo_T_premium (Nat.le_of_ble_eq_true rfl) ⟨(Nat.le_of_ble_eq_true rfl), (Nat.le_of_ble_eq_true rfl)⟩ (Nat.le_of_ble_eq_true rfl) q334 dL_law_975 (t_T_premium l1 (hI h l0 (l3 + (1 : Int32)).toNatClampNeg) _ _ H) (fun v337 h336 H => ?_)
          refine WP.at 978 rfl ?_
          refine wp_aload_n 2 rfl rfl dL_law_978 ?_
          refine wp_aload_n 0 rfl rfl dL_law_979 ?_
          refine wp_iload_n 3 rfl rfl dL_law_980 ?_
          refine wp_iconst (1 : Int32) (by decide) dL_law_981 ?_
          refine wp_iadd dL_law_982 ?_
          obtain ⟨q338, H⟩ := H
          refine wp_iaload q9 q338 dL_law_983 ?_
          refine WP.at 984 rfl ?_
          obtain ⟨q339, H⟩ := H
          obtain ⟨q340, H⟩ := H
          refine wp_cVi (M2 := M_M_premium) coX11 l2 q340 [xi (hI h336 l0 (l3 + (1 : Int32)).toNatClampNeg)] rfl lv_L_106 mo_M_premium (Nat.le_of_ble_eq_true rfl) ⟨(Nat.le_of_ble_eq_true rfl), (Nat.le_of_ble_eq_true rfl)⟩ (Nat.le_of_ble_eq_true rfl) q339 dL_law_984 (t_M_premium l2 (hI h336 l0 (l3 + (1 : Int32)).toNatClampNeg) _ _ H) (fun v342 h341 H => ?_)
          refine WP.at 987 rfl ?_
          refine wp_icmp_eq 1994 (by decide) dL_law_987 (fun c343 => ?_) (fun c343 => ?_)
          · replace H := H.1 c343
            refine wp_iincN (7 : Int32) (by decide) rfl (Nat.le_of_ble_eq_true rfl) dL_law_1994 (ls' := fun v344 => [(3, xi v344), (0, xr l0), (1, xr l1), (2, xr l2)]) (fun _ => rfl) (fun v344 e345 => ?_)
            replace H := H v344 e345
            refine WP.at 1997 rfl ?_
            refine wp_goto 18 (by decide) dL_law_1997 ?_
            exact WP.pick [1, 2, 3, 0] rfl (hB18 v344 (k) _ H)
          · replace H := H.2 c343
            refine wp_iconst (0 : Int32) (by decide) dL_law_990 ?_
            exact wp_iret (Or.inl rfl) dL_law_991 H
        · replace H := H.2.2.2.2.2.2.2.2.2.2.2.2.2.2.2.2.2.2.2.2.2.2.1 c0
          refine wp_aload_n 1 rfl rfl dL_law_992 ?_
          refine wp_aload_n 0 rfl rfl dL_law_993 ?_
          refine wp_iload_n 3 rfl rfl dL_law_994 ?_
          refine wp_iconst (1 : Int32) (by decide) dL_law_995 ?_
          refine wp_iadd dL_law_996 ?_
          obtain ⟨q346, H⟩ := H
          refine wp_iaload q9 q346 dL_law_997 ?_
          refine wp_aload_n 0 rfl rfl dL_law_998 ?_
          refine WP.at 999 rfl ?_
          refine wp_iload_n 3 rfl rfl dL_law_999 ?_
          refine wp_iconst (2 : Int32) (by decide) dL_law_1000 ?_
          refine wp_iadd dL_law_1001 ?_
          obtain ⟨q347, H⟩ := H
          refine wp_iaload q9 q347 dL_law_1002 ?_
          refine WP.at 1003 rfl ?_
          obtain ⟨q348, H⟩ := H
          obtain ⟨q349, H⟩ := H
          refine wp_cVi (M2 := M_T_drawer) coX10 l1 q349 [xi (hI h l0 (l3 + (1 : Int32)).toNatClampNeg), xi (hI h l0 (l3 + (2 : Int32)).toNatClampNeg)] rfl lv_L_107 mo_T_drawer (Nat.le_of_ble_eq_true rfl) ⟨(Nat.le_of_ble_eq_true rfl), (Nat.le_of_ble_eq_true rfl)⟩ (Nat.le_of_ble_eq_true rfl) q348 dL_law_1003 (t_T_drawer l1 (hI h l0 (l3 + (1 : Int32)).toNatClampNeg) (hI h l0 (l3 + (2 : Int32)).toNatClampNeg) _ _ H) (fun v351 h350 H => ?_)
          refine wp_aload_n 2 rfl rfl dL_law_1006 ?_
          refine wp_aload_n 0 rfl rfl dL_law_1007 ?_
          refine wp_iload_n 3 rfl rfl dL_law_1008 ?_
          refine WP.at 1009 rfl ?_
          refine wp_iconst (1 : Int32) (by decide) dL_law_1009 ?_
          refine wp_iadd dL_law_1010 ?_
          obtain ⟨q352, H⟩ := H
          refine wp_iaload q9 q352 dL_law_1011 ?_
          refine wp_aload_n 0 rfl rfl dL_law_1012 ?_
          refine wp_iload_n 3 rfl rfl dL_law_1013 ?_
          refine wp_iconst (2 : Int32) (by decide) dL_law_1014 ?_
          refine wp_iadd dL_law_1015 ?_
          obtain ⟨q353, H⟩ := H
          refine wp_iaload q9 q353 dL_law_1016 ?_
          refine WP.at 1017 rfl ?_
          refine WP.at 1017 rfl ?_
          obtain ⟨q354, H⟩ := H
          obtain ⟨q355, H⟩ := H
          refine wp_cVi (M2 := M_M_drawer) coX11 l2 q355 [xi (hI h350 l0 (l3 + (1 : Int32)).toNatClampNeg), xi (hI h350 l0 (l3 + (2 : Int32)).toNatClampNeg)] rfl lv_L_110 mo_M_drawer (Nat.le_of_ble_eq_true rfl) ⟨(Nat.le_of_ble_eq_true rfl), (Nat.le_of_ble_eq_true rfl)⟩ (Nat.le_of_ble_eq_true rfl) q354 dL_law_1017 (t_M_drawer l2 (hI h350 l0 (l3 + (1 : Int32)).toNatClampNeg) (hI h350 l0 (l3 + (2 : Int32)).toNatClampNeg) _ _ H) (fun v357 h356 H => ?_)
          refine WP.at 1020 rfl ?_
          refine wp_icmp_eq 1994 (by decide) dL_law_1020 (fun c358 => ?_) (fun c358 => ?_)
          · replace H := H.1 c358
            refine wp_iincN (7 : Int32) (by decide) rfl (Nat.le_of_ble_eq_true rfl) dL_law_1994 (ls' := fun v359 => [(3, xi v359), (0, xr l0), (1, xr l1), (2, xr l2)]) (fun _ => rfl) (fun v359 e360 => ?_)
            replace H := H v359 e360
            refine WP.at 1997 rfl ?_
            refine wp_goto 18 (by decide) dL_law_1997 ?_
            exact WP.pick [1, 2, 3, 0] rfl (hB18 v359 (k) _ H)
          · replace H := H.2 c358
            refine wp_iconst (0 : Int32) (by decide) dL_law_1023 ?_
            exact wp_iret (Or.inl rfl) dL_law_1024 H
        · replace H := H.2.2.2.2.2.2.2.2.2.2.2.2.2.2.2.2.2.2.2.2.2.2.2.1 c0
          refine wp_aload_n 1 rfl rfl dL_law_1025 ?_
          refine wp_aload_n 0 rfl rfl dL_law_1026 ?_
          refine wp_iload_n 3 rfl rfl dL_law_1027 ?_
          refine wp_iconst (1 : Int32) (by decide) dL_law_1028 ?_
          refine wp_iadd dL_law_1029 ?_
          obtain ⟨q361, H⟩ := H
          refine wp_iaload q9 q361 dL_law_1030 ?_
          refine WP.at 1031 rfl ?_
          obtain ⟨q362, H⟩ := H
          obtain ⟨q363, H⟩ := H
          refine wp_cVi (M2 := M_T_lose) coX10 l1 q363 [xi (hI h l0 (l3 + (1 : Int32)).toNatClampNeg)] rfl lv_L_111 mo_T_lose (Nat.le_of_ble_eq_true rfl) ⟨(Nat.le_of_ble_eq_true rfl), (Nat.le_of_ble_eq_true rfl)⟩ (Nat.le_of_ble_eq_true rfl) q362 dL_law_1031 (t_T_lose l1 (hI h l0 (l3 + (1 : Int32)).toNatClampNeg) _ _ H) (fun v365 h364 H => ?_)
          refine WP.at 1034 rfl ?_
          refine wp_aload_n 2 rfl rfl dL_law_1034 ?_
          refine wp_aload_n 0 rfl rfl dL_law_1035 ?_
          refine wp_iload_n 3 rfl rfl dL_law_1036 ?_
          refine wp_iconst (1 : Int32) (by decide) dL_law_1037 ?_
          refine wp_iadd dL_law_1038 ?_
          obtain ⟨q366, H⟩ := H
          refine wp_iaload q9 q366 dL_law_1039 ?_
          refine WP.at 1040 rfl ?_
          obtain ⟨q367, H⟩ := H
          obtain ⟨q368, H⟩ := H
          refine wp_cVi (M2 := M_M_lose) coX11 l2 q368 [xi (hI h364 l0 (l3 + (1 : Int32)).toNatClampNeg)] rfl lv_L_114 mo_M_lose (Nat.le_of_ble_eq_true rfl) ⟨(Nat.le_of_ble_eq_true rfl), (Nat.le_of_ble_eq_true rfl)⟩ (Nat.le_of_ble_eq_true rfl) q367 dL_law_1040 (t_M_lose l2 (hI h364 l0 (l3 + (1 : Int32)).toNatClampNeg) _ _ H) (fun v370 h369 H => ?_)
          refine WP.at 1043 rfl ?_
          refine wp_icmp_eq 1994 (by decide) dL_law_1043 (fun c371 => ?_) (fun c371 => ?_)
          · replace H := H.1 c371
            refine wp_iincN (7 : Int32) (by decide) rfl (Nat.le_of_ble_eq_true rfl) dL_law_1994 (ls' := fun v372 => [(3, xi v372), (0, xr l0), (1, xr l1), (2, xr l2)]) (fun _ => rfl) (fun v372 e373 => ?_)
            replace H := H v372 e373
            refine WP.at 1997 rfl ?_
            refine wp_goto 18 (by decide) dL_law_1997 ?_
            exact WP.pick [1, 2, 3, 0] rfl (hB18 v372 (k) _ H)
          · replace H := H.2 c371
            refine wp_iconst (0 : Int32) (by decide) dL_law_1046 ?_
            exact wp_iret (Or.inl rfl) dL_law_1047 H
        · replace H := H.2.2.2.2.2.2.2.2.2.2.2.2.2.2.2.2.2.2.2.2.2.2.2.2.1 c0
          refine wp_aload_n 1 rfl rfl dL_law_1048 ?_
          refine wp_aload_n 0 rfl rfl dL_law_1049 ?_
          refine wp_iload_n 3 rfl rfl dL_law_1050 ?_
          refine wp_iconst (1 : Int32) (by decide) dL_law_1051 ?_
          refine wp_iadd dL_law_1052 ?_
          obtain ⟨q374, H⟩ := H
          refine wp_iaload q9 q374 dL_law_1053 ?_
          refine wp_aload_n 0 rfl rfl dL_law_1054 ?_
          refine WP.at 1055 rfl ?_
          refine wp_iload_n 3 rfl rfl dL_law_1055 ?_
          refine wp_iconst (2 : Int32) (by decide) dL_law_1056 ?_
          refine wp_iadd dL_law_1057 ?_
          obtain ⟨q375, H⟩ := H
          refine wp_iaload q9 q375 dL_law_1058 ?_
          refine wp_aload_n 0 rfl rfl dL_law_1059 ?_
          refine wp_iload_n 3 rfl rfl dL_law_1060 ?_
          refine wp_iconst (3 : Int32) (by decide) dL_law_1061 ?_
          refine wp_iadd dL_law_1062 ?_
          refine WP.at 1063 rfl ?_
          obtain ⟨q376, H⟩ := H
          refine wp_iaload q9 q376 dL_law_1063 ?_
          refine WP.at 1064 rfl ?_
          obtain ⟨q377, H⟩ := H
          obtain ⟨q378, H⟩ := H
          refine wp_cVi (M2 := M_T_keep) coX10 l1 q378 [xi (hI h l0 (l3 + (1 : Int32)).toNatClampNeg), xi (hI h l0 (l3 + (2 : Int32)).toNatClampNeg), xi (hI h l0 (l3 + (3 : Int32)).toNatClampNeg)] rfl lv_L_115 mo_T_keep (Nat.le_of_ble_eq_true rfl) ⟨(Nat.le_of_ble_eq_true rfl), (Nat.le_of_ble_eq_true rfl)⟩ (Nat.le_of_ble_eq_true rfl) q377 dL_law_1064 (t_T_keep l1 (hI h l0 (l3 + (1 : Int32)).toNatClampNeg) (hI h l0 (l3 + (2 : Int32)).toNatClampNeg) (hI h l0 (l3 + (3 : Int32)).toNatClampNeg) _ _ H) (fun v380 h379 H => ?_)
          refine wp_aload_n 2 rfl rfl dL_law_1067 ?_
          refine wp_aload_n 0 rfl rfl dL_law_1068 ?_
          refine wp_iload_n 3 rfl rfl dL_law_1069 ?_
          refine wp_iconst (1 : Int32) (by decide) dL_law_1070 ?_
          refine wp_iadd dL_law_1071 ?_
          obtain ⟨q381, H⟩ := H
          refine wp_iaload q9 q381 dL_law_1072 ?_
          refine WP.at 1073 rfl ?_
          refine wp_aload_n 0 rfl rfl dL_law_1073 ?_
          refine wp_iload_n 3 rfl rfl dL_law_1074 ?_
          refine wp_iconst (2 : Int32) (by decide) dL_law_1075 ?_
          refine wp_iadd dL_law_1076 ?_
          obtain ⟨q382, H⟩ := H
          refine wp_iaload q9 q382 dL_law_1077 ?_
          refine wp_aload_n 0 rfl rfl dL_law_1078 ?_
          refine wp_iload_n 3 rfl rfl dL_law_1079 ?_
          refine wp_iconst (3 : Int32) (by decide) dL_law_1080 ?_
          refine WP.at 1081 rfl ?_
          refine wp_iadd dL_law_1081 ?_
          obtain ⟨q383, H⟩ := H
          refine wp_iaload q9 q383 dL_law_1082 ?_
          refine WP.at 1083 rfl ?_
          obtain ⟨q384, H⟩ := H
          obtain ⟨q385, H⟩ := H
          refine wp_cVi (M2 := M_M_keep) coX11 l2 q385 [xi (hI h379 l0 (l3 + (1 : Int32)).toNatClampNeg), xi (hI h379 l0 (l3 + (2 : Int32)).toNatClampNeg), xi (hI h379 l0 (l3 + (3 : Int32)).toNatClampNeg)] rfl lv_L_118 mo_M_keep (Nat.le_of_ble_eq_true rfl) ⟨(Nat.le_of_ble_eq_true rfl), (Nat.le_of_ble_eq_true rfl)⟩ (Nat.le_of_ble_eq_true rfl) q384 dL_law_1083 (t_M_keep l2 (hI h379 l0 (l3 + (1 : Int32)).toNatClampNeg) (hI h379 l0 (l3 + (2 : Int32)).toNatClampNeg) (hI h379 l0 (l3 + (3 : Int32)).toNatClampNeg) _ _ H) (fun v387 h386 H => ?_)
          refine WP.at 1086 rfl ?_
          refine wp_icmp_eq 1994 (by decide) dL_law_1086 (fun c388 => ?_) (fun c388 => ?_)
          · replace H := H.1 c388
            refine wp_iincN (7 : Int32) (by decide) rfl (Nat.le_of_ble_eq_true rfl) dL_law_1994 (ls' := fun v389 => [(3, xi v389), (0, xr l0), (1, xr l1), (2, xr l2)]) (fun _ => rfl) (fun v389 e390 => ?_)
            replace H := H v389 e390
            refine WP.at 1997 rfl ?_
            refine wp_goto 18 (by decide) dL_law_1997 ?_
            exact WP.pick [1, 2, 3, 0] rfl (hB18 v389 (k) _ H)
          · replace H := H.2 c388
            refine wp_iconst (0 : Int32) (by decide) dL_law_1089 ?_
            exact wp_iret (Or.inl rfl) dL_law_1090 H
        · replace H := H.2.2.2.2.2.2.2.2.2.2.2.2.2.2.2.2.2.2.2.2.2.2.2.2.2.1 c0
          refine wp_aload_n 1 rfl rfl dL_law_1091 ?_
          refine wp_aload_n 0 rfl rfl dL_law_1092 ?_
          refine wp_iload_n 3 rfl rfl dL_law_1093 ?_
          refine wp_iconst (1 : Int32) (by decide) dL_law_1094 ?_
          refine wp_iadd dL_law_1095 ?_
          obtain ⟨q391, H⟩ := H
          refine wp_iaload q9 q391 dL_law_1096 ?_
          refine wp_aload_n 0 rfl rfl dL_law_1097 ?_
          refine WP.at 1098 rfl ?_
          refine wp_iload_n 3 rfl rfl dL_law_1098 ?_
          refine wp_iconst (2 : Int32) (by decide) dL_law_1099 ?_
          refine wp_iadd dL_law_1100 ?_
          obtain ⟨q392, H⟩ := H
          refine wp_iaload q9 q392 dL_law_1101 ?_
          refine wp_aload_n 0 rfl rfl dL_law_1102 ?_
          refine wp_iload_n 3 rfl rfl dL_law_1103 ?_
          refine wp_iconst (3 : Int32) (by decide) dL_law_1104 ?_
          refine wp_iadd dL_law_1105 ?_
          refine WP.at 1106 rfl ?_
          obtain ⟨q393, H⟩ := H
          refine wp_iaload q9 q393 dL_law_1106 ?_
          refine wp_i2l dL_law_1107 ?_
          refine wp_bipush (32 : Int32) (by decide) dL_law_1108 ?_
          refine wp_lshl dL_law_1110 ?_
          refine wp_aload_n 0 rfl rfl dL_law_1111 ?_
          refine wp_iload_n 3 rfl rfl dL_law_1112 ?_
          refine wp_iconst (4 : Int32) (by decide) dL_law_1113 ?_
          refine wp_iadd dL_law_1114 ?_
          refine WP.at 1115 rfl ?_
          obtain ⟨q394, H⟩ := H
          refine wp_iaload q9 q394 dL_law_1115 ?_
          refine wp_i2l dL_law_1116 ?_
          refine wp_ldc2 (4294967295 : Int64) cL_L_119 dL_law_1117 ?_
          refine wp_land dL_law_1120 ?_
          refine wp_lor dL_law_1121 ?_
          refine wp_aload_n 0 rfl rfl dL_law_1122 ?_
          refine wp_iload_n 3 rfl rfl dL_law_1123 ?_
          refine wp_iconst (5 : Int32) (by decide) dL_law_1124 ?_
          refine WP.at 1125 rfl ?_
          refine wp_iadd dL_law_1125 ?_
          obtain ⟨q395, H⟩ := H
          refine wp_iaload q9 q395 dL_law_1126 ?_
          refine WP.at 1127 rfl ?_
          obtain ⟨q396, H⟩ := H
          obtain ⟨q397, H⟩ := H
          refine wp_cVi (M2 := M_T_note) coX10 l1 q397 [xi (hI h l0 (l3 + (1 : Int32)).toNatClampNeg), xi (hI h l0 (l3 + (2 : Int32)).toNatClampNeg), xl ((((hI h l0 (l3 + (3 : Int32)).toNatClampNeg).toInt64) <<< ((32 : Int32).toInt64 &&& 63)) ||| (((hI h l0 (l3 + (4 : Int32)).toNatClampNeg).toInt64) &&& (4294967295 : Int64))), xi (hI h l0 (l3 + (5 : Int32)).toNatClampNeg)] rfl lv_L_121 mo_T_note (Nat.le_of_ble_eq_true rfl) ⟨(Nat.le_of_ble_eq_true rfl), (Nat.le_of_ble_eq_true rfl)⟩ (Nat.le_of_ble_eq_true rfl) q396 dL_law_1127 (t_T_note l1 (hI h l0 (l3 + (1 : Int32)).toNatClampNeg) (hI h l0 (l3 + (2 : Int32)).toNatClampNeg) ((((hI h l0 (l3 + (3 : Int32)).toNatClampNeg).toInt64) <<< ((32 : Int32).toInt64 &&& 63)) ||| (((hI h l0 (l3 + (4 : Int32)).toNatClampNeg).toInt64) &&& (4294967295 : Int64))) (hI h l0 (l3 + (5 : Int32)).toNatClampNeg) _ _ H) (fun v399 h398 H => ?_)
          refine wp_aload_n 2 rfl rfl dL_law_1130 ?_
          refine wp_aload_n 0 rfl rfl dL_law_1131 ?_
          refine wp_iload_n 3 rfl rfl dL_law_1132 ?_
          refine wp_iconst (1 : Int32) (by decide) dL_law_1133 ?_
          refine wp_iadd dL_law_1134 ?_
          refine WP.at 1135 rfl ?_
          obtain ⟨q400, H⟩ := H
          refine wp_iaload q9 q400 dL_law_1135 ?_
          refine wp_aload_n 0 rfl rfl dL_law_1136 ?_
          refine wp_iload_n 3 rfl rfl dL_law_1137 ?_
          refine wp_iconst (2 : Int32) (by decide) dL_law_1138 ?_
          refine wp_iadd dL_law_1139 ?_
          obtain ⟨q401, H⟩ := H
          refine wp_iaload q9 q401 dL_law_1140 ?_
          refine wp_aload_n 0 rfl rfl dL_law_1141 ?_
          refine wp_iload_n 3 rfl rfl dL_law_1142 ?_
          refine WP.at 1143 rfl ?_
          refine wp_iconst (3 : Int32) (by decide) dL_law_1143 ?_
          refine wp_iadd dL_law_1144 ?_
          obtain ⟨q402, H⟩ := H
          refine wp_iaload q9 q402 dL_law_1145 ?_
          refine wp_i2l dL_law_1146 ?_
          refine wp_bipush (32 : Int32) (by decide) dL_law_1147 ?_
          refine wp_lshl dL_law_1149 ?_
          refine wp_aload_n 0 rfl rfl dL_law_1150 ?_
          refine wp_iload_n 3 rfl rfl dL_law_1151 ?_
          refine WP.at 1152 rfl ?_
          refine wp_iconst (4 : Int32) (by decide) dL_law_1152 ?_
          refine wp_iadd dL_law_1153 ?_
          obtain ⟨q403, H⟩ := H
          refine wp_iaload q9 q403 dL_law_1154 ?_
          refine wp_i2l dL_law_1155 ?_
          refine wp_ldc2 (4294967295 : Int64) cL_L_119 dL_law_1156 ?_
          refine wp_land dL_law_1159 ?_
          refine wp_lor dL_law_1160 ?_
          refine wp_aload_n 0 rfl rfl dL_law_1161 ?_
          refine WP.at 1162 rfl ?_
          refine wp_iload_n 3 rfl rfl dL_law_1162 ?_
          refine wp_iconst (5 : Int32) (by decide) dL_law_1163 ?_
          refine wp_iadd dL_law_1164 ?_
          obtain ⟨q404, H⟩ := H
          refine wp_iaload q9 q404 dL_law_1165 ?_
          refine WP.at 1166 rfl ?_
          obtain ⟨q405, H⟩ := H
          obtain ⟨q406, H⟩ := H
          refine wp_cVi (M2 := M_M_note) coX11 l2 q406 [xi (hI h398 l0 (l3 + (1 : Int32)).toNatClampNeg), xi (hI h398 l0 (l3 + (2 : Int32)).toNatClampNeg), xl ((((hI h398 l0 (l3 + (3 : Int32)).toNatClampNeg).toInt64) <<< ((32 : Int32).toInt64 &&& 63)) ||| (((hI h398 l0 (l3 + (4 : Int32)).toNatClampNeg).toInt64) &&& (4294967295 : Int64))), xi (hI h398 l0 (l3 + (5 : Int32)).toNatClampNeg)] rfl lv_L_125 mo_M_note (Nat.le_of_ble_eq_true rfl) ⟨(Nat.le_of_ble_eq_true rfl), (Nat.le_of_ble_eq_true rfl)⟩ (Nat.le_of_ble_eq_true rfl) q405 dL_law_1166 (t_M_note l2 (hI h398 l0 (l3 + (1 : Int32)).toNatClampNeg) (hI h398 l0 (l3 + (2 : Int32)).toNatClampNeg) ((((hI h398 l0 (l3 + (3 : Int32)).toNatClampNeg).toInt64) <<< ((32 : Int32).toInt64 &&& 63)) ||| (((hI h398 l0 (l3 + (4 : Int32)).toNatClampNeg).toInt64) &&& (4294967295 : Int64))) (hI h398 l0 (l3 + (5 : Int32)).toNatClampNeg) _ _ H) (fun v408 h407 H => ?_)
          refine WP.at 1169 rfl ?_
          refine wp_icmp_eq 1994 (by decide) dL_law_1169 (fun c409 => ?_) (fun c409 => ?_)
          · replace H := H.1 c409
            refine wp_iincN (7 : Int32) (by decide) rfl (Nat.le_of_ble_eq_true rfl) dL_law_1994 (ls' := fun v410 => [(3, xi v410), (0, xr l0), (1, xr l1), (2, xr l2)]) (fun _ => rfl) (fun v410 e411 => ?_)
            replace H := H v410 e411
            refine WP.at 1997 rfl ?_
            refine wp_goto 18 (by decide) dL_law_1997 ?_
            exact WP.pick [1, 2, 3, 0] rfl (hB18 v410 (k) _ H)
          · replace H := H.2 c409
            refine wp_iconst (0 : Int32) (by decide) dL_law_1172 ?_
            exact wp_iret (Or.inl rfl) dL_law_1173 H
        · replace H := H.2.2.2.2.2.2.2.2.2.2.2.2.2.2.2.2.2.2.2.2.2.2.2.2.2.2.1 c0
          refine wp_aload_n 1 rfl rfl dL_law_1174 ?_
          refine wp_aload_n 0 rfl rfl dL_law_1175 ?_
          refine wp_iload_n 3 rfl rfl dL_law_1176 ?_
          refine wp_iconst (1 : Int32) (by decide) dL_law_1177 ?_
          refine wp_iadd dL_law_1178 ?_
          obtain ⟨q412, H⟩ := H
          refine wp_iaload q9 q412 dL_law_1179 ?_
          refine wp_aload_n 0 rfl rfl dL_law_1180 ?_
          refine WP.at 1181 rfl ?_
          refine wp_iload_n 3 rfl rfl dL_law_1181 ?_
          refine wp_iconst (2 : Int32) (by decide) dL_law_1182 ?_
          refine wp_iadd dL_law_1183 ?_
          obtain ⟨q413, H⟩ := H
          refine wp_iaload q9 q413 dL_law_1184 ?_
          refine wp_aload_n 0 rfl rfl dL_law_1185 ?_
          refine wp_iload_n 3 rfl rfl dL_law_1186 ?_
          refine wp_iconst (3 : Int32) (by decide) dL_law_1187 ?_
          refine wp_iadd dL_law_1188 ?_
          refine WP.at 1189 rfl ?_
          obtain ⟨q414, H⟩ := H
          refine wp_iaload q9 q414 dL_law_1189 ?_
          refine WP.at 1190 rfl ?_
          obtain ⟨q415, H⟩ := H
          obtain ⟨q416, H⟩ := H
          refine wp_cVi (M2 := M_T_coins) coX10 l1 q416 [xi (hI h l0 (l3 + (1 : Int32)).toNatClampNeg), xi (hI h l0 (l3 + (2 : Int32)).toNatClampNeg), xi (hI h l0 (l3 + (3 : Int32)).toNatClampNeg)] rfl lv_L_126 mo_T_coins (Nat.le_of_ble_eq_true rfl) ⟨(Nat.le_of_ble_eq_true rfl), (Nat.le_of_ble_eq_true rfl)⟩ (Nat.le_of_ble_eq_true rfl) q415 dL_law_1190 (t_T_coins l1 (hI h l0 (l3 + (1 : Int32)).toNatClampNeg) (hI h l0 (l3 + (2 : Int32)).toNatClampNeg) (hI h l0 (l3 + (3 : Int32)).toNatClampNeg) _ _ H) (fun v418 h417 H => ?_)
          refine wp_aload_n 2 rfl rfl dL_law_1193 ?_
          refine wp_aload_n 0 rfl rfl dL_law_1194 ?_
          refine wp_iload_n 3 rfl rfl dL_law_1195 ?_
          refine wp_iconst (1 : Int32) (by decide) dL_law_1196 ?_
          refine wp_iadd dL_law_1197 ?_
          obtain ⟨q419, H⟩ := H
          refine wp_iaload q9 q419 dL_law_1198 ?_
          refine WP.at 1199 rfl ?_
          refine wp_aload_n 0 rfl rfl dL_law_1199 ?_
          refine wp_iload_n 3 rfl rfl dL_law_1200 ?_
          refine wp_iconst (2 : Int32) (by decide) dL_law_1201 ?_
          refine wp_iadd dL_law_1202 ?_
          obtain ⟨q420, H⟩ := H
          refine wp_iaload q9 q420 dL_law_1203 ?_
          refine wp_aload_n 0 rfl rfl dL_law_1204 ?_
          refine wp_iload_n 3 rfl rfl dL_law_1205 ?_
          refine wp_iconst (3 : Int32) (by decide) dL_law_1206 ?_
          refine WP.at 1207 rfl ?_
          refine wp_iadd dL_law_1207 ?_
          obtain ⟨q421, H⟩ := H
          refine wp_iaload q9 q421 dL_law_1208 ?_
          refine WP.at 1209 rfl ?_
          obtain ⟨q422, H⟩ := H
          obtain ⟨q423, H⟩ := H
          refine wp_cVi (M2 := M_M_coins) coX11 l2 q423 [xi (hI h417 l0 (l3 + (1 : Int32)).toNatClampNeg), xi (hI h417 l0 (l3 + (2 : Int32)).toNatClampNeg), xi (hI h417 l0 (l3 + (3 : Int32)).toNatClampNeg)] rfl lv_L_129 mo_M_coins (Nat.le_of_ble_eq_true rfl) ⟨(Nat.le_of_ble_eq_true rfl), (Nat.le_of_ble_eq_true rfl)⟩ (Nat.le_of_ble_eq_true rfl) q422 dL_law_1209 (t_M_coins l2 (hI h417 l0 (l3 + (1 : Int32)).toNatClampNeg) (hI h417 l0 (l3 + (2 : Int32)).toNatClampNeg) (hI h417 l0 (l3 + (3 : Int32)).toNatClampNeg) _ _ H) (fun v425 h424 H => ?_)
          refine WP.at 1212 rfl ?_
          refine wp_icmp_eq 1994 (by decide) dL_law_1212 (fun c426 => ?_) (fun c426 => ?_)
          · replace H := H.1 c426
            refine wp_iincN (7 : Int32) (by decide) rfl (Nat.le_of_ble_eq_true rfl) dL_law_1994 (ls' := fun v427 => [(3, xi v427), (0, xr l0), (1, xr l1), (2, xr l2)]) (fun _ => rfl) (fun v427 e428 => ?_)
            replace H := H v427 e428
            refine WP.at 1997 rfl ?_
            refine wp_goto 18 (by decide) dL_law_1997 ?_
            exact WP.pick [1, 2, 3, 0] rfl (hB18 v427 (k) _ H)
          · replace H := H.2 c426
            refine wp_iconst (0 : Int32) (by decide) dL_law_1215 ?_
            exact wp_iret (Or.inl rfl) dL_law_1216 H
        · replace H := H.2.2.2.2.2.2.2.2.2.2.2.2.2.2.2.2.2.2.2.2.2.2.2.2.2.2.2.1 c0
          refine wp_aload_n 1 rfl rfl dL_law_1217 ?_
          refine wp_aload_n 0 rfl rfl dL_law_1218 ?_
          refine wp_iload_n 3 rfl rfl dL_law_1219 ?_
          refine wp_iconst (1 : Int32) (by decide) dL_law_1220 ?_
          refine wp_iadd dL_law_1221 ?_
          obtain ⟨q429, H⟩ := H
          refine wp_iaload q9 q429 dL_law_1222 ?_
          refine wp_aload_n 0 rfl rfl dL_law_1223 ?_
          refine WP.at 1224 rfl ?_
          refine wp_iload_n 3 rfl rfl dL_law_1224 ?_
          refine wp_iconst (2 : Int32) (by decide) dL_law_1225 ?_
          refine wp_iadd dL_law_1226 ?_
          obtain ⟨q430, H⟩ := H
          refine wp_iaload q9 q430 dL_law_1227 ?_
          refine WP.at 1228 rfl ?_
          obtain ⟨q431, H⟩ := H
          obtain ⟨q432, H⟩ := H
          refine wp_cVi (M2 := M_T_clear) coX10 l1 q432 [xi (hI h l0 (l3 + (1 : Int32)).toNatClampNeg), xi (hI h l0 (l3 + (2 : Int32)).toNatClampNeg)] rfl lv_L_130 mo_T_clear (Nat.le_of_ble_eq_true rfl) ⟨(Nat.le_of_ble_eq_true rfl), (Nat.le_of_ble_eq_true rfl)⟩ (Nat.le_of_ble_eq_true rfl) q431 dL_law_1228 (t_T_clear l1 (hI h l0 (l3 + (1 : Int32)).toNatClampNeg) (hI h l0 (l3 + (2 : Int32)).toNatClampNeg) _ _ H) (fun v434 h433 H => ?_)
          refine wp_aload_n 2 rfl rfl dL_law_1231 ?_
          refine wp_aload_n 0 rfl rfl dL_law_1232 ?_
          refine wp_iload_n 3 rfl rfl dL_law_1233 ?_
          refine WP.at 1234 rfl ?_
          refine wp_iconst (1 : Int32) (by decide) dL_law_1234 ?_
          refine wp_iadd dL_law_1235 ?_
          obtain ⟨q435, H⟩ := H
          refine wp_iaload q9 q435 dL_law_1236 ?_
          refine wp_aload_n 0 rfl rfl dL_law_1237 ?_
          refine wp_iload_n 3 rfl rfl dL_law_1238 ?_
          refine wp_iconst (2 : Int32) (by decide) dL_law_1239 ?_
          refine wp_iadd dL_law_1240 ?_
          obtain ⟨q436, H⟩ := H
          refine wp_iaload q9 q436 dL_law_1241 ?_
          refine WP.at 1242 rfl ?_
          refine WP.at 1242 rfl ?_
          obtain ⟨q437, H⟩ := H
          obtain ⟨q438, H⟩ := H
          refine wp_cVi (M2 := M_M_clear) coX11 l2 q438 [xi (hI h433 l0 (l3 + (1 : Int32)).toNatClampNeg), xi (hI h433 l0 (l3 + (2 : Int32)).toNatClampNeg)] rfl lv_L_133 mo_M_clear (Nat.le_of_ble_eq_true rfl) ⟨(Nat.le_of_ble_eq_true rfl), (Nat.le_of_ble_eq_true rfl)⟩ (Nat.le_of_ble_eq_true rfl) q437 dL_law_1242 (t_M_clear l2 (hI h433 l0 (l3 + (1 : Int32)).toNatClampNeg) (hI h433 l0 (l3 + (2 : Int32)).toNatClampNeg) _ _ H) (fun v440 h439 H => ?_)
          refine WP.at 1245 rfl ?_
          refine wp_icmp_eq 1994 (by decide) dL_law_1245 (fun c441 => ?_) (fun c441 => ?_)
          · replace H := H.1 c441
            refine wp_iincN (7 : Int32) (by decide) rfl (Nat.le_of_ble_eq_true rfl) dL_law_1994 (ls' := fun v442 => [(3, xi v442), (0, xr l0), (1, xr l1), (2, xr l2)]) (fun _ => rfl) (fun v442 e443 => ?_)
            replace H := H v442 e443
            refine WP.at 1997 rfl ?_
            refine wp_goto 18 (by decide) dL_law_1997 ?_
            exact WP.pick [1, 2, 3, 0] rfl (hB18 v442 (k) _ H)
          · replace H := H.2 c441
            refine wp_iconst (0 : Int32) (by decide) dL_law_1248 ?_
            exact wp_iret (Or.inl rfl) dL_law_1249 H
        · replace H := H.2.2.2.2.2.2.2.2.2.2.2.2.2.2.2.2.2.2.2.2.2.2.2.2.2.2.2.2.1 c0
          refine wp_aload_n 1 rfl rfl dL_law_1250 ?_
          refine wp_aload_n 0 rfl rfl dL_law_1251 ?_
          refine wp_iload_n 3 rfl rfl dL_law_1252 ?_
          refine wp_iconst (1 : Int32) (by decide) dL_law_1253 ?_
          refine wp_iadd dL_law_1254 ?_
          obtain ⟨q444, H⟩ := H
          refine wp_iaload q9 q444 dL_law_1255 ?_
          refine wp_aload_n 0 rfl rfl dL_law_1256 ?_
          refine WP.at 1257 rfl ?_
          refine wp_iload_n 3 rfl rfl dL_law_1257 ?_
          refine wp_iconst (2 : Int32) (by decide) dL_law_1258 ?_
          refine wp_iadd dL_law_1259 ?_
          obtain ⟨q445, H⟩ := H
          refine wp_iaload q9 q445 dL_law_1260 ?_
          refine WP.at 1261 rfl ?_
          obtain ⟨q446, H⟩ := H
          obtain ⟨q447, H⟩ := H
          refine wp_cVi (M2 := M_T_kind) coX10 l1 q447 [xi (hI h l0 (l3 + (1 : Int32)).toNatClampNeg), xi (hI h l0 (l3 + (2 : Int32)).toNatClampNeg)] rfl lv_L_134 mo_T_kind (Nat.le_of_ble_eq_true rfl) ⟨(Nat.le_of_ble_eq_true rfl), (Nat.le_of_ble_eq_true rfl)⟩ (Nat.le_of_ble_eq_true rfl) q446 dL_law_1261 (t_T_kind l1 (hI h l0 (l3 + (1 : Int32)).toNatClampNeg) (hI h l0 (l3 + (2 : Int32)).toNatClampNeg) _ _ H) (fun v449 h448 H => ?_)
          refine wp_aload_n 2 rfl rfl dL_law_1264 ?_
          refine wp_aload_n 0 rfl rfl dL_law_1265 ?_
          refine wp_iload_n 3 rfl rfl dL_law_1266 ?_
          refine WP.at 1267 rfl ?_
          refine wp_iconst (1 : Int32) (by decide) dL_law_1267 ?_
          refine wp_iadd dL_law_1268 ?_
          obtain ⟨q450, H⟩ := H
          refine wp_iaload q9 q450 dL_law_1269 ?_
          refine wp_aload_n 0 rfl rfl dL_law_1270 ?_
          refine wp_iload_n 3 rfl rfl dL_law_1271 ?_
          refine wp_iconst (2 : Int32) (by decide) dL_law_1272 ?_
          refine wp_iadd dL_law_1273 ?_
          obtain ⟨q451, H⟩ := H
          refine wp_iaload q9 q451 dL_law_1274 ?_
          refine WP.at 1275 rfl ?_
          refine WP.at 1275 rfl ?_
          obtain ⟨q452, H⟩ := H
          obtain ⟨q453, H⟩ := H
          refine wp_cVi (M2 := M_M_kind) coX11 l2 q453 [xi (hI h448 l0 (l3 + (1 : Int32)).toNatClampNeg), xi (hI h448 l0 (l3 + (2 : Int32)).toNatClampNeg)] rfl lv_L_137 mo_M_kind (Nat.le_of_ble_eq_true rfl) ⟨(Nat.le_of_ble_eq_true rfl), (Nat.le_of_ble_eq_true rfl)⟩ (Nat.le_of_ble_eq_true rfl) q452 dL_law_1275 (t_M_kind l2 (hI h448 l0 (l3 + (1 : Int32)).toNatClampNeg) (hI h448 l0 (l3 + (2 : Int32)).toNatClampNeg) _ _ H) (fun v455 h454 H => ?_)
          refine WP.at 1278 rfl ?_
          refine wp_icmp_eq 1994 (by decide) dL_law_1278 (fun c456 => ?_) (fun c456 => ?_)
          · replace H := H.1 c456
            refine wp_iincN (7 : Int32) (by decide) rfl (Nat.le_of_ble_eq_true rfl) dL_law_1994 (ls' := fun v457 => [(3, xi v457), (0, xr l0), (1, xr l1), (2, xr l2)]) (fun _ => rfl) (fun v457 e458 => ?_)
            replace H := H v457 e458
            refine WP.at 1997 rfl ?_
            refine wp_goto 18 (by decide) dL_law_1997 ?_
            exact WP.pick [1, 2, 3, 0] rfl (hB18 v457 (k) _ H)
          · replace H := H.2 c456
            refine wp_iconst (0 : Int32) (by decide) dL_law_1281 ?_
            exact wp_iret (Or.inl rfl) dL_law_1282 H
        · replace H := H.2.2.2.2.2.2.2.2.2.2.2.2.2.2.2.2.2.2.2.2.2.2.2.2.2.2.2.2.2.1 c0
          refine wp_aload_n 1 rfl rfl dL_law_1283 ?_
          refine wp_aload_n 0 rfl rfl dL_law_1284 ?_
          refine wp_iload_n 3 rfl rfl dL_law_1285 ?_
          refine wp_iconst (1 : Int32) (by decide) dL_law_1286 ?_
          refine wp_iadd dL_law_1287 ?_
          obtain ⟨q459, H⟩ := H
          refine wp_iaload q9 q459 dL_law_1288 ?_
          refine wp_aload_n 0 rfl rfl dL_law_1289 ?_
          refine WP.at 1290 rfl ?_
          refine wp_iload_n 3 rfl rfl dL_law_1290 ?_
          refine wp_iconst (2 : Int32) (by decide) dL_law_1291 ?_
          refine wp_iadd dL_law_1292 ?_
          obtain ⟨q460, H⟩ := H
          refine wp_iaload q9 q460 dL_law_1293 ?_
          refine WP.at 1294 rfl ?_
          obtain ⟨q461, H⟩ := H
          obtain ⟨q462, H⟩ := H
          refine wp_cVi (M2 := M_T_read) coX10 l1 q462 [xi (hI h l0 (l3 + (1 : Int32)).toNatClampNeg), xi (hI h l0 (l3 + (2 : Int32)).toNatClampNeg)] rfl lv_L_138 mo_T_read (Nat.le_of_ble_eq_true rfl) ⟨(Nat.le_of_ble_eq_true rfl), (Nat.le_of_ble_eq_true rfl)⟩ (Nat.le_of_ble_eq_true rfl) q461 dL_law_1294 (t_T_read l1 (hI h l0 (l3 + (1 : Int32)).toNatClampNeg) (hI h l0 (l3 + (2 : Int32)).toNatClampNeg) _ _ H) (fun v464 h463 H => ?_)
          refine wp_aload_n 2 rfl rfl dL_law_1297 ?_
          refine wp_aload_n 0 rfl rfl dL_law_1298 ?_
          refine wp_iload_n 3 rfl rfl dL_law_1299 ?_
          refine WP.at 1300 rfl ?_
          refine wp_iconst (1 : Int32) (by decide) dL_law_1300 ?_
          refine wp_iadd dL_law_1301 ?_
          obtain ⟨q465, H⟩ := H
          refine wp_iaload q9 q465 dL_law_1302 ?_
          refine wp_aload_n 0 rfl rfl dL_law_1303 ?_
          refine wp_iload_n 3 rfl rfl dL_law_1304 ?_
          refine wp_iconst (2 : Int32) (by decide) dL_law_1305 ?_
          refine wp_iadd dL_law_1306 ?_
          obtain ⟨q466, H⟩ := H
          refine wp_iaload q9 q466 dL_law_1307 ?_
          refine WP.at 1308 rfl ?_
          refine WP.at 1308 rfl ?_
          obtain ⟨q467, H⟩ := H
          obtain ⟨q468, H⟩ := H
          refine wp_cVi (M2 := M_M_read) coX11 l2 q468 [xi (hI h463 l0 (l3 + (1 : Int32)).toNatClampNeg), xi (hI h463 l0 (l3 + (2 : Int32)).toNatClampNeg)] rfl lv_L_141 mo_M_read (Nat.le_of_ble_eq_true rfl) ⟨(Nat.le_of_ble_eq_true rfl), (Nat.le_of_ble_eq_true rfl)⟩ (Nat.le_of_ble_eq_true rfl) q467 dL_law_1308 (t_M_read l2 (hI h463 l0 (l3 + (1 : Int32)).toNatClampNeg) (hI h463 l0 (l3 + (2 : Int32)).toNatClampNeg) _ _ H) (fun v470 h469 H => ?_)
          refine WP.at 1311 rfl ?_
          refine wp_icmp_eq 1994 (by decide) dL_law_1311 (fun c471 => ?_) (fun c471 => ?_)
          · replace H := H.1 c471
            refine wp_iincN (7 : Int32) (by decide) rfl (Nat.le_of_ble_eq_true rfl) dL_law_1994 (ls' := fun v472 => [(3, xi v472), (0, xr l0), (1, xr l1), (2, xr l2)]) (fun _ => rfl) (fun v472 e473 => ?_)
            replace H := H v472 e473
            refine WP.at 1997 rfl ?_
            refine wp_goto 18 (by decide) dL_law_1997 ?_
            exact WP.pick [1, 2, 3, 0] rfl (hB18 v472 (k) _ H)
          · replace H := H.2 c471
            refine wp_iconst (0 : Int32) (by decide) dL_law_1314 ?_
            exact wp_iret (Or.inl rfl) dL_law_1315 H
        · replace H := H.2.2.2.2.2.2.2.2.2.2.2.2.2.2.2.2.2.2.2.2.2.2.2.2.2.2.2.2.2.2.1 c0
          refine wp_aload_n 1 rfl rfl dL_law_1316 ?_
          refine wp_aload_n 0 rfl rfl dL_law_1317 ?_
          refine wp_iload_n 3 rfl rfl dL_law_1318 ?_
          refine wp_iconst (1 : Int32) (by decide) dL_law_1319 ?_
          refine wp_iadd dL_law_1320 ?_
          obtain ⟨q474, H⟩ := H
          refine wp_iaload q9 q474 dL_law_1321 ?_
          refine wp_aload_n 0 rfl rfl dL_law_1322 ?_
          refine WP.at 1323 rfl ?_
          refine wp_iload_n 3 rfl rfl dL_law_1323 ?_
          refine wp_iconst (2 : Int32) (by decide) dL_law_1324 ?_
          refine wp_iadd dL_law_1325 ?_
          obtain ⟨q475, H⟩ := H
          refine wp_iaload q9 q475 dL_law_1326 ?_
          refine wp_aload_n 0 rfl rfl dL_law_1327 ?_
          refine wp_iload_n 3 rfl rfl dL_law_1328 ?_
          refine wp_iconst (3 : Int32) (by decide) dL_law_1329 ?_
          refine wp_iadd dL_law_1330 ?_
          refine WP.at 1331 rfl ?_
          obtain ⟨q476, H⟩ := H
          refine wp_iaload q9 q476 dL_law_1331 ?_
          refine WP.at 1332 rfl ?_
          obtain ⟨q477, H⟩ := H
          obtain ⟨q478, H⟩ := H
          refine wp_cVi (M2 := M_T_letter) coX10 l1 q478 [xi (hI h l0 (l3 + (1 : Int32)).toNatClampNeg), xi (hI h l0 (l3 + (2 : Int32)).toNatClampNeg), xi (hI h l0 (l3 + (3 : Int32)).toNatClampNeg)] rfl lv_L_142 mo_T_letter (Nat.le_of_ble_eq_true rfl) ⟨(Nat.le_of_ble_eq_true rfl), (Nat.le_of_ble_eq_true rfl)⟩ (Nat.le_of_ble_eq_true rfl) q477 dL_law_1332 (t_T_letter l1 (hI h l0 (l3 + (1 : Int32)).toNatClampNeg) (hI h l0 (l3 + (2 : Int32)).toNatClampNeg) (hI h l0 (l3 + (3 : Int32)).toNatClampNeg) _ _ H) (fun v480 h479 H => ?_)
          refine wp_aload_n 2 rfl rfl dL_law_1335 ?_
          refine wp_aload_n 0 rfl rfl dL_law_1336 ?_
          refine wp_iload_n 3 rfl rfl dL_law_1337 ?_
          refine wp_iconst (1 : Int32) (by decide) dL_law_1338 ?_
          refine wp_iadd dL_law_1339 ?_
          obtain ⟨q481, H⟩ := H
          refine wp_iaload q9 q481 dL_law_1340 ?_
          refine WP.at 1341 rfl ?_
          refine wp_aload_n 0 rfl rfl dL_law_1341 ?_
          refine wp_iload_n 3 rfl rfl dL_law_1342 ?_
          refine wp_iconst (2 : Int32) (by decide) dL_law_1343 ?_
          refine wp_iadd dL_law_1344 ?_
          obtain ⟨q482, H⟩ := H
          refine wp_iaload q9 q482 dL_law_1345 ?_
          refine wp_aload_n 0 rfl rfl dL_law_1346 ?_
          refine wp_iload_n 3 rfl rfl dL_law_1347 ?_
          refine wp_iconst (3 : Int32) (by decide) dL_law_1348 ?_
          refine WP.at 1349 rfl ?_
          refine wp_iadd dL_law_1349 ?_
          obtain ⟨q483, H⟩ := H
          refine wp_iaload q9 q483 dL_law_1350 ?_
          refine WP.at 1351 rfl ?_
          obtain ⟨q484, H⟩ := H
          obtain ⟨q485, H⟩ := H
          refine wp_cVi (M2 := M_M_letter) coX11 l2 q485 [xi (hI h479 l0 (l3 + (1 : Int32)).toNatClampNeg), xi (hI h479 l0 (l3 + (2 : Int32)).toNatClampNeg), xi (hI h479 l0 (l3 + (3 : Int32)).toNatClampNeg)] rfl lv_L_145 mo_M_letter (Nat.le_of_ble_eq_true rfl) ⟨(Nat.le_of_ble_eq_true rfl), (Nat.le_of_ble_eq_true rfl)⟩ (Nat.le_of_ble_eq_true rfl) q484 dL_law_1351 (t_M_letter l2 (hI h479 l0 (l3 + (1 : Int32)).toNatClampNeg) (hI h479 l0 (l3 + (2 : Int32)).toNatClampNeg) (hI h479 l0 (l3 + (3 : Int32)).toNatClampNeg) _ _ H) (fun v487 h486 H => ?_)
          refine WP.at 1354 rfl ?_
          refine wp_icmp_eq 1994 (by decide) dL_law_1354 (fun c488 => ?_) (fun c488 => ?_)
          · replace H := H.1 c488
            refine wp_iincN (7 : Int32) (by decide) rfl (Nat.le_of_ble_eq_true rfl) dL_law_1994 (ls' := fun v489 => [(3, xi v489), (0, xr l0), (1, xr l1), (2, xr l2)]) (fun _ => rfl) (fun v489 e490 => ?_)
            replace H := H v489 e490
            refine WP.at 1997 rfl ?_
            refine wp_goto 18 (by decide) dL_law_1997 ?_
            exact WP.pick [1, 2, 3, 0] rfl (hB18 v489 (k) _ H)
          · replace H := H.2 c488
            refine wp_iconst (0 : Int32) (by decide) dL_law_1357 ?_
            exact wp_iret (Or.inl rfl) dL_law_1358 H
        · replace H := H.2.2.2.2.2.2.2.2.2.2.2.2.2.2.2.2.2.2.2.2.2.2.2.2.2.2.2.2.2.2.2.1 c0
          refine wp_aload_n 1 rfl rfl dL_law_1359 ?_
          refine wp_aload_n 0 rfl rfl dL_law_1360 ?_
          refine wp_iload_n 3 rfl rfl dL_law_1361 ?_
          refine wp_iconst (1 : Int32) (by decide) dL_law_1362 ?_
          refine wp_iadd dL_law_1363 ?_
          obtain ⟨q491, H⟩ := H
          refine wp_iaload q9 q491 dL_law_1364 ?_
          refine wp_aload_n 0 rfl rfl dL_law_1365 ?_
          refine WP.at 1366 rfl ?_
          refine wp_iload_n 3 rfl rfl dL_law_1366 ?_
          refine wp_iconst (2 : Int32) (by decide) dL_law_1367 ?_
          refine wp_iadd dL_law_1368 ?_
          obtain ⟨q492, H⟩ := H
          refine wp_iaload q9 q492 dL_law_1369 ?_
          refine wp_aload_n 0 rfl rfl dL_law_1370 ?_
          refine wp_iload_n 3 rfl rfl dL_law_1371 ?_
          refine wp_iconst (3 : Int32) (by decide) dL_law_1372 ?_
          refine wp_iadd dL_law_1373 ?_
          refine WP.at 1374 rfl ?_
          obtain ⟨q493, H⟩ := H
          refine wp_iaload q9 q493 dL_law_1374 ?_
          refine wp_aload_n 0 rfl rfl dL_law_1375 ?_
          refine wp_iload_n 3 rfl rfl dL_law_1376 ?_
          refine wp_iconst (4 : Int32) (by decide) dL_law_1377 ?_
          refine wp_iadd dL_law_1378 ?_
          obtain ⟨q494, H⟩ := H
          refine wp_iaload q9 q494 dL_law_1379 ?_
          refine WP.at 1380 rfl ?_
          obtain ⟨q495, H⟩ := H
          obtain ⟨q496, H⟩ := H
          refine wp_cVi (M2 := M_T_coin) coX10 l1 q496 [xi (hI h l0 (l3 + (1 : Int32)).toNatClampNeg), xi (hI h l0 (l3 + (2 : Int32)).toNatClampNeg), xi (hI h l0 (l3 + (3 : Int32)).toNatClampNeg), xi (hI h l0 (l3 + (4 : Int32)).toNatClampNeg)] rfl lv_L_146 mo_T_coin (Nat.le_of_ble_eq_true rfl) ⟨(Nat.le_of_ble_eq_true rfl), (Nat.le_of_ble_eq_true rfl)⟩ (Nat.le_of_ble_eq_true rfl) q495 dL_law_1380 (t_T_coin l1 (hI h l0 (l3 + (1 : Int32)).toNatClampNeg) (hI h l0 (l3 + (2 : Int32)).toNatClampNeg) (hI h l0 (l3 + (3 : Int32)).toNatClampNeg) (hI h l0 (l3 + (4 : Int32)).toNatClampNeg) _ _ H) (fun v498 h497 H => ?_)
          refine wp_aload_n 2 rfl rfl dL_law_1383 ?_
          refine WP.at 1384 rfl ?_
          refine wp_aload_n 0 rfl rfl dL_law_1384 ?_
          refine wp_iload_n 3 rfl rfl dL_law_1385 ?_
          refine wp_iconst (1 : Int32) (by decide) dL_law_1386 ?_
          refine wp_iadd dL_law_1387 ?_
          obtain ⟨q499, H⟩ := H
          refine wp_iaload q9 q499 dL_law_1388 ?_
          refine wp_aload_n 0 rfl rfl dL_law_1389 ?_
          refine wp_iload_n 3 rfl rfl dL_law_1390 ?_
          refine wp_iconst (2 : Int32) (by decide) dL_law_1391 ?_
          refine WP.at 1392 rfl ?_
          refine wp_iadd dL_law_1392 ?_
          obtain ⟨q500, H⟩ := H
          refine wp_iaload q9 q500 dL_law_1393 ?_
          refine wp_aload_n 0 rfl rfl dL_law_1394 ?_
          refine wp_iload_n 3 rfl rfl dL_law_1395 ?_
          refine wp_iconst (3 : Int32) (by decide) dL_law_1396 ?_
          refine wp_iadd dL_law_1397 ?_
          obtain ⟨q501, H⟩ := H
          refine wp_iaload q9 q501 dL_law_1398 ?_
          refine wp_aload_n 0 rfl rfl dL_law_1399 ?_
          refine WP.at 1400 rfl ?_
          refine wp_iload_n 3 rfl rfl dL_law_1400 ?_
          refine wp_iconst (4 : Int32) (by decide) dL_law_1401 ?_
          refine wp_iadd dL_law_1402 ?_
          obtain ⟨q502, H⟩ := H
          refine wp_iaload q9 q502 dL_law_1403 ?_
          refine WP.at 1404 rfl ?_
          obtain ⟨q503, H⟩ := H
          obtain ⟨q504, H⟩ := H
          refine wp_cVi (M2 := M_M_coin) coX11 l2 q504 [xi (hI h497 l0 (l3 + (1 : Int32)).toNatClampNeg), xi (hI h497 l0 (l3 + (2 : Int32)).toNatClampNeg), xi (hI h497 l0 (l3 + (3 : Int32)).toNatClampNeg), xi (hI h497 l0 (l3 + (4 : Int32)).toNatClampNeg)] rfl lv_L_149 mo_M_coin (Nat.le_of_ble_eq_true rfl) ⟨(Nat.le_of_ble_eq_true rfl), (Nat.le_of_ble_eq_true rfl)⟩ (Nat.le_of_ble_eq_true rfl) q503 dL_law_1404 (t_M_coin l2 (hI h497 l0 (l3 + (1 : Int32)).toNatClampNeg) (hI h497 l0 (l3 + (2 : Int32)).toNatClampNeg) (hI h497 l0 (l3 + (3 : Int32)).toNatClampNeg) (hI h497 l0 (l3 + (4 : Int32)).toNatClampNeg) _ _ H) (fun v506 h505 H => ?_)
          refine WP.at 1407 rfl ?_
          refine wp_icmp_eq 1994 (by decide) dL_law_1407 (fun c507 => ?_) (fun c507 => ?_)
          · replace H := H.1 c507
            refine wp_iincN (7 : Int32) (by decide) rfl (Nat.le_of_ble_eq_true rfl) dL_law_1994 (ls' := fun v508 => [(3, xi v508), (0, xr l0), (1, xr l1), (2, xr l2)]) (fun _ => rfl) (fun v508 e509 => ?_)
            replace H := H v508 e509
            refine WP.at 1997 rfl ?_
            refine wp_goto 18 (by decide) dL_law_1997 ?_
            exact WP.pick [1, 2, 3, 0] rfl (hB18 v508 (k) _ H)
          · replace H := H.2 c507
            refine wp_iconst (0 : Int32) (by decide) dL_law_1410 ?_
            exact wp_iret (Or.inl rfl) dL_law_1411 H
        · replace H := H.2.2.2.2.2.2.2.2.2.2.2.2.2.2.2.2.2.2.2.2.2.2.2.2.2.2.2.2.2.2.2.2.1 c0
          refine wp_aload_n 1 rfl rfl dL_law_1412 ?_
          refine wp_aload_n 0 rfl rfl dL_law_1413 ?_
          refine wp_iload_n 3 rfl rfl dL_law_1414 ?_
          refine wp_iconst (1 : Int32) (by decide) dL_law_1415 ?_
          refine wp_iadd dL_law_1416 ?_
          obtain ⟨q510, H⟩ := H
          refine wp_iaload q9 q510 dL_law_1417 ?_
          refine wp_aload_n 0 rfl rfl dL_law_1418 ?_
          refine WP.at 1419 rfl ?_
          refine wp_iload_n 3 rfl rfl dL_law_1419 ?_
          refine wp_iconst (2 : Int32) (by decide) dL_law_1420 ?_
          refine wp_iadd dL_law_1421 ?_
          obtain ⟨q511, H⟩ := H
          refine wp_iaload q9 q511 dL_law_1422 ?_
          refine wp_aload_n 0 rfl rfl dL_law_1423 ?_
          refine wp_iload_n 3 rfl rfl dL_law_1424 ?_
          refine wp_iconst (3 : Int32) (by decide) dL_law_1425 ?_
          refine wp_iadd dL_law_1426 ?_
          refine WP.at 1427 rfl ?_
          obtain ⟨q512, H⟩ := H
          refine wp_iaload q9 q512 dL_law_1427 ?_
          refine WP.at 1428 rfl ?_
          obtain ⟨q513, H⟩ := H
          obtain ⟨q514, H⟩ := H
          refine wp_cVi (M2 := M_T_coinAt) coX10 l1 q514 [xi (hI h l0 (l3 + (1 : Int32)).toNatClampNeg), xi (hI h l0 (l3 + (2 : Int32)).toNatClampNeg), xi (hI h l0 (l3 + (3 : Int32)).toNatClampNeg)] rfl lv_L_150 mo_T_coinAt (Nat.le_of_ble_eq_true rfl) ⟨(Nat.le_of_ble_eq_true rfl), (Nat.le_of_ble_eq_true rfl)⟩ (Nat.le_of_ble_eq_true rfl) q513 dL_law_1428 (t_T_coinAt l1 (hI h l0 (l3 + (1 : Int32)).toNatClampNeg) (hI h l0 (l3 + (2 : Int32)).toNatClampNeg) (hI h l0 (l3 + (3 : Int32)).toNatClampNeg) _ _ H) (fun v516 h515 H => ?_)
          refine wp_aload_n 2 rfl rfl dL_law_1431 ?_
          refine wp_aload_n 0 rfl rfl dL_law_1432 ?_
          refine wp_iload_n 3 rfl rfl dL_law_1433 ?_
          refine wp_iconst (1 : Int32) (by decide) dL_law_1434 ?_
          refine wp_iadd dL_law_1435 ?_
          obtain ⟨q517, H⟩ := H
          refine wp_iaload q9 q517 dL_law_1436 ?_
          refine WP.at 1437 rfl ?_
          refine wp_aload_n 0 rfl rfl dL_law_1437 ?_
          refine wp_iload_n 3 rfl rfl dL_law_1438 ?_
          refine wp_iconst (2 : Int32) (by decide) dL_law_1439 ?_
          refine wp_iadd dL_law_1440 ?_
          obtain ⟨q518, H⟩ := H
          refine wp_iaload q9 q518 dL_law_1441 ?_
          refine wp_aload_n 0 rfl rfl dL_law_1442 ?_
          refine wp_iload_n 3 rfl rfl dL_law_1443 ?_
          refine wp_iconst (3 : Int32) (by decide) dL_law_1444 ?_
          refine WP.at 1445 rfl ?_
          refine wp_iadd dL_law_1445 ?_
          obtain ⟨q519, H⟩ := H
          refine wp_iaload q9 q519 dL_law_1446 ?_
          refine WP.at 1447 rfl ?_
          obtain ⟨q520, H⟩ := H
          obtain ⟨q521, H⟩ := H
          refine wp_cVi (M2 := M_M_coinAt) coX11 l2 q521 [xi (hI h515 l0 (l3 + (1 : Int32)).toNatClampNeg), xi (hI h515 l0 (l3 + (2 : Int32)).toNatClampNeg), xi (hI h515 l0 (l3 + (3 : Int32)).toNatClampNeg)] rfl lv_L_153 mo_M_coinAt (Nat.le_of_ble_eq_true rfl) ⟨(Nat.le_of_ble_eq_true rfl), (Nat.le_of_ble_eq_true rfl)⟩ (Nat.le_of_ble_eq_true rfl) q520 dL_law_1447 (t_M_coinAt l2 (hI h515 l0 (l3 + (1 : Int32)).toNatClampNeg) (hI h515 l0 (l3 + (2 : Int32)).toNatClampNeg) (hI h515 l0 (l3 + (3 : Int32)).toNatClampNeg) _ _ H) (fun v523 h522 H => ?_)
          refine WP.at 1450 rfl ?_
          refine wp_icmp_eq 1994 (by decide) dL_law_1450 (fun c524 => ?_) (fun c524 => ?_)
          · replace H := H.1 c524
            refine wp_iincN (7 : Int32) (by decide) rfl (Nat.le_of_ble_eq_true rfl) dL_law_1994 (ls' := fun v525 => [(3, xi v525), (0, xr l0), (1, xr l1), (2, xr l2)]) (fun _ => rfl) (fun v525 e526 => ?_)
            replace H := H v525 e526
            refine WP.at 1997 rfl ?_
            refine wp_goto 18 (by decide) dL_law_1997 ?_
            exact WP.pick [1, 2, 3, 0] rfl (hB18 v525 (k) _ H)
          · replace H := H.2 c524
            refine wp_iconst (0 : Int32) (by decide) dL_law_1453 ?_
            exact wp_iret (Or.inl rfl) dL_law_1454 H
        · replace H := H.2.2.2.2.2.2.2.2.2.2.2.2.2.2.2.2.2.2.2.2.2.2.2.2.2.2.2.2.2.2.2.2.2.1 c0
          refine wp_aload_n 1 rfl rfl dL_law_1455 ?_
          refine wp_aload_n 0 rfl rfl dL_law_1456 ?_
          refine wp_iload_n 3 rfl rfl dL_law_1457 ?_
          refine wp_iconst (1 : Int32) (by decide) dL_law_1458 ?_
          refine wp_iadd dL_law_1459 ?_
          obtain ⟨q527, H⟩ := H
          refine wp_iaload q9 q527 dL_law_1460 ?_
          refine wp_aload_n 0 rfl rfl dL_law_1461 ?_
          refine WP.at 1462 rfl ?_
          refine wp_iload_n 3 rfl rfl dL_law_1462 ?_
          refine wp_iconst (2 : Int32) (by decide) dL_law_1463 ?_
          refine wp_iadd dL_law_1464 ?_
          obtain ⟨q528, H⟩ := H
          refine wp_iaload q9 q528 dL_law_1465 ?_
          refine wp_aload_n 0 rfl rfl dL_law_1466 ?_
          refine wp_iload_n 3 rfl rfl dL_law_1467 ?_
          refine wp_iconst (3 : Int32) (by decide) dL_law_1468 ?_
          refine wp_iadd dL_law_1469 ?_
          refine WP.at 1470 rfl ?_
          obtain ⟨q529, H⟩ := H
          refine wp_iaload q9 q529 dL_law_1470 ?_
          refine wp_aload_n 0 rfl rfl dL_law_1471 ?_
          refine wp_iload_n 3 rfl rfl dL_law_1472 ?_
          refine wp_iconst (4 : Int32) (by decide) dL_law_1473 ?_
          refine wp_iadd dL_law_1474 ?_
          obtain ⟨q530, H⟩ := H
          refine wp_iaload q9 q530 dL_law_1475 ?_
          refine WP.at 1476 rfl ?_
          obtain ⟨q531, H⟩ := H
          obtain ⟨q532, H⟩ := H
          refine wp_cVi (M2 := M_T_change) coX10 l1 q532 [xi (hI h l0 (l3 + (1 : Int32)).toNatClampNeg), xi (hI h l0 (l3 + (2 : Int32)).toNatClampNeg), xi (hI h l0 (l3 + (3 : Int32)).toNatClampNeg), xi (hI h l0 (l3 + (4 : Int32)).toNatClampNeg)] rfl lv_L_154 mo_T_change (Nat.le_of_ble_eq_true rfl) ⟨(Nat.le_of_ble_eq_true rfl), (Nat.le_of_ble_eq_true rfl)⟩ (Nat.le_of_ble_eq_true rfl) q531 dL_law_1476 (t_T_change l1 (hI h l0 (l3 + (1 : Int32)).toNatClampNeg) (hI h l0 (l3 + (2 : Int32)).toNatClampNeg) (hI h l0 (l3 + (3 : Int32)).toNatClampNeg) (hI h l0 (l3 + (4 : Int32)).toNatClampNeg) _ _ H) (fun v534 h533 H => ?_)
          refine wp_aload_n 2 rfl rfl dL_law_1479 ?_
          refine WP.at 1480 rfl ?_
          refine wp_aload_n 0 rfl rfl dL_law_1480 ?_
          refine wp_iload_n 3 rfl rfl dL_law_1481 ?_
          refine wp_iconst (1 : Int32) (by decide) dL_law_1482 ?_
          refine wp_iadd dL_law_1483 ?_
          obtain ⟨q535, H⟩ := H
          refine wp_iaload q9 q535 dL_law_1484 ?_
          refine wp_aload_n 0 rfl rfl dL_law_1485 ?_
          refine wp_iload_n 3 rfl rfl dL_law_1486 ?_
          refine wp_iconst (2 : Int32) (by decide) dL_law_1487 ?_
          refine WP.at 1488 rfl ?_
          refine wp_iadd dL_law_1488 ?_
          obtain ⟨q536, H⟩ := H
          refine wp_iaload q9 q536 dL_law_1489 ?_
          refine wp_aload_n 0 rfl rfl dL_law_1490 ?_
          refine wp_iload_n 3 rfl rfl dL_law_1491 ?_
          refine wp_iconst (3 : Int32) (by decide) dL_law_1492 ?_
          refine wp_iadd dL_law_1493 ?_
          obtain ⟨q537, H⟩ := H
          refine wp_iaload q9 q537 dL_law_1494 ?_
          refine wp_aload_n 0 rfl rfl dL_law_1495 ?_
          refine WP.at 1496 rfl ?_
          refine wp_iload_n 3 rfl rfl dL_law_1496 ?_
          refine wp_iconst (4 : Int32) (by decide) dL_law_1497 ?_
          refine wp_iadd dL_law_1498 ?_
          obtain ⟨q538, H⟩ := H
          refine wp_iaload q9 q538 dL_law_1499 ?_
          refine WP.at 1500 rfl ?_
          obtain ⟨q539, H⟩ := H
          obtain ⟨q540, H⟩ := H
          refine wp_cVi (M2 := M_M_change) coX11 l2 q540 [xi (hI h533 l0 (l3 + (1 : Int32)).toNatClampNeg), xi (hI h533 l0 (l3 + (2 : Int32)).toNatClampNeg), xi (hI h533 l0 (l3 + (3 : Int32)).toNatClampNeg), xi (hI h533 l0 (l3 + (4 : Int32)).toNatClampNeg)] rfl lv_L_157 mo_M_change (Nat.le_of_ble_eq_true rfl) ⟨(Nat.le_of_ble_eq_true rfl), (Nat.le_of_ble_eq_true rfl)⟩ (Nat.le_of_ble_eq_true rfl) q539 dL_law_1500 (t_M_change l2 (hI h533 l0 (l3 + (1 : Int32)).toNatClampNeg) (hI h533 l0 (l3 + (2 : Int32)).toNatClampNeg) (hI h533 l0 (l3 + (3 : Int32)).toNatClampNeg) (hI h533 l0 (l3 + (4 : Int32)).toNatClampNeg) _ _ H) (fun v542 h541 H => ?_)
          refine WP.at 1503 rfl ?_
          refine wp_icmp_eq 1994 (by decide) dL_law_1503 (fun c543 => ?_) (fun c543 => ?_)
          · replace H := H.1 c543
            refine wp_iincN (7 : Int32) (by decide) rfl (Nat.le_of_ble_eq_true rfl) dL_law_1994 (ls' := fun v544 => [(3, xi v544), (0, xr l0), (1, xr l1), (2, xr l2)]) (fun _ => rfl) (fun v544 e545 => ?_)
            replace H := H v544 e545
            refine WP.at 1997 rfl ?_
            refine wp_goto 18 (by decide) dL_law_1997 ?_
            exact WP.pick [1, 2, 3, 0] rfl (hB18 v544 (k) _ H)
          · replace H := H.2 c543
            refine wp_iconst (0 : Int32) (by decide) dL_law_1506 ?_
            exact wp_iret (Or.inl rfl) dL_law_1507 H
        · replace H := H.2.2.2.2.2.2.2.2.2.2.2.2.2.2.2.2.2.2.2.2.2.2.2.2.2.2.2.2.2.2.2.2.2.2.1 c0
          refine wp_aload_n 1 rfl rfl dL_law_1508 ?_
          refine wp_aload_n 0 rfl rfl dL_law_1509 ?_
          refine wp_iload_n 3 rfl rfl dL_law_1510 ?_
          refine wp_iconst (1 : Int32) (by decide) dL_law_1511 ?_
          refine wp_iadd dL_law_1512 ?_
          obtain ⟨q546, H⟩ := H
          refine wp_iaload q9 q546 dL_law_1513 ?_
          refine wp_aload_n 0 rfl rfl dL_law_1514 ?_
          refine WP.at 1515 rfl ?_
          refine wp_iload_n 3 rfl rfl dL_law_1515 ?_
          refine wp_iconst (2 : Int32) (by decide) dL_law_1516 ?_
          refine wp_iadd dL_law_1517 ?_
          obtain ⟨q547, H⟩ := H
          refine wp_iaload q9 q547 dL_law_1518 ?_
          refine wp_aload_n 0 rfl rfl dL_law_1519 ?_
          refine wp_iload_n 3 rfl rfl dL_law_1520 ?_
          refine wp_iconst (3 : Int32) (by decide) dL_law_1521 ?_
          refine wp_iadd dL_law_1522 ?_
          refine WP.at 1523 rfl ?_
          obtain ⟨q548, H⟩ := H
          refine wp_iaload q9 q548 dL_law_1523 ?_
          refine WP.at 1524 rfl ?_
          obtain ⟨q549, H⟩ := H
          obtain ⟨q550, H⟩ := H
          refine wp_cVi (M2 := M_T_satchel) coX10 l1 q550 [xi (hI h l0 (l3 + (1 : Int32)).toNatClampNeg), xi (hI h l0 (l3 + (2 : Int32)).toNatClampNeg), xi (hI h l0 (l3 + (3 : Int32)).toNatClampNeg)] rfl lv_L_158 mo_T_satchel (Nat.le_of_ble_eq_true rfl) ⟨(Nat.le_of_ble_eq_true rfl), (Nat.le_of_ble_eq_true rfl)⟩ (Nat.le_of_ble_eq_true rfl) q549 dL_law_1524 (t_T_satchel l1 (hI h l0 (l3 + (1 : Int32)).toNatClampNeg) (hI h l0 (l3 + (2 : Int32)).toNatClampNeg) (hI h l0 (l3 + (3 : Int32)).toNatClampNeg) _ _ H) (fun v552 h551 H => ?_)
          refine wp_aload_n 2 rfl rfl dL_law_1527 ?_
          refine wp_aload_n 0 rfl rfl dL_law_1528 ?_
          refine wp_iload_n 3 rfl rfl dL_law_1529 ?_
          refine wp_iconst (1 : Int32) (by decide) dL_law_1530 ?_
          refine wp_iadd dL_law_1531 ?_
          obtain ⟨q553, H⟩ := H
          refine wp_iaload q9 q553 dL_law_1532 ?_
          refine WP.at 1533 rfl ?_
          refine wp_aload_n 0 rfl rfl dL_law_1533 ?_
          refine wp_iload_n 3 rfl rfl dL_law_1534 ?_
          refine wp_iconst (2 : Int32) (by decide) dL_law_1535 ?_
          refine wp_iadd dL_law_1536 ?_
          obtain ⟨q554, H⟩ := H
          refine wp_iaload q9 q554 dL_law_1537 ?_
          refine wp_aload_n 0 rfl rfl dL_law_1538 ?_
          refine wp_iload_n 3 rfl rfl dL_law_1539 ?_
          refine wp_iconst (3 : Int32) (by decide) dL_law_1540 ?_
          refine WP.at 1541 rfl ?_
          refine wp_iadd dL_law_1541 ?_
          obtain ⟨q555, H⟩ := H
          refine wp_iaload q9 q555 dL_law_1542 ?_
          refine WP.at 1543 rfl ?_
          obtain ⟨q556, H⟩ := H
          obtain ⟨q557, H⟩ := H
          refine wp_cVi (M2 := M_M_satchel) coX11 l2 q557 [xi (hI h551 l0 (l3 + (1 : Int32)).toNatClampNeg), xi (hI h551 l0 (l3 + (2 : Int32)).toNatClampNeg), xi (hI h551 l0 (l3 + (3 : Int32)).toNatClampNeg)] rfl lv_L_161 mo_M_satchel (Nat.le_of_ble_eq_true rfl) ⟨(Nat.le_of_ble_eq_true rfl), (Nat.le_of_ble_eq_true rfl)⟩ (Nat.le_of_ble_eq_true rfl) q556 dL_law_1543 (t_M_satchel l2 (hI h551 l0 (l3 + (1 : Int32)).toNatClampNeg) (hI h551 l0 (l3 + (2 : Int32)).toNatClampNeg) (hI h551 l0 (l3 + (3 : Int32)).toNatClampNeg) _ _ H) (fun v559 h558 H => ?_)
          refine WP.at 1546 rfl ?_
          refine wp_icmp_eq 1994 (by decide) dL_law_1546 (fun c560 => ?_) (fun c560 => ?_)
          · replace H := H.1 c560
            refine wp_iincN (7 : Int32) (by decide) rfl (Nat.le_of_ble_eq_true rfl) dL_law_1994 (ls' := fun v561 => [(3, xi v561), (0, xr l0), (1, xr l1), (2, xr l2)]) (fun _ => rfl) (fun v561 e562 => ?_)
            replace H := H v561 e562
            refine WP.at 1997 rfl ?_
            refine wp_goto 18 (by decide) dL_law_1997 ?_
            exact WP.pick [1, 2, 3, 0] rfl (hB18 v561 (k) _ H)
          · replace H := H.2 c560
            refine wp_iconst (0 : Int32) (by decide) dL_law_1549 ?_
            exact wp_iret (Or.inl rfl) dL_law_1550 H
        · replace H := H.2.2.2.2.2.2.2.2.2.2.2.2.2.2.2.2.2.2.2.2.2.2.2.2.2.2.2.2.2.2.2.2.2.2.2.1 c0
          refine wp_aload_n 1 rfl rfl dL_law_1551 ?_
          refine wp_aload_n 0 rfl rfl dL_law_1552 ?_
          refine wp_iload_n 3 rfl rfl dL_law_1553 ?_
          refine wp_iconst (1 : Int32) (by decide) dL_law_1554 ?_
          refine wp_iadd dL_law_1555 ?_
          obtain ⟨q563, H⟩ := H
          refine wp_iaload q9 q563 dL_law_1556 ?_
          refine wp_aload_n 0 rfl rfl dL_law_1557 ?_
          refine WP.at 1558 rfl ?_
          refine wp_iload_n 3 rfl rfl dL_law_1558 ?_
          refine wp_iconst (2 : Int32) (by decide) dL_law_1559 ?_
          refine wp_iadd dL_law_1560 ?_
          obtain ⟨q564, H⟩ := H
          refine wp_iaload q9 q564 dL_law_1561 ?_
          refine wp_aload_n 0 rfl rfl dL_law_1562 ?_
          refine wp_iload_n 3 rfl rfl dL_law_1563 ?_
          refine wp_iconst (3 : Int32) (by decide) dL_law_1564 ?_
          refine wp_iadd dL_law_1565 ?_
          refine WP.at 1566 rfl ?_
          obtain ⟨q565, H⟩ := H
          refine wp_iaload q9 q565 dL_law_1566 ?_
          refine wp_aload_n 0 rfl rfl dL_law_1567 ?_
          refine wp_iload_n 3 rfl rfl dL_law_1568 ?_
          refine wp_iconst (4 : Int32) (by decide) dL_law_1569 ?_
          refine wp_iadd dL_law_1570 ?_
          obtain ⟨q566, H⟩ := H
          refine wp_iaload q9 q566 dL_law_1571 ?_
          refine wp_aload_n 0 rfl rfl dL_law_1572 ?_
          refine wp_iload_n 3 rfl rfl dL_law_1573 ?_
          refine WP.at 1574 rfl ?_
          refine wp_iconst (5 : Int32) (by decide) dL_law_1574 ?_
          refine wp_iadd dL_law_1575 ?_
          obtain ⟨q567, H⟩ := H
          refine wp_iaload q9 q567 dL_law_1576 ?_
          refine WP.at 1577 rfl ?_
          obtain ⟨q568, H⟩ := H
          obtain ⟨q569, H⟩ := H
          refine wp_cVi (M2 := M_T_gather) coX10 l1 q569 [xi (hI h l0 (l3 + (1 : Int32)).toNatClampNeg), xi (hI h l0 (l3 + (2 : Int32)).toNatClampNeg), xi (hI h l0 (l3 + (3 : Int32)).toNatClampNeg), xi (hI h l0 (l3 + (4 : Int32)).toNatClampNeg), xi (hI h l0 (l3 + (5 : Int32)).toNatClampNeg)] rfl lv_L_162 mo_T_gather (Nat.le_of_ble_eq_true rfl) ⟨(Nat.le_of_ble_eq_true rfl), (Nat.le_of_ble_eq_true rfl)⟩ (Nat.le_of_ble_eq_true rfl) q568 dL_law_1577 (t_T_gather l1 (hI h l0 (l3 + (1 : Int32)).toNatClampNeg) (hI h l0 (l3 + (2 : Int32)).toNatClampNeg) (hI h l0 (l3 + (3 : Int32)).toNatClampNeg) (hI h l0 (l3 + (4 : Int32)).toNatClampNeg) (hI h l0 (l3 + (5 : Int32)).toNatClampNeg) _ _ H) (fun v571 h570 H => ?_)
          refine wp_aload_n 2 rfl rfl dL_law_1580 ?_
          refine wp_aload_n 0 rfl rfl dL_law_1581 ?_
          refine wp_iload_n 3 rfl rfl dL_law_1582 ?_
          refine wp_iconst (1 : Int32) (by decide) dL_law_1583 ?_
          refine WP.at 1584 rfl ?_
          refine wp_iadd dL_law_1584 ?_
          obtain ⟨q572, H⟩ := H
          refine wp_iaload q9 q572 dL_law_1585 ?_
          refine wp_aload_n 0 rfl rfl dL_law_1586 ?_
          refine wp_iload_n 3 rfl rfl dL_law_1587 ?_
          refine wp_iconst (2 : Int32) (by decide) dL_law_1588 ?_
          refine wp_iadd dL_law_1589 ?_
          obtain ⟨q573, H⟩ := H
          refine wp_iaload q9 q573 dL_law_1590 ?_
          refine wp_aload_n 0 rfl rfl dL_law_1591 ?_
          refine WP.at 1592 rfl ?_
          refine wp_iload_n 3 rfl rfl dL_law_1592 ?_
          refine wp_iconst (3 : Int32) (by decide) dL_law_1593 ?_
          refine wp_iadd dL_law_1594 ?_
          obtain ⟨q574, H⟩ := H
          refine wp_iaload q9 q574 dL_law_1595 ?_
          refine wp_aload_n 0 rfl rfl dL_law_1596 ?_
          refine wp_iload_n 3 rfl rfl dL_law_1597 ?_
          refine wp_iconst (4 : Int32) (by decide) dL_law_1598 ?_
          refine wp_iadd dL_law_1599 ?_
          refine WP.at 1600 rfl ?_
          obtain ⟨q575, H⟩ := H
          refine wp_iaload q9 q575 dL_law_1600 ?_
          refine wp_aload_n 0 rfl rfl dL_law_1601 ?_
          refine wp_iload_n 3 rfl rfl dL_law_1602 ?_
          refine wp_iconst (5 : Int32) (by decide) dL_law_1603 ?_
          refine wp_iadd dL_law_1604 ?_
          obtain ⟨q576, H⟩ := H
          refine wp_iaload q9 q576 dL_law_1605 ?_
          refine WP.at 1606 rfl ?_
          obtain ⟨q577, H⟩ := H
          obtain ⟨q578, H⟩ := H
          refine wp_cVi (M2 := M_M_gather) coX11 l2 q578 [xi (hI h570 l0 (l3 + (1 : Int32)).toNatClampNeg), xi (hI h570 l0 (l3 + (2 : Int32)).toNatClampNeg), xi (hI h570 l0 (l3 + (3 : Int32)).toNatClampNeg), xi (hI h570 l0 (l3 + (4 : Int32)).toNatClampNeg), xi (hI h570 l0 (l3 + (5 : Int32)).toNatClampNeg)] rfl lv_L_166 mo_M_gather (Nat.le_of_ble_eq_true rfl) ⟨(Nat.le_of_ble_eq_true rfl), (Nat.le_of_ble_eq_true rfl)⟩ (Nat.le_of_ble_eq_true rfl) q577 dL_law_1606 (t_M_gather l2 (hI h570 l0 (l3 + (1 : Int32)).toNatClampNeg) (hI h570 l0 (l3 + (2 : Int32)).toNatClampNeg) (hI h570 l0 (l3 + (3 : Int32)).toNatClampNeg) (hI h570 l0 (l3 + (4 : Int32)).toNatClampNeg) (hI h570 l0 (l3 + (5 : Int32)).toNatClampNeg) _ _ H) (fun v580 h579 H => ?_)
          refine WP.at 1609 rfl ?_
          refine wp_icmp_eq 1994 (by decide) dL_law_1609 (fun c581 => ?_) (fun c581 => ?_)
          · replace H := H.1 c581
            refine wp_iincN (7 : Int32) (by decide) rfl (Nat.le_of_ble_eq_true rfl) dL_law_1994 (ls' := fun v582 => [(3, xi v582), (0, xr l0), (1, xr l1), (2, xr l2)]) (fun _ => rfl) (fun v582 e583 => ?_)
            replace H := H v582 e583
            refine WP.at 1997 rfl ?_
            refine wp_goto 18 (by decide) dL_law_1997 ?_
            exact WP.pick [1, 2, 3, 0] rfl (hB18 v582 (k) _ H)
          · replace H := H.2 c581
            refine wp_iconst (0 : Int32) (by decide) dL_law_1612 ?_
            exact wp_iret (Or.inl rfl) dL_law_1613 H
        · replace H := H.2.2.2.2.2.2.2.2.2.2.2.2.2.2.2.2.2.2.2.2.2.2.2.2.2.2.2.2.2.2.2.2.2.2.2.2.1 c0
          refine wp_aload_n 1 rfl rfl dL_law_1614 ?_
          refine wp_aload_n 0 rfl rfl dL_law_1615 ?_
          refine wp_iload_n 3 rfl rfl dL_law_1616 ?_
          refine wp_iconst (1 : Int32) (by decide) dL_law_1617 ?_
          refine wp_iadd dL_law_1618 ?_
          obtain ⟨q584, H⟩ := H
          refine wp_iaload q9 q584 dL_law_1619 ?_
          refine wp_aload_n 0 rfl rfl dL_law_1620 ?_
          refine WP.at 1621 rfl ?_
          refine wp_iload_n 3 rfl rfl dL_law_1621 ?_
          refine wp_iconst (2 : Int32) (by decide) dL_law_1622 ?_
          refine wp_iadd dL_law_1623 ?_
          obtain ⟨q585, H⟩ := H
          refine wp_iaload q9 q585 dL_law_1624 ?_
          refine wp_aload_n 0 rfl rfl dL_law_1625 ?_
          refine wp_iload_n 3 rfl rfl dL_law_1626 ?_
          refine wp_iconst (3 : Int32) (by decide) dL_law_1627 ?_
          refine wp_iadd dL_law_1628 ?_
          refine WP.at 1629 rfl ?_
          obtain ⟨q586, H⟩ := H
          refine wp_iaload q9 q586 dL_law_1629 ?_
          refine wp_aload_n 0 rfl rfl dL_law_1630 ?_
          refine wp_iload_n 3 rfl rfl dL_law_1631 ?_
          refine wp_iconst (4 : Int32) (by decide) dL_law_1632 ?_
          refine wp_iadd dL_law_1633 ?_
          obtain ⟨q587, H⟩ := H
          refine wp_iaload q9 q587 dL_law_1634 ?_
          refine wp_aload_n 0 rfl rfl dL_law_1635 ?_
          refine wp_iload_n 3 rfl rfl dL_law_1636 ?_
          refine WP.at 1637 rfl ?_
          refine wp_iconst (5 : Int32) (by decide) dL_law_1637 ?_
          refine wp_iadd dL_law_1638 ?_
          obtain ⟨q588, H⟩ := H
          refine wp_iaload q9 q588 dL_law_1639 ?_
          refine WP.at 1640 rfl ?_
          obtain ⟨q589, H⟩ := H
          obtain ⟨q590, H⟩ := H
          refine wp_cVi (M2 := M_T_shift) coX10 l1 q590 [xi (hI h l0 (l3 + (1 : Int32)).toNatClampNeg), xi (hI h l0 (l3 + (2 : Int32)).toNatClampNeg), xi (hI h l0 (l3 + (3 : Int32)).toNatClampNeg), xi (hI h l0 (l3 + (4 : Int32)).toNatClampNeg), xi (hI h l0 (l3 + (5 : Int32)).toNatClampNeg)] rfl lv_L_167 mo_T_shift (Nat.le_of_ble_eq_true rfl) ⟨(Nat.le_of_ble_eq_true rfl), (Nat.le_of_ble_eq_true rfl)⟩ (Nat.le_of_ble_eq_true rfl) q589 dL_law_1640 (t_T_shift l1 (hI h l0 (l3 + (1 : Int32)).toNatClampNeg) (hI h l0 (l3 + (2 : Int32)).toNatClampNeg) (hI h l0 (l3 + (3 : Int32)).toNatClampNeg) (hI h l0 (l3 + (4 : Int32)).toNatClampNeg) (hI h l0 (l3 + (5 : Int32)).toNatClampNeg) _ _ H) (fun v592 h591 H => ?_)
          refine wp_aload_n 2 rfl rfl dL_law_1643 ?_
          refine wp_aload_n 0 rfl rfl dL_law_1644 ?_
          refine wp_iload_n 3 rfl rfl dL_law_1645 ?_
          refine wp_iconst (1 : Int32) (by decide) dL_law_1646 ?_
          refine WP.at 1647 rfl ?_
          refine wp_iadd dL_law_1647 ?_
          obtain ⟨q593, H⟩ := H
          refine wp_iaload q9 q593 dL_law_1648 ?_
          refine wp_aload_n 0 rfl rfl dL_law_1649 ?_
          refine wp_iload_n 3 rfl rfl dL_law_1650 ?_
          refine wp_iconst (2 : Int32) (by decide) dL_law_1651 ?_
          refine wp_iadd dL_law_1652 ?_
          obtain ⟨q594, H⟩ := H
          refine wp_iaload q9 q594 dL_law_1653 ?_
          refine wp_aload_n 0 rfl rfl dL_law_1654 ?_
          refine WP.at 1655 rfl ?_
          refine wp_iload_n 3 rfl rfl dL_law_1655 ?_
          refine wp_iconst (3 : Int32) (by decide) dL_law_1656 ?_
          refine wp_iadd dL_law_1657 ?_
          obtain ⟨q595, H⟩ := H
          refine wp_iaload q9 q595 dL_law_1658 ?_
          refine wp_aload_n 0 rfl rfl dL_law_1659 ?_
          refine wp_iload_n 3 rfl rfl dL_law_1660 ?_
          refine wp_iconst (4 : Int32) (by decide) dL_law_1661 ?_
          refine wp_iadd dL_law_1662 ?_
          refine WP.at 1663 rfl ?_
          obtain ⟨q596, H⟩ := H
          refine wp_iaload q9 q596 dL_law_1663 ?_
          refine wp_aload_n 0 rfl rfl dL_law_1664 ?_
          refine wp_iload_n 3 rfl rfl dL_law_1665 ?_
          refine wp_iconst (5 : Int32) (by decide) dL_law_1666 ?_
          refine wp_iadd dL_law_1667 ?_
          obtain ⟨q597, H⟩ := H
          refine wp_iaload q9 q597 dL_law_1668 ?_
          refine WP.at 1669 rfl ?_
          obtain ⟨q598, H⟩ := H
          obtain ⟨q599, H⟩ := H
          refine wp_cVi (M2 := M_M_shift) coX11 l2 q599 [xi (hI h591 l0 (l3 + (1 : Int32)).toNatClampNeg), xi (hI h591 l0 (l3 + (2 : Int32)).toNatClampNeg), xi (hI h591 l0 (l3 + (3 : Int32)).toNatClampNeg), xi (hI h591 l0 (l3 + (4 : Int32)).toNatClampNeg), xi (hI h591 l0 (l3 + (5 : Int32)).toNatClampNeg)] rfl lv_L_170 mo_M_shift (Nat.le_of_ble_eq_true rfl) ⟨(Nat.le_of_ble_eq_true rfl), (Nat.le_of_ble_eq_true rfl)⟩ (Nat.le_of_ble_eq_true rfl) q598 dL_law_1669 (t_M_shift l2 (hI h591 l0 (l3 + (1 : Int32)).toNatClampNeg) (hI h591 l0 (l3 + (2 : Int32)).toNatClampNeg) (hI h591 l0 (l3 + (3 : Int32)).toNatClampNeg) (hI h591 l0 (l3 + (4 : Int32)).toNatClampNeg) (hI h591 l0 (l3 + (5 : Int32)).toNatClampNeg) _ _ H) (fun v601 h600 H => ?_)
          refine WP.at 1672 rfl ?_
          refine wp_icmp_eq 1994 (by decide) dL_law_1672 (fun c602 => ?_) (fun c602 => ?_)
          · replace H := H.1 c602
            refine wp_iincN (7 : Int32) (by decide) rfl (Nat.le_of_ble_eq_true rfl) dL_law_1994 (ls' := fun v603 => [(3, xi v603), (0, xr l0), (1, xr l1), (2, xr l2)]) (fun _ => rfl) (fun v603 e604 => ?_)
            replace H := H v603 e604
            refine WP.at 1997 rfl ?_
            refine wp_goto 18 (by decide) dL_law_1997 ?_
            exact WP.pick [1, 2, 3, 0] rfl (hB18 v603 (k) _ H)
          · replace H := H.2 c602
            refine wp_iconst (0 : Int32) (by decide) dL_law_1675 ?_
            exact wp_iret (Or.inl rfl) dL_law_1676 H
        · replace H := H.2.2.2.2.2.2.2.2.2.2.2.2.2.2.2.2.2.2.2.2.2.2.2.2.2.2.2.2.2.2.2.2.2.2.2.2.2.1 c0
          refine wp_aload_n 1 rfl rfl dL_law_1677 ?_
          refine WP.at 1678 rfl ?_
          obtain ⟨q605, H⟩ := H
          obtain ⟨q606, H⟩ := H
          refine wp_cVi (M2 := M_T_came) coX10 l1 q606 [] rfl lv_L_171 mo_T_came (Nat.le_of_ble_eq_true rfl) ⟨(Nat.le_of_ble_eq_true rfl), (Nat.le_of_ble_eq_true rfl)⟩ (Nat.le_of_ble_eq_true rfl) q605 dL_law_1678 (t_T_came l1 _ _ H) (fun v608 h607 H => ?_)
          refine wp_aload_n 2 rfl rfl dL_law_1681 ?_
          refine WP.at 1682 rfl ?_
          obtain ⟨q609, H⟩ := H
          obtain ⟨q610, H⟩ := H
          refine wp_cVi (M2 := M_M_came) coX11 l2 q610 [] rfl lv_L_174 mo_M_came (Nat.le_of_ble_eq_true rfl) ⟨(Nat.le_of_ble_eq_true rfl), (Nat.le_of_ble_eq_true rfl)⟩ (Nat.le_of_ble_eq_true rfl) q609 dL_law_1682 (t_M_came l2 _ _ H) (fun v612 h611 H => ?_)
          refine WP.at 1685 rfl ?_
          refine wp_icmp_eq 1994 (by decide) dL_law_1685 (fun c613 => ?_) (fun c613 => ?_)
          · replace H := H.1 c613
            refine wp_iincN (7 : Int32) (by decide) rfl (Nat.le_of_ble_eq_true rfl) dL_law_1994 (ls' := fun v614 => [(3, xi v614), (0, xr l0), (1, xr l1), (2, xr l2)]) (fun _ => rfl) (fun v614 e615 => ?_)
            replace H := H v614 e615
            refine WP.at 1997 rfl ?_
            refine wp_goto 18 (by decide) dL_law_1997 ?_
            exact WP.pick [1, 2, 3, 0] rfl (hB18 v614 (k) _ H)
          · replace H := H.2 c613
            refine wp_iconst (0 : Int32) (by decide) dL_law_1688 ?_
            exact wp_iret (Or.inl rfl) dL_law_1689 H
        · replace H := H.2.2.2.2.2.2.2.2.2.2.2.2.2.2.2.2.2.2.2.2.2.2.2.2.2.2.2.2.2.2.2.2.2.2.2.2.2.2.1 c0
          refine wp_aload_n 1 rfl rfl dL_law_1690 ?_
          refine wp_aload_n 0 rfl rfl dL_law_1691 ?_
          refine wp_iload_n 3 rfl rfl dL_law_1692 ?_
          refine wp_iconst (1 : Int32) (by decide) dL_law_1693 ?_
          refine wp_iadd dL_law_1694 ?_
          obtain ⟨q616, H⟩ := H
          refine wp_iaload q9 q616 dL_law_1695 ?_
          refine wp_aload_n 0 rfl rfl dL_law_1696 ?_
          refine WP.at 1697 rfl ?_
          refine wp_iload_n 3 rfl rfl dL_law_1697 ?_
          refine wp_iconst (2 : Int32) (by decide) dL_law_1698 ?_
          refine wp_iadd dL_law_1699 ?_
          obtain ⟨q617, H⟩ := H
          refine wp_iaload q9 q617 dL_law_1700 ?_
          refine WP.at 1701 rfl ?_
          obtain ⟨q618, H⟩ := H
          obtain ⟨q619, H⟩ := H
          refine wp_cVi (M2 := M_T_held) coX10 l1 q619 [xi (hI h l0 (l3 + (1 : Int32)).toNatClampNeg), xi (hI h l0 (l3 + (2 : Int32)).toNatClampNeg)] rfl lv_L_175 mo_T_held (Nat.le_of_ble_eq_true rfl) ⟨(Nat.le_of_ble_eq_true rfl), (Nat.le_of_ble_eq_true rfl)⟩ (Nat.le_of_ble_eq_true rfl) q618 dL_law_1701 (t_T_held l1 (hI h l0 (l3 + (1 : Int32)).toNatClampNeg) (hI h l0 (l3 + (2 : Int32)).toNatClampNeg) _ _ H) (fun v621 h620 H => ?_)
          refine wp_aload_n 2 rfl rfl dL_law_1704 ?_
          refine wp_aload_n 0 rfl rfl dL_law_1705 ?_
          refine wp_iload_n 3 rfl rfl dL_law_1706 ?_
          refine WP.at 1707 rfl ?_
          refine wp_iconst (1 : Int32) (by decide) dL_law_1707 ?_
          refine wp_iadd dL_law_1708 ?_
          obtain ⟨q622, H⟩ := H
          refine wp_iaload q9 q622 dL_law_1709 ?_
          refine wp_aload_n 0 rfl rfl dL_law_1710 ?_
          refine wp_iload_n 3 rfl rfl dL_law_1711 ?_
          refine wp_iconst (2 : Int32) (by decide) dL_law_1712 ?_
          refine wp_iadd dL_law_1713 ?_
          obtain ⟨q623, H⟩ := H
          refine wp_iaload q9 q623 dL_law_1714 ?_
          refine WP.at 1715 rfl ?_
          refine WP.at 1715 rfl ?_
          obtain ⟨q624, H⟩ := H
          obtain ⟨q625, H⟩ := H
          refine wp_cVi (M2 := M_M_held) coX11 l2 q625 [xi (hI h620 l0 (l3 + (1 : Int32)).toNatClampNeg), xi (hI h620 l0 (l3 + (2 : Int32)).toNatClampNeg)] rfl lv_L_178 mo_M_held (Nat.le_of_ble_eq_true rfl) ⟨(Nat.le_of_ble_eq_true rfl), (Nat.le_of_ble_eq_true rfl)⟩ (Nat.le_of_ble_eq_true rfl) q624 dL_law_1715 (t_M_held l2 (hI h620 l0 (l3 + (1 : Int32)).toNatClampNeg) (hI h620 l0 (l3 + (2 : Int32)).toNatClampNeg) _ _ H) (fun v627 h626 H => ?_)
          refine WP.at 1718 rfl ?_
          refine wp_icmp_eq 1994 (by decide) dL_law_1718 (fun c628 => ?_) (fun c628 => ?_)
          · replace H := H.1 c628
            refine wp_iincN (7 : Int32) (by decide) rfl (Nat.le_of_ble_eq_true rfl) dL_law_1994 (ls' := fun v629 => [(3, xi v629), (0, xr l0), (1, xr l1), (2, xr l2)]) (fun _ => rfl) (fun v629 e630 => ?_)
            replace H := H v629 e630
            refine WP.at 1997 rfl ?_
            refine wp_goto 18 (by decide) dL_law_1997 ?_
            exact WP.pick [1, 2, 3, 0] rfl (hB18 v629 (k) _ H)
          · replace H := H.2 c628
            refine wp_iconst (0 : Int32) (by decide) dL_law_1721 ?_
            exact wp_iret (Or.inl rfl) dL_law_1722 H
        · replace H := H.2.2.2.2.2.2.2.2.2.2.2.2.2.2.2.2.2.2.2.2.2.2.2.2.2.2.2.2.2.2.2.2.2.2.2.2.2.2.2.1 c0
          refine wp_aload_n 1 rfl rfl dL_law_1723 ?_
          refine wp_aload_n 0 rfl rfl dL_law_1724 ?_
          refine wp_iload_n 3 rfl rfl dL_law_1725 ?_
          refine wp_iconst (1 : Int32) (by decide) dL_law_1726 ?_
          refine wp_iadd dL_law_1727 ?_
          obtain ⟨q631, H⟩ := H
          refine wp_iaload q9 q631 dL_law_1728 ?_
          refine WP.at 1729 rfl ?_
          obtain ⟨q632, H⟩ := H
          obtain ⟨q633, H⟩ := H
          refine wp_cVi (M2 := M_T_cash) coX10 l1 q633 [xi (hI h l0 (l3 + (1 : Int32)).toNatClampNeg)] rfl lv_L_179 mo_T_cash (Nat.le_of_ble_eq_true rfl) ⟨(Nat.le_of_ble_eq_true rfl), (Nat.le_of_ble_eq_true rfl)⟩ (Nat.le_of_ble_eq_true rfl) q632 dL_law_1729 (t_T_cash l1 (hI h l0 (l3 + (1 : Int32)).toNatClampNeg) _ _ H) (fun v635 h634 H => ?_)
          refine WP.at 1732 rfl ?_
          refine wp_aload_n 2 rfl rfl dL_law_1732 ?_
          refine wp_aload_n 0 rfl rfl dL_law_1733 ?_
          refine wp_iload_n 3 rfl rfl dL_law_1734 ?_
          refine wp_iconst (1 : Int32) (by decide) dL_law_1735 ?_
          refine wp_iadd dL_law_1736 ?_
          obtain ⟨q636, H⟩ := H
          refine wp_iaload q9 q636 dL_law_1737 ?_
          refine WP.at 1738 rfl ?_
          obtain ⟨q637, H⟩ := H
          obtain ⟨q638, H⟩ := H
          refine wp_cVi (M2 := M_M_cash) coX11 l2 q638 [xi (hI h634 l0 (l3 + (1 : Int32)).toNatClampNeg)] rfl lv_L_182 mo_M_cash (Nat.le_of_ble_eq_true rfl) ⟨(Nat.le_of_ble_eq_true rfl), (Nat.le_of_ble_eq_true rfl)⟩ (Nat.le_of_ble_eq_true rfl) q637 dL_law_1738 (t_M_cash l2 (hI h634 l0 (l3 + (1 : Int32)).toNatClampNeg) _ _ H) (fun v640 h639 H => ?_)
          refine WP.at 1741 rfl ?_
          refine wp_icmp_eq 1994 (by decide) dL_law_1741 (fun c641 => ?_) (fun c641 => ?_)
          · replace H := H.1 c641
            refine wp_iincN (7 : Int32) (by decide) rfl (Nat.le_of_ble_eq_true rfl) dL_law_1994 (ls' := fun v642 => [(3, xi v642), (0, xr l0), (1, xr l1), (2, xr l2)]) (fun _ => rfl) (fun v642 e643 => ?_)
            replace H := H v642 e643
            refine WP.at 1997 rfl ?_
            refine wp_goto 18 (by decide) dL_law_1997 ?_
            exact WP.pick [1, 2, 3, 0] rfl (hB18 v642 (k) _ H)
          · replace H := H.2 c641
            refine wp_iconst (0 : Int32) (by decide) dL_law_1744 ?_
            exact wp_iret (Or.inl rfl) dL_law_1745 H
        · replace H := H.2.2.2.2.2.2.2.2.2.2.2.2.2.2.2.2.2.2.2.2.2.2.2.2.2.2.2.2.2.2.2.2.2.2.2.2.2.2.2.2.1 c0
          refine wp_aload_n 1 rfl rfl dL_law_1746 ?_
          refine wp_aload_n 0 rfl rfl dL_law_1747 ?_
          refine wp_iload_n 3 rfl rfl dL_law_1748 ?_
          refine wp_iconst (1 : Int32) (by decide) dL_law_1749 ?_
          refine wp_iadd dL_law_1750 ?_
          obtain ⟨q644, H⟩ := H
          refine wp_iaload q9 q644 dL_law_1751 ?_
          refine wp_aload_n 0 rfl rfl dL_law_1752 ?_
          refine WP.at 1753 rfl ?_
          refine wp_iload_n 3 rfl rfl dL_law_1753 ?_
          refine wp_iconst (2 : Int32) (by decide) dL_law_1754 ?_
          refine wp_iadd dL_law_1755 ?_
          obtain ⟨q645, H⟩ := H
          refine wp_iaload q9 q645 dL_law_1756 ?_
          refine WP.at 1757 rfl ?_
          obtain ⟨q646, H⟩ := H
          obtain ⟨q647, H⟩ := H
          refine wp_cVi (M2 := M_T_lap) coX10 l1 q647 [xi (hI h l0 (l3 + (1 : Int32)).toNatClampNeg), xi (hI h l0 (l3 + (2 : Int32)).toNatClampNeg)] rfl lv_L_183 mo_T_lap (Nat.le_of_ble_eq_true rfl) ⟨(Nat.le_of_ble_eq_true rfl), (Nat.le_of_ble_eq_true rfl)⟩ (Nat.le_of_ble_eq_true rfl) q646 dL_law_1757 (t_T_lap l1 (hI h l0 (l3 + (1 : Int32)).toNatClampNeg) (hI h l0 (l3 + (2 : Int32)).toNatClampNeg) _ _ H) (fun v649 h648 H => ?_)
          refine wp_aload_n 2 rfl rfl dL_law_1760 ?_
          refine wp_aload_n 0 rfl rfl dL_law_1761 ?_
          refine wp_iload_n 3 rfl rfl dL_law_1762 ?_
          refine WP.at 1763 rfl ?_
          refine wp_iconst (1 : Int32) (by decide) dL_law_1763 ?_
          refine wp_iadd dL_law_1764 ?_
          obtain ⟨q650, H⟩ := H
          refine wp_iaload q9 q650 dL_law_1765 ?_
          refine wp_aload_n 0 rfl rfl dL_law_1766 ?_
          refine wp_iload_n 3 rfl rfl dL_law_1767 ?_
          refine wp_iconst (2 : Int32) (by decide) dL_law_1768 ?_
          refine wp_iadd dL_law_1769 ?_
          obtain ⟨q651, H⟩ := H
          refine wp_iaload q9 q651 dL_law_1770 ?_
          refine WP.at 1771 rfl ?_
          refine WP.at 1771 rfl ?_
          obtain ⟨q652, H⟩ := H
          obtain ⟨q653, H⟩ := H
          refine wp_cVi (M2 := M_M_lap) coX11 l2 q653 [xi (hI h648 l0 (l3 + (1 : Int32)).toNatClampNeg), xi (hI h648 l0 (l3 + (2 : Int32)).toNatClampNeg)] rfl lv_L_186 mo_M_lap (Nat.le_of_ble_eq_true rfl) ⟨(Nat.le_of_ble_eq_true rfl), (Nat.le_of_ble_eq_true rfl)⟩ (Nat.le_of_ble_eq_true rfl) q652 dL_law_1771 (t_M_lap l2 (hI h648 l0 (l3 + (1 : Int32)).toNatClampNeg) (hI h648 l0 (l3 + (2 : Int32)).toNatClampNeg) _ _ H) (fun v655 h654 H => ?_)
          refine WP.at 1774 rfl ?_
          refine wp_icmp_eq 1994 (by decide) dL_law_1774 (fun c656 => ?_) (fun c656 => ?_)
          · replace H := H.1 c656
            refine wp_iincN (7 : Int32) (by decide) rfl (Nat.le_of_ble_eq_true rfl) dL_law_1994 (ls' := fun v657 => [(3, xi v657), (0, xr l0), (1, xr l1), (2, xr l2)]) (fun _ => rfl) (fun v657 e658 => ?_)
            replace H := H v657 e658
            refine WP.at 1997 rfl ?_
            refine wp_goto 18 (by decide) dL_law_1997 ?_
            exact WP.pick [1, 2, 3, 0] rfl (hB18 v657 (k) _ H)
          · replace H := H.2 c656
            refine wp_iconst (0 : Int32) (by decide) dL_law_1777 ?_
            exact wp_iret (Or.inl rfl) dL_law_1778 H
        · replace H := H.2.2.2.2.2.2.2.2.2.2.2.2.2.2.2.2.2.2.2.2.2.2.2.2.2.2.2.2.2.2.2.2.2.2.2.2.2.2.2.2.2.1 c0
          refine wp_aload_n 1 rfl rfl dL_law_1779 ?_
          refine wp_aload_n 0 rfl rfl dL_law_1780 ?_
          refine wp_iload_n 3 rfl rfl dL_law_1781 ?_
          refine wp_iconst (1 : Int32) (by decide) dL_law_1782 ?_
          refine wp_iadd dL_law_1783 ?_
          obtain ⟨q659, H⟩ := H
          refine wp_iaload q9 q659 dL_law_1784 ?_
          refine wp_aload_n 0 rfl rfl dL_law_1785 ?_
          refine WP.at 1786 rfl ?_
          refine wp_iload_n 3 rfl rfl dL_law_1786 ?_
          refine wp_iconst (2 : Int32) (by decide) dL_law_1787 ?_
          refine wp_iadd dL_law_1788 ?_
          obtain ⟨q660, H⟩ := H
          refine wp_iaload q9 q660 dL_law_1789 ?_
          refine WP.at 1790 rfl ?_
          obtain ⟨q661, H⟩ := H
          obtain ⟨q662, H⟩ := H
          refine wp_cVi (M2 := M_T_lapAt) coX10 l1 q662 [xi (hI h l0 (l3 + (1 : Int32)).toNatClampNeg), xi (hI h l0 (l3 + (2 : Int32)).toNatClampNeg)] rfl lv_L_187 mo_T_lapAt (Nat.le_of_ble_eq_true rfl) ⟨(Nat.le_of_ble_eq_true rfl), (Nat.le_of_ble_eq_true rfl)⟩ (Nat.le_of_ble_eq_true rfl) q661 dL_law_1790 (t_T_lapAt l1 (hI h l0 (l3 + (1 : Int32)).toNatClampNeg) (hI h l0 (l3 + (2 : Int32)).toNatClampNeg) _ _ H) (fun v664 h663 H => ?_)
          refine wp_aload_n 2 rfl rfl dL_law_1793 ?_
          refine wp_aload_n 0 rfl rfl dL_law_1794 ?_
          refine wp_iload_n 3 rfl rfl dL_law_1795 ?_
          refine WP.at 1796 rfl ?_
          refine wp_iconst (1 : Int32) (by decide) dL_law_1796 ?_
          refine wp_iadd dL_law_1797 ?_
          obtain ⟨q665, H⟩ := H
          refine wp_iaload q9 q665 dL_law_1798 ?_
          refine wp_aload_n 0 rfl rfl dL_law_1799 ?_
          refine wp_iload_n 3 rfl rfl dL_law_1800 ?_
          refine wp_iconst (2 : Int32) (by decide) dL_law_1801 ?_
          refine wp_iadd dL_law_1802 ?_
          obtain ⟨q666, H⟩ := H
          refine wp_iaload q9 q666 dL_law_1803 ?_
          refine WP.at 1804 rfl ?_
          refine WP.at 1804 rfl ?_
          obtain ⟨q667, H⟩ := H
          obtain ⟨q668, H⟩ := H
          refine wp_cVi (M2 := M_M_lapAt) coX11 l2 q668 [xi (hI h663 l0 (l3 + (1 : Int32)).toNatClampNeg), xi (hI h663 l0 (l3 + (2 : Int32)).toNatClampNeg)] rfl lv_L_190 mo_M_lapAt (Nat.le_of_ble_eq_true rfl) ⟨(Nat.le_of_ble_eq_true rfl), (Nat.le_of_ble_eq_true rfl)⟩ (Nat.le_of_ble_eq_true rfl) q667 dL_law_1804 (t_M_lapAt l2 (hI h663 l0 (l3 + (1 : Int32)).toNatClampNeg) (hI h663 l0 (l3 + (2 : Int32)).toNatClampNeg) _ _ H) (fun v670 h669 H => ?_)
          refine WP.at 1807 rfl ?_
          refine wp_icmp_eq 1994 (by decide) dL_law_1807 (fun c671 => ?_) (fun c671 => ?_)
          · replace H := H.1 c671
            refine wp_iincN (7 : Int32) (by decide) rfl (Nat.le_of_ble_eq_true rfl) dL_law_1994 (ls' := fun v672 => [(3, xi v672), (0, xr l0), (1, xr l1), (2, xr l2)]) (fun _ => rfl) (fun v672 e673 => ?_)
            replace H := H v672 e673
            refine WP.at 1997 rfl ?_
            refine wp_goto 18 (by decide) dL_law_1997 ?_
            exact WP.pick [1, 2, 3, 0] rfl (hB18 v672 (k) _ H)
          · replace H := H.2 c671
            refine wp_iconst (0 : Int32) (by decide) dL_law_1810 ?_
            exact wp_iret (Or.inl rfl) dL_law_1811 H
        · replace H := H.2.2.2.2.2.2.2.2.2.2.2.2.2.2.2.2.2.2.2.2.2.2.2.2.2.2.2.2.2.2.2.2.2.2.2.2.2.2.2.2.2.2.1 c0
          refine wp_aload_n 1 rfl rfl dL_law_1812 ?_
          refine wp_aload_n 0 rfl rfl dL_law_1813 ?_
          refine wp_iload_n 3 rfl rfl dL_law_1814 ?_
          refine wp_iconst (1 : Int32) (by decide) dL_law_1815 ?_
          refine wp_iadd dL_law_1816 ?_
          obtain ⟨q674, H⟩ := H
          refine wp_iaload q9 q674 dL_law_1817 ?_
          refine wp_aload_n 0 rfl rfl dL_law_1818 ?_
          refine WP.at 1819 rfl ?_
          refine wp_iload_n 3 rfl rfl dL_law_1819 ?_
          refine wp_iconst (2 : Int32) (by decide) dL_law_1820 ?_
          refine wp_iadd dL_law_1821 ?_
          obtain ⟨q675, H⟩ := H
          refine wp_iaload q9 q675 dL_law_1822 ?_
          refine WP.at 1823 rfl ?_
          obtain ⟨q676, H⟩ := H
          obtain ⟨q677, H⟩ := H
          refine wp_cVi (M2 := M_T_pace) coX10 l1 q677 [xi (hI h l0 (l3 + (1 : Int32)).toNatClampNeg), xi (hI h l0 (l3 + (2 : Int32)).toNatClampNeg)] rfl lv_L_191 mo_T_pace (Nat.le_of_ble_eq_true rfl) ⟨(Nat.le_of_ble_eq_true rfl), (Nat.le_of_ble_eq_true rfl)⟩ (Nat.le_of_ble_eq_true rfl) q676 dL_law_1823 (t_T_pace l1 (hI h l0 (l3 + (1 : Int32)).toNatClampNeg) (hI h l0 (l3 + (2 : Int32)).toNatClampNeg) _ _ H) (fun v679 h678 H => ?_)
          refine wp_aload_n 2 rfl rfl dL_law_1826 ?_
          refine wp_aload_n 0 rfl rfl dL_law_1827 ?_
          refine wp_iload_n 3 rfl rfl dL_law_1828 ?_
          refine WP.at 1829 rfl ?_
          refine wp_iconst (1 : Int32) (by decide) dL_law_1829 ?_
          refine wp_iadd dL_law_1830 ?_
          obtain ⟨q680, H⟩ := H
          refine wp_iaload q9 q680 dL_law_1831 ?_
          refine wp_aload_n 0 rfl rfl dL_law_1832 ?_
          refine wp_iload_n 3 rfl rfl dL_law_1833 ?_
          refine wp_iconst (2 : Int32) (by decide) dL_law_1834 ?_
          refine wp_iadd dL_law_1835 ?_
          obtain ⟨q681, H⟩ := H
          refine wp_iaload q9 q681 dL_law_1836 ?_
          refine WP.at 1837 rfl ?_
          refine WP.at 1837 rfl ?_
          obtain ⟨q682, H⟩ := H
          obtain ⟨q683, H⟩ := H
          refine wp_cVi (M2 := M_M_pace) coX11 l2 q683 [xi (hI h678 l0 (l3 + (1 : Int32)).toNatClampNeg), xi (hI h678 l0 (l3 + (2 : Int32)).toNatClampNeg)] rfl lv_L_194 mo_M_pace (Nat.le_of_ble_eq_true rfl) ⟨(Nat.le_of_ble_eq_true rfl), (Nat.le_of_ble_eq_true rfl)⟩ (Nat.le_of_ble_eq_true rfl) q682 dL_law_1837 (t_M_pace l2 (hI h678 l0 (l3 + (1 : Int32)).toNatClampNeg) (hI h678 l0 (l3 + (2 : Int32)).toNatClampNeg) _ _ H) (fun v685 h684 H => ?_)
          refine WP.at 1840 rfl ?_
          refine wp_icmp_eq 1994 (by decide) dL_law_1840 (fun c686 => ?_) (fun c686 => ?_)
          · replace H := H.1 c686
            refine wp_iincN (7 : Int32) (by decide) rfl (Nat.le_of_ble_eq_true rfl) dL_law_1994 (ls' := fun v687 => [(3, xi v687), (0, xr l0), (1, xr l1), (2, xr l2)]) (fun _ => rfl) (fun v687 e688 => ?_)
            replace H := H v687 e688
            refine WP.at 1997 rfl ?_
            refine wp_goto 18 (by decide) dL_law_1997 ?_
            exact WP.pick [1, 2, 3, 0] rfl (hB18 v687 (k) _ H)
          · replace H := H.2 c686
            refine wp_iconst (0 : Int32) (by decide) dL_law_1843 ?_
            exact wp_iret (Or.inl rfl) dL_law_1844 H
        · replace H := H.2.2.2.2.2.2.2.2.2.2.2.2.2.2.2.2.2.2.2.2.2.2.2.2.2.2.2.2.2.2.2.2.2.2.2.2.2.2.2.2.2.2.2.1 c0
          refine wp_aload_n 1 rfl rfl dL_law_1845 ?_
          refine wp_aload_n 0 rfl rfl dL_law_1846 ?_
          refine wp_iload_n 3 rfl rfl dL_law_1847 ?_
          refine wp_iconst (1 : Int32) (by decide) dL_law_1848 ?_
          refine wp_iadd dL_law_1849 ?_
          obtain ⟨q689, H⟩ := H
          refine wp_iaload q9 q689 dL_law_1850 ?_
          refine wp_aload_n 0 rfl rfl dL_law_1851 ?_
          refine WP.at 1852 rfl ?_
          refine wp_iload_n 3 rfl rfl dL_law_1852 ?_
          refine wp_iconst (2 : Int32) (by decide) dL_law_1853 ?_
          refine wp_iadd dL_law_1854 ?_
          obtain ⟨q690, H⟩ := H
          refine wp_iaload q9 q690 dL_law_1855 ?_
          refine wp_aload_n 0 rfl rfl dL_law_1856 ?_
          refine wp_iload_n 3 rfl rfl dL_law_1857 ?_
          refine wp_iconst (3 : Int32) (by decide) dL_law_1858 ?_
          refine wp_iadd dL_law_1859 ?_
          refine WP.at 1860 rfl ?_
          obtain ⟨q691, H⟩ := H
          refine wp_iaload q9 q691 dL_law_1860 ?_
          refine WP.at 1861 rfl ?_
          obtain ⟨q692, H⟩ := H
          obtain ⟨q693, H⟩ := H
          refine wp_cVi (M2 := M_T_remainder) coX10 l1 q693 [xi (hI h l0 (l3 + (1 : Int32)).toNatClampNeg), xi (hI h l0 (l3 + (2 : Int32)).toNatClampNeg), xi (hI h l0 (l3 + (3 : Int32)).toNatClampNeg)] rfl lv_L_195 mo_T_remainder (Nat.le_of_ble_eq_true rfl) ⟨(Nat.le_of_ble_eq_true rfl), (Nat.le_of_ble_eq_true rfl)⟩ (Nat.le_of_ble_eq_true rfl) q692 dL_law_1861 (t_T_remainder l1 (hI h l0 (l3 + (1 : Int32)).toNatClampNeg) (hI h l0 (l3 + (2 : Int32)).toNatClampNeg) (hI h l0 (l3 + (3 : Int32)).toNatClampNeg) _ _ H) (fun v695 h694 H => ?_)
          refine wp_aload_n 2 rfl rfl dL_law_1864 ?_
          refine wp_aload_n 0 rfl rfl dL_law_1865 ?_
          refine wp_iload_n 3 rfl rfl dL_law_1866 ?_
          refine wp_iconst (1 : Int32) (by decide) dL_law_1867 ?_
          refine wp_iadd dL_law_1868 ?_
          obtain ⟨q696, H⟩ := H
          refine wp_iaload q9 q696 dL_law_1869 ?_
          refine WP.at 1870 rfl ?_
          refine wp_aload_n 0 rfl rfl dL_law_1870 ?_
          refine wp_iload_n 3 rfl rfl dL_law_1871 ?_
          refine wp_iconst (2 : Int32) (by decide) dL_law_1872 ?_
          refine wp_iadd dL_law_1873 ?_
          obtain ⟨q697, H⟩ := H
          refine wp_iaload q9 q697 dL_law_1874 ?_
          refine wp_aload_n 0 rfl rfl dL_law_1875 ?_
          refine wp_iload_n 3 rfl rfl dL_law_1876 ?_
          refine wp_iconst (3 : Int32) (by decide) dL_law_1877 ?_
          refine WP.at 1878 rfl ?_
          refine wp_iadd dL_law_1878 ?_
          obtain ⟨q698, H⟩ := H
          refine wp_iaload q9 q698 dL_law_1879 ?_
          refine WP.at 1880 rfl ?_
          obtain ⟨q699, H⟩ := H
          obtain ⟨q700, H⟩ := H
          refine wp_cVi (M2 := M_M_remainder) coX11 l2 q700 [xi (hI h694 l0 (l3 + (1 : Int32)).toNatClampNeg), xi (hI h694 l0 (l3 + (2 : Int32)).toNatClampNeg), xi (hI h694 l0 (l3 + (3 : Int32)).toNatClampNeg)] rfl lv_L_198 mo_M_remainder (Nat.le_of_ble_eq_true rfl) ⟨(Nat.le_of_ble_eq_true rfl), (Nat.le_of_ble_eq_true rfl)⟩ (Nat.le_of_ble_eq_true rfl) q699 dL_law_1880 (t_M_remainder l2 (hI h694 l0 (l3 + (1 : Int32)).toNatClampNeg) (hI h694 l0 (l3 + (2 : Int32)).toNatClampNeg) (hI h694 l0 (l3 + (3 : Int32)).toNatClampNeg) _ _ H) (fun v702 h701 H => ?_)
          refine WP.at 1883 rfl ?_
          refine wp_icmp_eq 1994 (by decide) dL_law_1883 (fun c703 => ?_) (fun c703 => ?_)
          · replace H := H.1 c703
            refine wp_iincN (7 : Int32) (by decide) rfl (Nat.le_of_ble_eq_true rfl) dL_law_1994 (ls' := fun v704 => [(3, xi v704), (0, xr l0), (1, xr l1), (2, xr l2)]) (fun _ => rfl) (fun v704 e705 => ?_)
            replace H := H v704 e705
            refine WP.at 1997 rfl ?_
            refine wp_goto 18 (by decide) dL_law_1997 ?_
            exact WP.pick [1, 2, 3, 0] rfl (hB18 v704 (k) _ H)
          · replace H := H.2 c703
            refine wp_iconst (0 : Int32) (by decide) dL_law_1886 ?_
            exact wp_iret (Or.inl rfl) dL_law_1887 H
        · replace H := H.2.2.2.2.2.2.2.2.2.2.2.2.2.2.2.2.2.2.2.2.2.2.2.2.2.2.2.2.2.2.2.2.2.2.2.2.2.2.2.2.2.2.2.2.1 c0
          refine wp_aload_n 1 rfl rfl dL_law_1888 ?_
          refine wp_aload_n 0 rfl rfl dL_law_1889 ?_
          refine wp_iload_n 3 rfl rfl dL_law_1890 ?_
          refine wp_iconst (1 : Int32) (by decide) dL_law_1891 ?_
          refine wp_iadd dL_law_1892 ?_
          obtain ⟨q706, H⟩ := H
          refine wp_iaload q9 q706 dL_law_1893 ?_
          refine wp_aload_n 0 rfl rfl dL_law_1894 ?_
          refine WP.at 1895 rfl ?_
          refine wp_iload_n 3 rfl rfl dL_law_1895 ?_
          refine wp_iconst (2 : Int32) (by decide) dL_law_1896 ?_
          refine wp_iadd dL_law_1897 ?_
          obtain ⟨q707, H⟩ := H
          refine wp_iaload q9 q707 dL_law_1898 ?_
          refine WP.at 1899 rfl ?_
          obtain ⟨q708, H⟩ := H
          obtain ⟨q709, H⟩ := H
          refine wp_cVi (M2 := M_T_ask) coX10 l1 q709 [xi (hI h l0 (l3 + (1 : Int32)).toNatClampNeg), xi (hI h l0 (l3 + (2 : Int32)).toNatClampNeg)] rfl lv_L_199 mo_T_ask (Nat.le_of_ble_eq_true rfl) ⟨(Nat.le_of_ble_eq_true rfl), (Nat.le_of_ble_eq_true rfl)⟩ (Nat.le_of_ble_eq_true rfl) q708 dL_law_1899 (t_T_ask l1 (hI h l0 (l3 + (1 : Int32)).toNatClampNeg) (hI h l0 (l3 + (2 : Int32)).toNatClampNeg) _ _ H) (fun v711 h710 H => ?_)
          refine wp_aload_n 2 rfl rfl dL_law_1902 ?_
          refine wp_aload_n 0 rfl rfl dL_law_1903 ?_
          refine wp_iload_n 3 rfl rfl dL_law_1904 ?_
          refine WP.at 1905 rfl ?_
          refine wp_iconst (1 : Int32) (by decide) dL_law_1905 ?_
          refine wp_iadd dL_law_1906 ?_
          obtain ⟨q712, H⟩ := H
          refine wp_iaload q9 q712 dL_law_1907 ?_
          refine wp_aload_n 0 rfl rfl dL_law_1908 ?_
          refine wp_iload_n 3 rfl rfl dL_law_1909 ?_
          refine wp_iconst (2 : Int32) (by decide) dL_law_1910 ?_
          refine wp_iadd dL_law_1911 ?_
          obtain ⟨q713, H⟩ := H
          refine wp_iaload q9 q713 dL_law_1912 ?_
          refine WP.at 1913 rfl ?_
          refine WP.at 1913 rfl ?_
          obtain ⟨q714, H⟩ := H
          obtain ⟨q715, H⟩ := H
          refine wp_cVi (M2 := M_M_ask) coX11 l2 q715 [xi (hI h710 l0 (l3 + (1 : Int32)).toNatClampNeg), xi (hI h710 l0 (l3 + (2 : Int32)).toNatClampNeg)] rfl lv_L_202 mo_M_ask (Nat.le_of_ble_eq_true rfl) ⟨(Nat.le_of_ble_eq_true rfl), (Nat.le_of_ble_eq_true rfl)⟩ (Nat.le_of_ble_eq_true rfl) q714 dL_law_1913 (t_M_ask l2 (hI h710 l0 (l3 + (1 : Int32)).toNatClampNeg) (hI h710 l0 (l3 + (2 : Int32)).toNatClampNeg) _ _ H) (fun v717 h716 H => ?_)
          refine WP.at 1916 rfl ?_
          refine wp_icmp_eq 1994 (by decide) dL_law_1916 (fun c718 => ?_) (fun c718 => ?_)
          · replace H := H.1 c718
            refine wp_iincN (7 : Int32) (by decide) rfl (Nat.le_of_ble_eq_true rfl) dL_law_1994 (ls' := fun v719 => [(3, xi v719), (0, xr l0), (1, xr l1), (2, xr l2)]) (fun _ => rfl) (fun v719 e720 => ?_)
            replace H := H v719 e720
            refine WP.at 1997 rfl ?_
            refine wp_goto 18 (by decide) dL_law_1997 ?_
            exact WP.pick [1, 2, 3, 0] rfl (hB18 v719 (k) _ H)
          · replace H := H.2 c718
            refine wp_iconst (0 : Int32) (by decide) dL_law_1919 ?_
            exact wp_iret (Or.inl rfl) dL_law_1920 H
        · replace H := H.2.2.2.2.2.2.2.2.2.2.2.2.2.2.2.2.2.2.2.2.2.2.2.2.2.2.2.2.2.2.2.2.2.2.2.2.2.2.2.2.2.2.2.2.2.1 c0
          refine wp_aload_n 1 rfl rfl dL_law_1921 ?_
          refine wp_aload_n 0 rfl rfl dL_law_1922 ?_
          refine wp_iload_n 3 rfl rfl dL_law_1923 ?_
          refine wp_iconst (1 : Int32) (by decide) dL_law_1924 ?_
          refine wp_iadd dL_law_1925 ?_
          obtain ⟨q721, H⟩ := H
          refine wp_iaload q9 q721 dL_law_1926 ?_
          refine WP.at 1927 rfl ?_
          obtain ⟨q722, H⟩ := H
          obtain ⟨q723, H⟩ := H
          refine wp_cVi (M2 := M_T_trace) coX10 l1 q723 [xi (hI h l0 (l3 + (1 : Int32)).toNatClampNeg)] rfl lv_L_203 mo_T_trace (Nat.le_of_ble_eq_true rfl) ⟨(Nat.le_of_ble_eq_true rfl), (Nat.le_of_ble_eq_true rfl)⟩ (Nat.le_of_ble_eq_true rfl) q722 dL_law_1927 (t_T_trace l1 (hI h l0 (l3 + (1 : Int32)).toNatClampNeg) _ _ H) (fun v725 h724 H => ?_)
          refine WP.at 1930 rfl ?_
          refine wp_aload_n 2 rfl rfl dL_law_1930 ?_
          refine wp_aload_n 0 rfl rfl dL_law_1931 ?_
          refine wp_iload_n 3 rfl rfl dL_law_1932 ?_
          refine wp_iconst (1 : Int32) (by decide) dL_law_1933 ?_
          refine wp_iadd dL_law_1934 ?_
          obtain ⟨q726, H⟩ := H
          refine wp_iaload q9 q726 dL_law_1935 ?_
          refine WP.at 1936 rfl ?_
          obtain ⟨q727, H⟩ := H
          obtain ⟨q728, H⟩ := H
          refine wp_cVi (M2 := M_M_trace) coX11 l2 q728 [xi (hI h724 l0 (l3 + (1 : Int32)).toNatClampNeg)] rfl lv_L_206 mo_M_trace (Nat.le_of_ble_eq_true rfl) ⟨(Nat.le_of_ble_eq_true rfl), (Nat.le_of_ble_eq_true rfl)⟩ (Nat.le_of_ble_eq_true rfl) q727 dL_law_1936 (t_M_trace l2 (hI h724 l0 (l3 + (1 : Int32)).toNatClampNeg) _ _ H) (fun v730 h729 H => ?_)
          refine WP.at 1939 rfl ?_
          refine wp_icmp_eq 1994 (by decide) dL_law_1939 (fun c731 => ?_) (fun c731 => ?_)
          · replace H := H.1 c731
            refine wp_iincN (7 : Int32) (by decide) rfl (Nat.le_of_ble_eq_true rfl) dL_law_1994 (ls' := fun v732 => [(3, xi v732), (0, xr l0), (1, xr l1), (2, xr l2)]) (fun _ => rfl) (fun v732 e733 => ?_)
            replace H := H v732 e733
            refine WP.at 1997 rfl ?_
            refine wp_goto 18 (by decide) dL_law_1997 ?_
            exact WP.pick [1, 2, 3, 0] rfl (hB18 v732 (k) _ H)
          · replace H := H.2 c731
            refine wp_iconst (0 : Int32) (by decide) dL_law_1942 ?_
            exact wp_iret (Or.inl rfl) dL_law_1943 H
        · replace H := H.2.2.2.2.2.2.2.2.2.2.2.2.2.2.2.2.2.2.2.2.2.2.2.2.2.2.2.2.2.2.2.2.2.2.2.2.2.2.2.2.2.2.2.2.2.2.1 c0
          refine wp_aload_n 1 rfl rfl dL_law_1944 ?_
          refine WP.at 1945 rfl ?_
          obtain ⟨q734, H⟩ := H
          obtain ⟨q735, H⟩ := H
          refine wp_cVi (M2 := M_T_finding) coX10 l1 q735 [] rfl lv_L_207 mo_T_finding (Nat.le_of_ble_eq_true rfl) ⟨(Nat.le_of_ble_eq_true rfl), (Nat.le_of_ble_eq_true rfl)⟩ (Nat.le_of_ble_eq_true rfl) q734 dL_law_1945 (t_T_finding l1 _ _ H) (fun v737 h736 H => ?_)
          refine wp_aload_n 2 rfl rfl dL_law_1948 ?_
          refine WP.at 1949 rfl ?_
          obtain ⟨q738, H⟩ := H
          obtain ⟨q739, H⟩ := H
          refine wp_cVi (M2 := M_M_finding) coX11 l2 q739 [] rfl lv_L_210 mo_M_finding (Nat.le_of_ble_eq_true rfl) ⟨(Nat.le_of_ble_eq_true rfl), (Nat.le_of_ble_eq_true rfl)⟩ (Nat.le_of_ble_eq_true rfl) q738 dL_law_1949 (t_M_finding l2 _ _ H) (fun v741 h740 H => ?_)
          refine WP.at 1952 rfl ?_
          refine wp_icmp_eq 1994 (by decide) dL_law_1952 (fun c742 => ?_) (fun c742 => ?_)
          · replace H := H.1 c742
            refine wp_iincN (7 : Int32) (by decide) rfl (Nat.le_of_ble_eq_true rfl) dL_law_1994 (ls' := fun v743 => [(3, xi v743), (0, xr l0), (1, xr l1), (2, xr l2)]) (fun _ => rfl) (fun v743 e744 => ?_)
            replace H := H v743 e744
            refine WP.at 1997 rfl ?_
            refine wp_goto 18 (by decide) dL_law_1997 ?_
            exact WP.pick [1, 2, 3, 0] rfl (hB18 v743 (k) _ H)
          · replace H := H.2 c742
            refine wp_iconst (0 : Int32) (by decide) dL_law_1955 ?_
            exact wp_iret (Or.inl rfl) dL_law_1956 H
        · replace H := H.2.2.2.2.2.2.2.2.2.2.2.2.2.2.2.2.2.2.2.2.2.2.2.2.2.2.2.2.2.2.2.2.2.2.2.2.2.2.2.2.2.2.2.2.2.2.2.1 c0
          refine wp_aload_n 1 rfl rfl dL_law_1957 ?_
          refine wp_aload_n 0 rfl rfl dL_law_1958 ?_
          refine wp_iload_n 3 rfl rfl dL_law_1959 ?_
          refine wp_iconst (1 : Int32) (by decide) dL_law_1960 ?_
          refine wp_iadd dL_law_1961 ?_
          obtain ⟨q745, H⟩ := H
          refine wp_iaload q9 q745 dL_law_1962 ?_
          refine WP.at 1963 rfl ?_
          obtain ⟨q746, H⟩ := H
          obtain ⟨q747, H⟩ := H
          refine wp_cVi (M2 := M_T_count) coX10 l1 q747 [xi (hI h l0 (l3 + (1 : Int32)).toNatClampNeg)] rfl lv_L_211 mo_T_count (Nat.le_of_ble_eq_true rfl) ⟨(Nat.le_of_ble_eq_true rfl), (Nat.le_of_ble_eq_true rfl)⟩ (Nat.le_of_ble_eq_true rfl) q746 dL_law_1963 (t_T_count l1 (hI h l0 (l3 + (1 : Int32)).toNatClampNeg) _ _ H) (fun v749 h748 H => ?_)
          refine WP.at 1966 rfl ?_
          refine wp_aload_n 2 rfl rfl dL_law_1966 ?_
          refine wp_aload_n 0 rfl rfl dL_law_1967 ?_
          refine wp_iload_n 3 rfl rfl dL_law_1968 ?_
          refine wp_iconst (1 : Int32) (by decide) dL_law_1969 ?_
          refine wp_iadd dL_law_1970 ?_
          obtain ⟨q750, H⟩ := H
          refine wp_iaload q9 q750 dL_law_1971 ?_
          refine WP.at 1972 rfl ?_
          obtain ⟨q751, H⟩ := H
          obtain ⟨q752, H⟩ := H
          refine wp_cVi (M2 := M_M_count) coX11 l2 q752 [xi (hI h748 l0 (l3 + (1 : Int32)).toNatClampNeg)] rfl lv_L_214 mo_M_count (Nat.le_of_ble_eq_true rfl) ⟨(Nat.le_of_ble_eq_true rfl), (Nat.le_of_ble_eq_true rfl)⟩ (Nat.le_of_ble_eq_true rfl) q751 dL_law_1972 (t_M_count l2 (hI h748 l0 (l3 + (1 : Int32)).toNatClampNeg) _ _ H) (fun v754 h753 H => ?_)
          refine WP.at 1975 rfl ?_
          refine wp_icmp_eq 1994 (by decide) dL_law_1975 (fun c755 => ?_) (fun c755 => ?_)
          · replace H := H.1 c755
            refine wp_iincN (7 : Int32) (by decide) rfl (Nat.le_of_ble_eq_true rfl) dL_law_1994 (ls' := fun v756 => [(3, xi v756), (0, xr l0), (1, xr l1), (2, xr l2)]) (fun _ => rfl) (fun v756 e757 => ?_)
            replace H := H v756 e757
            refine WP.at 1997 rfl ?_
            refine wp_goto 18 (by decide) dL_law_1997 ?_
            exact WP.pick [1, 2, 3, 0] rfl (hB18 v756 (k) _ H)
          · replace H := H.2 c755
            refine wp_iconst (0 : Int32) (by decide) dL_law_1978 ?_
            exact wp_iret (Or.inl rfl) dL_law_1979 H
        · replace H := H.2.2.2.2.2.2.2.2.2.2.2.2.2.2.2.2.2.2.2.2.2.2.2.2.2.2.2.2.2.2.2.2.2.2.2.2.2.2.2.2.2.2.2.2.2.2.2.2.1 c0
          refine wp_aload_n 1 rfl rfl dL_law_1980 ?_
          refine WP.at 1981 rfl ?_
          obtain ⟨q758, H⟩ := H
          obtain ⟨q759, H⟩ := H
          refine wp_cVl (M2 := M_T_digest) coX10 l1 q759 [] rfl lv_L_215 mo_T_digest (Nat.le_of_ble_eq_true rfl) ⟨(Nat.le_of_ble_eq_true rfl), (Nat.le_of_ble_eq_true rfl)⟩ (Nat.le_of_ble_eq_true rfl) q758 dL_law_1981 (t_T_digest l1 _ _ H) (fun v761 h760 H => ?_)
          refine wp_aload_n 2 rfl rfl dL_law_1984 ?_
          refine WP.at 1985 rfl ?_
          obtain ⟨q762, H⟩ := H
          obtain ⟨q763, H⟩ := H
          refine wp_cVl (M2 := M_M_digest) coX11 l2 q763 [] rfl lv_L_219 mo_M_digest (Nat.le_of_ble_eq_true rfl) ⟨(Nat.le_of_ble_eq_true rfl), (Nat.le_of_ble_eq_true rfl)⟩ (Nat.le_of_ble_eq_true rfl) q762 dL_law_1985 (t_M_digest l2 _ _ H) (fun v765 h764 H => ?_)
          refine wp_lcmp dL_law_1988 ?_
          refine WP.at 1989 rfl ?_
          refine wp_if_eq 1994 (by decide) dL_law_1989 (fun c766 => ?_) (fun c766 => ?_)
          · replace H := H.1 c766
            refine wp_iincN (7 : Int32) (by decide) rfl (Nat.le_of_ble_eq_true rfl) dL_law_1994 (ls' := fun v767 => [(3, xi v767), (0, xr l0), (1, xr l1), (2, xr l2)]) (fun _ => rfl) (fun v767 e768 => ?_)
            replace H := H v767 e768
            refine WP.at 1997 rfl ?_
            refine wp_goto 18 (by decide) dL_law_1997 ?_
            exact WP.pick [1, 2, 3, 0] rfl (hB18 v767 (k) _ H)
          · replace H := H.2 c766
            refine wp_iconst (0 : Int32) (by decide) dL_law_1992 ?_
            exact wp_iret (Or.inl rfl) dL_law_1993 H
      · intro c0
        replace H := H.2.2.2.2.2.2.2.2.2.2.2.2.2.2.2.2.2.2.2.2.2.2.2.2.2.2.2.2.2.2.2.2.2.2.2.2.2.2.2.2.2.2.2.2.2.2.2.2.2 c0
        refine wp_iincN (7 : Int32) (by decide) rfl (Nat.le_of_ble_eq_true rfl) dL_law_1994 (ls' := fun v769 => [(3, xi v769), (0, xr l0), (1, xr l1), (2, xr l2)]) (fun _ => rfl) (fun v769 e770 => ?_)
        replace H := H v769 e770
        refine WP.at 1997 rfl ?_
        refine wp_goto 18 (by decide) dL_law_1997 ?_
        exact WP.pick [1, 2, 3, 0] rfl (hB18 v769 (k) _ H)
def p_L_law (h : xH) (Q : Int32 → xH → Prop) : Prop := (hS h ((11, 0) : xN) = 0) ∧ ∀ h2 : xH, h2 = nW h ((11, 0) : xN) 0 → p_T_init ((11, 0) : xN) h2 (fun h4 : xH => (hS h4 ((12, 0) : xN) = 0) ∧ ∀ h6 : xH, h6 = nW h4 ((12, 0) : xN) 0 → p_M_init ((12, 0) : xN) h6 (fun h8 : xH => (∃ f773, p_L_law_L18 ((1, 0) : xN) ((11, 0) : xN) ((12, 0) : xN) (fun (k771 : Nat) (h772 : xH) => Q (1 : Int32) h772) Q f773 (0 : Int32) (233) h8)))
set_option maxRecDepth 100000 in
set_option maxHeartbeats 4000000 in
theorem t_L_law (h : xH) (Q : Int32 → xH → Prop) (H : p_L_law h Q) : WP M_L_law 0 [(0, xr ((1, 0) : xN))] [] h 0 (qi Q) := by
  unfold p_L_law at H
  obtain ⟨q1, H⟩ := H
  refine wp_new coX10 ((11, 0) : xN) rfl q1 dfX10 (Nat.le_of_ble_eq_true rfl) (Nat.le_of_ble_eq_true rfl) cl_L_7.1 cl_L_7.2.1 cl_L_7.2.2 dL_law_0 ?_
  refine wp_nh (fun h2 e3 => ?_)
  replace H := H h2 e3
  refine wp_dup rfl dL_law_3 ?_
  refine WP.at 4 rfl ?_
  refine wp_cI (M2 := M_T_init) ((11, 0) : xN) (Nat.le_of_ble_eq_true rfl) [] rfl lI_L_9 ⟨rfl, rfl⟩ mo_T_init (Nat.le_of_ble_eq_true rfl) ⟨(Nat.le_of_ble_eq_true rfl), (Nat.le_of_ble_eq_true rfl)⟩ (Nat.le_of_ble_eq_true rfl) (Nat.le_of_ble_eq_true rfl) dL_law_4 (t_T_init ((11, 0) : xN) _ _ H) (fun h4 H => ?_)
  refine wp_astore_n 1 rfl (Nat.le_of_ble_eq_true rfl) dL_law_7 (ls' := [(1, xr ((11, 0) : xN)), (0, xr ((1, 0) : xN))]) rfl ?_
  obtain ⟨q5, H⟩ := H
  refine wp_new coX11 ((12, 0) : xN) rfl q5 dfX11 (Nat.le_of_ble_eq_true rfl) (Nat.le_of_ble_eq_true rfl) cl_L_10.1 cl_L_10.2.1 cl_L_10.2.2 dL_law_8 ?_
  refine wp_nh (fun h6 e7 => ?_)
  replace H := H h6 e7
  refine wp_dup rfl dL_law_11 ?_
  refine WP.at 12 rfl ?_
  refine wp_cI (M2 := M_M_init) ((12, 0) : xN) (Nat.le_of_ble_eq_true rfl) [] rfl lI_L_12 ⟨rfl, rfl⟩ mo_M_init (Nat.le_of_ble_eq_true rfl) ⟨(Nat.le_of_ble_eq_true rfl), (Nat.le_of_ble_eq_true rfl)⟩ (Nat.le_of_ble_eq_true rfl) (Nat.le_of_ble_eq_true rfl) dL_law_12 (t_M_init ((12, 0) : xN) _ _ H) (fun h8 H => ?_)
  refine WP.at 15 rfl ?_
  refine wp_astore_n 2 rfl (Nat.le_of_ble_eq_true rfl) dL_law_15 (ls' := [(2, xr ((12, 0) : xN)), (1, xr ((11, 0) : xN)), (0, xr ((1, 0) : xN))]) rfl ?_
  refine wp_iconst (0 : Int32) (by decide) dL_law_16 ?_
  refine wp_istore_n 3 rfl (Nat.le_of_ble_eq_true rfl) dL_law_17 (ls' := [(3, xi (0 : Int32)), (2, xr ((12, 0) : xN)), (1, xr ((11, 0) : xN)), (0, xr ((1, 0) : xN))]) rfl ?_
  refine WP.at 18 rfl ?_
  obtain ⟨f773, H⟩ := H
  refine WP.pick [3, 2, 1, 0] rfl (t_L_law_L18 ((1, 0) : xN) ((11, 0) : xN) ((12, 0) : xN) _ Q ?_ f773 (0 : Int32) (233) _ H)
  · intro k771 h772 H
    refine wp_iconst (1 : Int32) (by decide) dL_law_2000 ?_
    exact wp_iret (Or.inr rfl) dL_law_2001 H
