def p_M_digest_L31 (l0 : xN) (l3 : Int32) (K31_66 : Int64 → xH → Prop) (Q : Int64 → xH → Prop) : Nat → Int64 → Int32 → xH → Prop
  | 0, _, _, _ => False
  | f + 1, l1, l4, h => (kd l0.1 = (1, 10)) ∧ (kd (hR h l0 2).1 = (2, 0)) ∧ (vp_in l3 (hS h (hR h l0 2) - 1)) ∧ (((hI h (hR h l0 2) l3.toNatClampNeg) < l4 → K31_66 l1 h) ∧ (¬ (hI h (hR h l0 2) l3.toNatClampNeg) < l4 → p_M_raceAt l0 l3 ((10 : Int32) + l4) h (fun (v12 : Int32) (h11 : xH) => ∀ v13 : Int64, v13 = ((31 : Int64) * l1) + (v12.toInt64) → ∀ v15 : Int32, v15 = l4 + (1 : Int32) → (p_M_digest_L31 l0 l3 K31_66 Q f) v13 v15 h11)))
set_option maxRecDepth 100000 in
set_option maxHeartbeats 4000000 in
theorem t_M_digest_L31 (l0 : xN) (l3 : Int32) (K31_66 : Int64 → xH → Prop) (Q : Int64 → xH → Prop) (hK31_66 : ∀ (x1 : Int64) (h : xH), K31_66 x1 h → WP M_M_digest 66 [(0, xr l0), (1, xl x1), (3, xi l3)] [] h 0 (ql Q)) : ∀ (f : Nat) (l1 : Int64) (l4 : Int32) (h : xH), p_M_digest_L31 l0 l3 K31_66 Q f l1 l4 h → WP M_M_digest 31 [(0, xr l0), (1, xl l1), (3, xi l3), (4, xi l4)] [] h 0 (ql Q) := by
  intro f
  induction f with
  | zero => exact fun _ _ _ H => H.elim
  | succ f hB31 =>
    intro l1 l4 h H
    unfold p_M_digest_L31 at H
    refine wp_iload rfl dX11_digest_31 ?_
    refine wp_aload_n 0 rfl rfl dX11_digest_33 ?_
    obtain ⟨q7, H⟩ := H
    refine wp_getr coX11 2 (Nat.le_of_ble_eq_true rfl) fl_X11_13 rfl q7 dX11_digest_34 ?_
    refine wp_iload_n 3 rfl rfl dX11_digest_37 ?_
    obtain ⟨q8, H⟩ := H
    obtain ⟨q9, H⟩ := H
    refine wp_iaload q8 q9 dX11_digest_38 ?_
    refine WP.at 39 rfl ?_
    refine wp_icmp_gt 66 (by decide) dX11_digest_39 (fun c10 => ?_) (fun c10 => ?_)
    · replace H := H.1 c10
      exact WP.pick [0, 1, 2] rfl (hK31_66 l1 _ H)
    · replace H := H.2 c10
      refine wp_ldc2 (31 : Int64) cL_X11_401 dX11_digest_42 ?_
      refine wp_lload_n 1 rfl rfl dX11_digest_45 ?_
      refine wp_lmul dX11_digest_46 ?_
      refine wp_aload_n 0 rfl rfl dX11_digest_47 ?_
      refine wp_iload_n 3 rfl rfl dX11_digest_48 ?_
      refine wp_bipush (10 : Int32) (by decide) dX11_digest_49 ?_
      refine wp_iload rfl dX11_digest_51 ?_
      refine WP.at 53 rfl ?_
      refine wp_iadd dX11_digest_53 ?_
      refine WP.at 54 rfl ?_
      refine wp_cVi (M2 := M_M_raceAt) coX11 l0 q7 [xi l3, xi ((10 : Int32) + l4)] rfl lv_X11_403 mo_M_raceAt (Nat.le_of_ble_eq_true rfl) ⟨(Nat.le_of_ble_eq_true rfl), (Nat.le_of_ble_eq_true rfl)⟩ (Nat.le_of_ble_eq_true rfl) (Nat.le_of_ble_eq_true rfl) dX11_digest_54 (t_M_raceAt l0 l3 ((10 : Int32) + l4) _ _ H) (fun v12 h11 H => ?_)
      refine wp_i2l dX11_digest_57 ?_
      refine wp_ladd dX11_digest_58 ?_
      refine wp_nml (fun v13 e14 => ?_)
      replace H := H v13 e14
      refine wp_lstore_n 1 rfl (Nat.le_of_ble_eq_true rfl) dX11_digest_59 (ls' := [(1, xl v13), (0, xr l0), (3, xi l3), (4, xi l4)]) rfl ?_
      refine wp_iincN (1 : Int32) (by decide) rfl (Nat.le_of_ble_eq_true rfl) dX11_digest_60 (ls' := fun v15 => [(4, xi v15), (1, xl v13), (0, xr l0), (3, xi l3)]) (fun _ => rfl) (fun v15 e16 => ?_)
      replace H := H v15 e16
      refine WP.at 63 rfl ?_
      refine wp_goto 31 (by decide) dX11_digest_63 ?_
      exact WP.pick [2, 1, 3, 0] rfl (hB31 v13 v15 _ H)
def p_M_digest_L6 (l0 : xN) (K6_90 : Int64 → xH → Prop) (Q : Int64 → xH → Prop) : Nat → Int64 → Int32 → xH → Prop
  | 0, _, _, _ => False
  | f + 1, l1, l3, h => (kd l0.1 = (1, 10)) ∧ (((hI h l0 0) ≤ l3 → K6_90 l1 h) ∧ (¬ (hI h l0 0) ≤ l3 → (kd (hR h l0 1).1 = (2, 0)) ∧ (vp_in l3 (hS h (hR h l0 1) - 1)) ∧ ∀ v5 : Int64, v5 = ((31 : Int64) * l1) + ((hI h (hR h l0 1) l3.toNatClampNeg).toInt64) → (∃ f25, p_M_digest_L31 l0 l3 (fun (x17 : Int64) (h18 : xH) => (kd (hR h18 l0 16).1 = (2, 0)) ∧ (vp_in (((4 : Int32) * l3) + (3 : Int32)) (hS h18 (hR h18 l0 16) - 1)) ∧ ∀ v21 : Int64, v21 = ((31 : Int64) * x17) + ((hI h18 (hR h18 l0 16) (((4 : Int32) * l3) + (3 : Int32)).toNatClampNeg).toInt64) → ∀ v23 : Int32, v23 = l3 + (1 : Int32) → (p_M_digest_L6 l0 K6_90 Q f) v21 v23 h18) Q f25 v5 (1 : Int32) h)))
set_option maxRecDepth 100000 in
set_option maxHeartbeats 4000000 in
theorem t_M_digest_L6 (l0 : xN) (K6_90 : Int64 → xH → Prop) (Q : Int64 → xH → Prop) (hK6_90 : ∀ (x1 : Int64) (h : xH), K6_90 x1 h → WP M_M_digest 90 [(0, xr l0), (1, xl x1)] [] h 0 (ql Q)) : ∀ (f : Nat) (l1 : Int64) (l3 : Int32) (h : xH), p_M_digest_L6 l0 K6_90 Q f l1 l3 h → WP M_M_digest 6 [(0, xr l0), (1, xl l1), (3, xi l3)] [] h 0 (ql Q) := by
  intro f
  induction f with
  | zero => exact fun _ _ _ H => H.elim
  | succ f hB6 =>
    intro l1 l3 h H
    unfold p_M_digest_L6 at H
    refine wp_iload_n 3 rfl rfl dX11_digest_6 ?_
    refine wp_aload_n 0 rfl rfl dX11_digest_7 ?_
    obtain ⟨q1, H⟩ := H
    refine wp_geti coX11 0 (Nat.le_of_ble_eq_true rfl) fl_X11_168 rfl q1 dX11_digest_8 ?_
    refine WP.at 11 rfl ?_
    refine wp_icmp_ge 90 (by decide) dX11_digest_11 (fun c2 => ?_) (fun c2 => ?_)
    · replace H := H.1 c2
      exact WP.pick [0, 1] rfl (hK6_90 l1 _ H)
    · replace H := H.2 c2
      refine wp_ldc2 (31 : Int64) cL_X11_401 dX11_digest_14 ?_
      refine wp_lload_n 1 rfl rfl dX11_digest_17 ?_
      refine wp_lmul dX11_digest_18 ?_
      refine wp_aload_n 0 rfl rfl dX11_digest_19 ?_
      refine wp_getr coX11 1 (Nat.le_of_ble_eq_true rfl) fl_X11_7 rfl q1 dX11_digest_20 ?_
      refine wp_iload_n 3 rfl rfl dX11_digest_23 ?_
      obtain ⟨q3, H⟩ := H
      obtain ⟨q4, H⟩ := H
      refine wp_iaload q3 q4 dX11_digest_24 ?_
      refine WP.at 25 rfl ?_
      refine wp_i2l dX11_digest_25 ?_
      refine wp_ladd dX11_digest_26 ?_
      refine wp_nml (fun v5 e6 => ?_)
      replace H := H v5 e6
      refine wp_lstore_n 1 rfl (Nat.le_of_ble_eq_true rfl) dX11_digest_27 (ls' := [(1, xl v5), (0, xr l0), (3, xi l3)]) rfl ?_
      refine wp_iconst (1 : Int32) (by decide) dX11_digest_28 ?_
      refine wp_istore (Nat.le_of_ble_eq_true rfl) dX11_digest_29 (ls' := [(4, xi (1 : Int32)), (1, xl v5), (0, xr l0), (3, xi l3)]) rfl ?_
      refine WP.at 31 rfl ?_
      obtain ⟨f25, H⟩ := H
      refine WP.pick [2, 1, 3, 0] rfl (t_M_digest_L31 l0 l3 _ Q ?_ f25 v5 (1 : Int32) _ H)
      · intro x17 h18 H
        refine wp_ldc2 (31 : Int64) cL_X11_401 dX11_digest_66 ?_
        refine wp_lload_n 1 rfl rfl dX11_digest_69 ?_
        refine wp_lmul dX11_digest_70 ?_
        refine wp_aload_n 0 rfl rfl dX11_digest_71 ?_
        refine wp_getr coX11 16 (Nat.le_of_ble_eq_true rfl) fl_X11_50 rfl q1 dX11_digest_72 ?_
        refine wp_iconst (4 : Int32) (by decide) dX11_digest_75 ?_
        refine wp_iload_n 3 rfl rfl dX11_digest_76 ?_
        refine WP.at 77 rfl ?_
        refine wp_imul dX11_digest_77 ?_
        refine wp_iconst (3 : Int32) (by decide) dX11_digest_78 ?_
        refine wp_iadd dX11_digest_79 ?_
        obtain ⟨q19, H⟩ := H
        obtain ⟨q20, H⟩ := H
        refine wp_iaload q19 q20 dX11_digest_80 ?_
        refine wp_i2l dX11_digest_81 ?_
        refine wp_ladd dX11_digest_82 ?_
        refine wp_nml (fun v21 e22 => ?_)
        replace H := H v21 e22
        refine wp_lstore_n 1 rfl (Nat.le_of_ble_eq_true rfl) dX11_digest_83 (ls' := [(1, xl v21), (0, xr l0), (3, xi l3)]) rfl ?_
        refine wp_iincN (1 : Int32) (by decide) rfl (Nat.le_of_ble_eq_true rfl) dX11_digest_84 (ls' := fun v23 => [(3, xi v23), (1, xl v21), (0, xr l0)]) (fun _ => rfl) (fun v23 e24 => ?_)
        replace H := H v23 e24
        refine WP.at 87 rfl ?_
        refine WP.at 87 rfl ?_
        refine wp_goto 6 (by decide) dX11_digest_87 ?_
        exact WP.pick [2, 1, 0] rfl (hB6 v21 v23 _ H)
def p_M_digest_L119 (l0 : xN) (l3 : Int32) (K119_147 : Int64 → xH → Prop) (Q : Int64 → xH → Prop) : Nat → Int64 → Int32 → xH → Prop
  | 0, _, _, _ => False
  | f + 1, l1, l4, h => (((11 : Int32) ≤ l4 → K119_147 l1 h) ∧ (¬ (11 : Int32) ≤ l4 → (kd l0.1 = (1, 10)) ∧ p_M_book l0 l3 l4 h (fun (v40 : Int32) (h39 : xH) => ∀ v41 : Int64, v41 = ((31 : Int64) * l1) + (v40.toInt64) → ∀ v43 : Int32, v43 = l4 + (1 : Int32) → (p_M_digest_L119 l0 l3 K119_147 Q f) v41 v43 h39)))
set_option maxRecDepth 100000 in
set_option maxHeartbeats 4000000 in
theorem t_M_digest_L119 (l0 : xN) (l3 : Int32) (K119_147 : Int64 → xH → Prop) (Q : Int64 → xH → Prop) (hK119_147 : ∀ (x1 : Int64) (h : xH), K119_147 x1 h → WP M_M_digest 147 [(0, xr l0), (1, xl x1), (3, xi l3)] [] h 0 (ql Q)) : ∀ (f : Nat) (l1 : Int64) (l4 : Int32) (h : xH), p_M_digest_L119 l0 l3 K119_147 Q f l1 l4 h → WP M_M_digest 119 [(0, xr l0), (1, xl l1), (3, xi l3), (4, xi l4)] [] h 0 (ql Q) := by
  intro f
  induction f with
  | zero => exact fun _ _ _ H => H.elim
  | succ f hB119 =>
    intro l1 l4 h H
    unfold p_M_digest_L119 at H
    refine wp_iload rfl dX11_digest_119 ?_
    refine wp_bipush (11 : Int32) (by decide) dX11_digest_121 ?_
    refine WP.at 123 rfl ?_
    refine wp_icmp_ge 147 (by decide) dX11_digest_123 (fun c37 => ?_) (fun c37 => ?_)
    · replace H := H.1 c37
      exact WP.pick [0, 1, 2] rfl (hK119_147 l1 _ H)
    · replace H := H.2 c37
      refine wp_ldc2 (31 : Int64) cL_X11_401 dX11_digest_126 ?_
      refine wp_lload_n 1 rfl rfl dX11_digest_129 ?_
      refine wp_lmul dX11_digest_130 ?_
      refine wp_aload_n 0 rfl rfl dX11_digest_131 ?_
      refine wp_iload_n 3 rfl rfl dX11_digest_132 ?_
      refine wp_iload rfl dX11_digest_133 ?_
      refine WP.at 135 rfl ?_
      obtain ⟨q38, H⟩ := H
      refine wp_cVi (M2 := M_M_book) coX11 l0 q38 [xi l3, xi l4] rfl lv_X11_406 mo_M_book (Nat.le_of_ble_eq_true rfl) ⟨(Nat.le_of_ble_eq_true rfl), (Nat.le_of_ble_eq_true rfl)⟩ (Nat.le_of_ble_eq_true rfl) (Nat.le_of_ble_eq_true rfl) dX11_digest_135 (t_M_book l0 l3 l4 _ _ H) (fun v40 h39 H => ?_)
      refine WP.at 138 rfl ?_
      refine wp_i2l dX11_digest_138 ?_
      refine wp_ladd dX11_digest_139 ?_
      refine wp_nml (fun v41 e42 => ?_)
      replace H := H v41 e42
      refine wp_lstore_n 1 rfl (Nat.le_of_ble_eq_true rfl) dX11_digest_140 (ls' := [(1, xl v41), (0, xr l0), (3, xi l3), (4, xi l4)]) rfl ?_
      refine wp_iincN (1 : Int32) (by decide) rfl (Nat.le_of_ble_eq_true rfl) dX11_digest_141 (ls' := fun v43 => [(4, xi v43), (1, xl v41), (0, xr l0), (3, xi l3)]) (fun _ => rfl) (fun v43 e44 => ?_)
      replace H := H v43 e44
      refine WP.at 144 rfl ?_
      refine wp_goto 119 (by decide) dX11_digest_144 ?_
      exact WP.pick [2, 1, 3, 0] rfl (hB119 v41 v43 _ H)
def p_M_digest_L92 (l0 : xN) (K92_153 : Int64 → xH → Prop) (Q : Int64 → xH → Prop) : Nat → Int64 → Int32 → xH → Prop
  | 0, _, _, _ => False
  | f + 1, l1, l3, h => (((49 : Int32) ≤ l3 → K92_153 l1 h) ∧ (¬ (49 : Int32) ≤ l3 → (kd l0.1 = (1, 10)) ∧ (kd (hR h l0 6).1 = (3, 0)) ∧ (vp_in l3 (hS h (hR h l0 6) - 1)) ∧ (((hI h (hR h l0 6) l3.toNatClampNeg) = 0 → ∀ v33 : Int32, v33 = l3 + (1 : Int32) → (p_M_digest_L92 l0 K92_153 Q f) l1 v33 h) ∧ (¬ (hI h (hR h l0 6) l3.toNatClampNeg) = 0 → ∀ v35 : Int64, v35 = ((31 : Int64) * l1) + (l3.toInt64) → (∃ f49, p_M_digest_L119 l0 l3 (fun (x45 : Int64) (h46 : xH) => ∀ v47 : Int32, v47 = l3 + (1 : Int32) → (p_M_digest_L92 l0 K92_153 Q f) x45 v47 h46) Q f49 v35 (0 : Int32) h)))))
set_option maxRecDepth 100000 in
set_option maxHeartbeats 4000000 in
theorem t_M_digest_L92 (l0 : xN) (K92_153 : Int64 → xH → Prop) (Q : Int64 → xH → Prop) (hK92_153 : ∀ (x1 : Int64) (h : xH), K92_153 x1 h → WP M_M_digest 153 [(0, xr l0), (1, xl x1)] [] h 0 (ql Q)) : ∀ (f : Nat) (l1 : Int64) (l3 : Int32) (h : xH), p_M_digest_L92 l0 K92_153 Q f l1 l3 h → WP M_M_digest 92 [(0, xr l0), (1, xl l1), (3, xi l3)] [] h 0 (ql Q) := by
  intro f
  induction f with
  | zero => exact fun _ _ _ H => H.elim
  | succ f hB92 =>
    intro l1 l3 h H
    unfold p_M_digest_L92 at H
    refine wp_iload_n 3 rfl rfl dX11_digest_92 ?_
    refine wp_bipush (49 : Int32) (by decide) dX11_digest_93 ?_
    refine WP.at 95 rfl ?_
    refine wp_icmp_ge 153 (by decide) dX11_digest_95 (fun c28 => ?_) (fun c28 => ?_)
    · replace H := H.1 c28
      exact WP.pick [0, 1] rfl (hK92_153 l1 _ H)
    · replace H := H.2 c28
      refine wp_aload_n 0 rfl rfl dX11_digest_98 ?_
      obtain ⟨q29, H⟩ := H
      refine wp_getr coX11 6 (Nat.le_of_ble_eq_true rfl) fl_X11_26 rfl q29 dX11_digest_99 ?_
      refine wp_iload_n 3 rfl rfl dX11_digest_102 ?_
      obtain ⟨q30, H⟩ := H
      obtain ⟨q31, H⟩ := H
      refine wp_baload q30 q31 dX11_digest_103 ?_
      refine WP.at 104 rfl ?_
      refine wp_if_eq 147 (by decide) dX11_digest_104 (fun c32 => ?_) (fun c32 => ?_)
      · replace H := H.1 c32
        refine wp_iincN (1 : Int32) (by decide) rfl (Nat.le_of_ble_eq_true rfl) dX11_digest_147 (ls' := fun v33 => [(3, xi v33), (0, xr l0), (1, xl l1)]) (fun _ => rfl) (fun v33 e34 => ?_)
        replace H := H v33 e34
        refine WP.at 150 rfl ?_
        refine wp_goto 92 (by decide) dX11_digest_150 ?_
        exact WP.pick [1, 2, 0] rfl (hB92 l1 v33 _ H)
      · replace H := H.2 c32
        refine wp_ldc2 (31 : Int64) cL_X11_401 dX11_digest_107 ?_
        refine wp_lload_n 1 rfl rfl dX11_digest_110 ?_
        refine wp_lmul dX11_digest_111 ?_
        refine wp_iload_n 3 rfl rfl dX11_digest_112 ?_
        refine wp_i2l dX11_digest_113 ?_
        refine wp_ladd dX11_digest_114 ?_
        refine wp_nml (fun v35 e36 => ?_)
        replace H := H v35 e36
        refine wp_lstore_n 1 rfl (Nat.le_of_ble_eq_true rfl) dX11_digest_115 (ls' := [(1, xl v35), (0, xr l0), (3, xi l3)]) rfl ?_
        refine WP.at 116 rfl ?_
        refine wp_iconst (0 : Int32) (by decide) dX11_digest_116 ?_
        refine wp_istore (Nat.le_of_ble_eq_true rfl) dX11_digest_117 (ls' := [(4, xi (0 : Int32)), (1, xl v35), (0, xr l0), (3, xi l3)]) rfl ?_
        refine WP.at 119 rfl ?_
        obtain ⟨f49, H⟩ := H
        refine WP.pick [2, 1, 3, 0] rfl (t_M_digest_L119 l0 l3 _ Q ?_ f49 v35 (0 : Int32) _ H)
        · intro x45 h46 H
          refine wp_iincN (1 : Int32) (by decide) rfl (Nat.le_of_ble_eq_true rfl) dX11_digest_147 (ls' := fun v47 => [(3, xi v47), (0, xr l0), (1, xl x45)]) (fun _ => rfl) (fun v47 e48 => ?_)
          replace H := H v47 e48
          refine WP.at 150 rfl ?_
          refine wp_goto 92 (by decide) dX11_digest_150 ?_
          exact WP.pick [1, 2, 0] rfl (hB92 x45 v47 _ H)
def p_M_digest_L155 (l0 : xN) (K155_225 : Int64 → xH → Prop) (Q : Int64 → xH → Prop) : Nat → Int64 → Int32 → xH → Prop
  | 0, _, _, _ => False
  | f + 1, l1, l3, h => (kd l0.1 = (1, 10)) ∧ (((hI h l0 23) ≤ l3 → K155_225 l1 h) ∧ (¬ (hI h l0 23) ≤ l3 → (kd (hR h l0 25).1 = (2, 0)) ∧ (vp_in l3 (hS h (hR h l0 25) - 1)) ∧ ∀ v56 : Int64, v56 = ((31 : Int64) * l1) + ((hI h (hR h l0 25) l3.toNatClampNeg).toInt64) → (kd (hR h l0 26).1 = (2, 0)) ∧ (vp_in l3 (hS h (hR h l0 26) - 1)) ∧ ∀ v60 : Int64, v60 = ((31 : Int64) * v56) + ((hI h (hR h l0 26) l3.toNatClampNeg).toInt64) → (kd (hR h l0 28).1 = (2, 0)) ∧ (vp_in l3 (hS h (hR h l0 28) - 1)) ∧ ∀ v64 : Int64, v64 = ((31 : Int64) * v60) + ((hI h (hR h l0 28) l3.toNatClampNeg).toInt64) → (kd (hR h l0 29).1 = (2, 0)) ∧ (vp_in l3 (hS h (hR h l0 29) - 1)) ∧ ∀ v68 : Int64, v68 = ((31 : Int64) * v64) + ((hI h (hR h l0 29) l3.toNatClampNeg).toInt64) → ∀ v70 : Int32, v70 = l3 + (1 : Int32) → (p_M_digest_L155 l0 K155_225 Q f) v68 v70 h))
set_option maxRecDepth 100000 in
set_option maxHeartbeats 4000000 in
theorem t_M_digest_L155 (l0 : xN) (K155_225 : Int64 → xH → Prop) (Q : Int64 → xH → Prop) (hK155_225 : ∀ (x1 : Int64) (h : xH), K155_225 x1 h → WP M_M_digest 225 [(0, xr l0), (1, xl x1)] [] h 0 (ql Q)) : ∀ (f : Nat) (l1 : Int64) (l3 : Int32) (h : xH), p_M_digest_L155 l0 K155_225 Q f l1 l3 h → WP M_M_digest 155 [(0, xr l0), (1, xl l1), (3, xi l3)] [] h 0 (ql Q) := by
  intro f
  induction f with
  | zero => exact fun _ _ _ H => H.elim
  | succ f hB155 =>
    intro l1 l3 h H
    unfold p_M_digest_L155 at H
    refine wp_iload_n 3 rfl rfl dX11_digest_155 ?_
    refine wp_aload_n 0 rfl rfl dX11_digest_156 ?_
    obtain ⟨q52, H⟩ := H
    refine wp_geti coX11 23 (Nat.le_of_ble_eq_true rfl) fl_X11_205 rfl q52 dX11_digest_157 ?_
    refine WP.at 160 rfl ?_
    refine wp_icmp_ge 225 (by decide) dX11_digest_160 (fun c53 => ?_) (fun c53 => ?_)
    · replace H := H.1 c53
      exact WP.pick [0, 1] rfl (hK155_225 l1 _ H)
    · replace H := H.2 c53
      refine wp_ldc2 (31 : Int64) cL_X11_401 dX11_digest_163 ?_
      refine wp_lload_n 1 rfl rfl dX11_digest_166 ?_
      refine wp_lmul dX11_digest_167 ?_
      refine wp_aload_n 0 rfl rfl dX11_digest_168 ?_
      refine wp_getr coX11 25 (Nat.le_of_ble_eq_true rfl) fl_X11_71 rfl q52 dX11_digest_169 ?_
      refine wp_iload_n 3 rfl rfl dX11_digest_172 ?_
      obtain ⟨q54, H⟩ := H
      obtain ⟨q55, H⟩ := H
      refine wp_iaload q54 q55 dX11_digest_173 ?_
      refine WP.at 174 rfl ?_
      refine wp_i2l dX11_digest_174 ?_
      refine wp_ladd dX11_digest_175 ?_
      refine wp_nml (fun v56 e57 => ?_)
      replace H := H v56 e57
      refine wp_lstore_n 1 rfl (Nat.le_of_ble_eq_true rfl) dX11_digest_176 (ls' := [(1, xl v56), (0, xr l0), (3, xi l3)]) rfl ?_
      refine wp_ldc2 (31 : Int64) cL_X11_401 dX11_digest_177 ?_
      refine wp_lload_n 1 rfl rfl dX11_digest_180 ?_
      refine wp_lmul dX11_digest_181 ?_
      refine wp_aload_n 0 rfl rfl dX11_digest_182 ?_
      refine wp_getr coX11 26 (Nat.le_of_ble_eq_true rfl) fl_X11_74 rfl q52 dX11_digest_183 ?_
      refine WP.at 186 rfl ?_
      refine wp_iload_n 3 rfl rfl dX11_digest_186 ?_
      obtain ⟨q58, H⟩ := H
      obtain ⟨q59, H⟩ := H
      refine wp_iaload q58 q59 dX11_digest_187 ?_
      refine wp_i2l dX11_digest_188 ?_
      refine wp_ladd dX11_digest_189 ?_
      refine wp_nml (fun v60 e61 => ?_)
      replace H := H v60 e61
      refine wp_lstore_n 1 rfl (Nat.le_of_ble_eq_true rfl) dX11_digest_190 (ls' := [(1, xl v60), (0, xr l0), (3, xi l3)]) rfl ?_
      refine wp_ldc2 (31 : Int64) cL_X11_401 dX11_digest_191 ?_
      refine wp_lload_n 1 rfl rfl dX11_digest_194 ?_
      refine wp_lmul dX11_digest_195 ?_
      refine WP.at 196 rfl ?_
      refine wp_aload_n 0 rfl rfl dX11_digest_196 ?_
      refine wp_getr coX11 28 (Nat.le_of_ble_eq_true rfl) fl_X11_80 rfl q52 dX11_digest_197 ?_
      refine wp_iload_n 3 rfl rfl dX11_digest_200 ?_
      obtain ⟨q62, H⟩ := H
      obtain ⟨q63, H⟩ := H
      refine wp_iaload q62 q63 dX11_digest_201 ?_
      refine wp_i2l dX11_digest_202 ?_
      refine wp_ladd dX11_digest_203 ?_
      refine wp_nml (fun v64 e65 => ?_)
      replace H := H v64 e65
      refine wp_lstore_n 1 rfl (Nat.le_of_ble_eq_true rfl) dX11_digest_204 (ls' := [(1, xl v64), (0, xr l0), (3, xi l3)]) rfl ?_
      refine wp_ldc2 (31 : Int64) cL_X11_401 dX11_digest_205 ?_
      refine WP.at 208 rfl ?_
      refine wp_lload_n 1 rfl rfl dX11_digest_208 ?_
      refine wp_lmul dX11_digest_209 ?_
      refine wp_aload_n 0 rfl rfl dX11_digest_210 ?_
      refine wp_getr coX11 29 (Nat.le_of_ble_eq_true rfl) fl_X11_83 rfl q52 dX11_digest_211 ?_
      refine wp_iload_n 3 rfl rfl dX11_digest_214 ?_
      obtain ⟨q66, H⟩ := H
      obtain ⟨q67, H⟩ := H
      refine wp_iaload q66 q67 dX11_digest_215 ?_
      refine wp_i2l dX11_digest_216 ?_
      refine wp_ladd dX11_digest_217 ?_
      refine WP.at 218 rfl ?_
      refine wp_nml (fun v68 e69 => ?_)
      replace H := H v68 e69
      refine wp_lstore_n 1 rfl (Nat.le_of_ble_eq_true rfl) dX11_digest_218 (ls' := [(1, xl v68), (0, xr l0), (3, xi l3)]) rfl ?_
      refine wp_iincN (1 : Int32) (by decide) rfl (Nat.le_of_ble_eq_true rfl) dX11_digest_219 (ls' := fun v70 => [(3, xi v70), (1, xl v68), (0, xr l0)]) (fun _ => rfl) (fun v70 e71 => ?_)
      replace H := H v70 e71
      refine WP.at 222 rfl ?_
      refine wp_goto 155 (by decide) dX11_digest_222 ?_
      exact WP.pick [2, 1, 0] rfl (hB155 v68 v70 _ H)
def p_M_digest (l0 : xN) (h : xH) (Q : Int64 → xH → Prop) : Prop := (∃ f77, p_M_digest_L6 l0 (fun (x26 : Int64) (h27 : xH) => (∃ f76, p_M_digest_L92 l0 (fun (x50 : Int64) (h51 : xH) => (∃ f75, p_M_digest_L155 l0 (fun (x72 : Int64) (h73 : xH) => (kd l0.1 = (1, 10)) ∧ Q (((31 : Int64) * x72) + ((hI h73 l0 22).toInt64)) h73) Q f75 x50 (0 : Int32) h51)) Q f76 x26 (0 : Int32) h27)) Q f77 (17 : Int64) (0 : Int32) h)
set_option maxRecDepth 100000 in
set_option maxHeartbeats 4000000 in
theorem t_M_digest (l0 : xN) (h : xH) (Q : Int64 → xH → Prop) (H : p_M_digest l0 h Q) : WP M_M_digest 0 [(0, xr l0)] [] h 0 (ql Q) := by
  unfold p_M_digest at H
  refine wp_ldc2 (17 : Int64) cL_X11_399 dX11_digest_0 ?_
  refine wp_lstore_n 1 rfl (Nat.le_of_ble_eq_true rfl) dX11_digest_3 (ls' := [(1, xl (17 : Int64)), (0, xr l0)]) rfl ?_
  refine wp_iconst (0 : Int32) (by decide) dX11_digest_4 ?_
  refine wp_istore_n 3 rfl (Nat.le_of_ble_eq_true rfl) dX11_digest_5 (ls' := [(3, xi (0 : Int32)), (1, xl (17 : Int64)), (0, xr l0)]) rfl ?_
  refine WP.at 6 rfl ?_
  obtain ⟨f77, H⟩ := H
  refine WP.pick [2, 1, 0] rfl (t_M_digest_L6 l0 _ Q ?_ f77 (17 : Int64) (0 : Int32) _ H)
  · intro x26 h27 H
    refine wp_iconst (0 : Int32) (by decide) dX11_digest_90 ?_
    refine wp_istore_n 3 rfl (Nat.le_of_ble_eq_true rfl) dX11_digest_91 (ls' := [(3, xi (0 : Int32)), (0, xr l0), (1, xl x26)]) rfl ?_
    refine WP.at 92 rfl ?_
    obtain ⟨f76, H⟩ := H
    refine WP.pick [1, 2, 0] rfl (t_M_digest_L92 l0 _ Q ?_ f76 x26 (0 : Int32) _ H)
    · intro x50 h51 H
      refine wp_iconst (0 : Int32) (by decide) dX11_digest_153 ?_
      refine wp_istore_n 3 rfl (Nat.le_of_ble_eq_true rfl) dX11_digest_154 (ls' := [(3, xi (0 : Int32)), (0, xr l0), (1, xl x50)]) rfl ?_
      refine WP.at 155 rfl ?_
      obtain ⟨f75, H⟩ := H
      refine WP.pick [1, 2, 0] rfl (t_M_digest_L155 l0 _ Q ?_ f75 x50 (0 : Int32) _ H)
      · intro x72 h73 H
        refine wp_ldc2 (31 : Int64) cL_X11_401 dX11_digest_225 ?_
        refine wp_lload_n 1 rfl rfl dX11_digest_228 ?_
        refine wp_lmul dX11_digest_229 ?_
        refine wp_aload_n 0 rfl rfl dX11_digest_230 ?_
        obtain ⟨q74, H⟩ := H
        refine wp_geti coX11 22 (Nat.le_of_ble_eq_true rfl) fl_X11_252 rfl q74 dX11_digest_231 ?_
        refine wp_i2l dX11_digest_234 ?_
        refine wp_ladd dX11_digest_235 ?_
        refine WP.at 236 rfl ?_
        exact wp_lret trivial dX11_digest_236 H
def p_L_law_L18 (l1 : xN) (l2 : xN) (K18_2000 : Nat → xH → Prop) (Q : Int32 → xH → Prop) : Nat → Int32 → Nat → xH → Prop
  | 0, _, _, _ => False
  | f + 1, l3, k, h => ((((Int32.ofNat (hS h (1, 0) - 1)) - (7 : Int32)) < l3 → K18_2000 (k) h) ∧ (¬ ((Int32.ofNat (hS h (1, 0) - 1)) - (7 : Int32)) < l3 → (vp_in l3 (hS h (1, 0) - 1)) ∧ ((((hI h (1, 0) l3.toNatClampNeg) &&& (63 : Int32)) = (0 : Int32) → (vp_in (l3 + (1 : Int32)) (hS h (1, 0) - 1)) ∧ (k + 7 ≤ 4000) ∧ (kd l1.1 = (1, 9)) ∧ p_T_race l1 (hI h (1, 0) (l3 + (1 : Int32)).toNatClampNeg) h (fun (v15 : Int32) (h14 : xH) => (vp_in (l3 + (1 : Int32)) (hS h14 (1, 0) - 1)) ∧ (k + 7 ≤ 4000) ∧ (kd l2.1 = (1, 10)) ∧ p_M_race l2 (hI h14 (1, 0) (l3 + (1 : Int32)).toNatClampNeg) h14 (fun (v20 : Int32) (h19 : xH) => ((v15 = v20 → ∀ v22 : Int32, v22 = l3 + (7 : Int32) → (p_L_law_L18 l1 l2 K18_2000 Q f) v22 (k + 7) h19) ∧ (¬ v15 = v20 → Q (0 : Int32) h19))))) ∧ (((hI h (1, 0) l3.toNatClampNeg) &&& (63 : Int32)) = (1 : Int32) → (vp_in (l3 + (1 : Int32)) (hS h (1, 0) - 1)) ∧ (vp_in (l3 + (2 : Int32)) (hS h (1, 0) - 1)) ∧ (vp_in (l3 + (3 : Int32)) (hS h (1, 0) - 1)) ∧ (vp_in (l3 + (4 : Int32)) (hS h (1, 0) - 1)) ∧ (k + 6 ≤ 4000) ∧ (kd l1.1 = (1, 9)) ∧ p_T_pool l1 (hI h (1, 0) (l3 + (1 : Int32)).toNatClampNeg) (hI h (1, 0) (l3 + (2 : Int32)).toNatClampNeg) (hI h (1, 0) (l3 + (3 : Int32)).toNatClampNeg) (hI h (1, 0) (l3 + (4 : Int32)).toNatClampNeg) h (fun (v31 : Int32) (h30 : xH) => (vp_in (l3 + (1 : Int32)) (hS h30 (1, 0) - 1)) ∧ (vp_in (l3 + (2 : Int32)) (hS h30 (1, 0) - 1)) ∧ (vp_in (l3 + (3 : Int32)) (hS h30 (1, 0) - 1)) ∧ (vp_in (l3 + (4 : Int32)) (hS h30 (1, 0) - 1)) ∧ (k + 6 ≤ 4000) ∧ (kd l2.1 = (1, 10)) ∧ p_M_pool l2 (hI h30 (1, 0) (l3 + (1 : Int32)).toNatClampNeg) (hI h30 (1, 0) (l3 + (2 : Int32)).toNatClampNeg) (hI h30 (1, 0) (l3 + (3 : Int32)).toNatClampNeg) (hI h30 (1, 0) (l3 + (4 : Int32)).toNatClampNeg) h30 (fun (v39 : Int32) (h38 : xH) => ((v31 = v39 → ∀ v41 : Int32, v41 = l3 + (7 : Int32) → (p_L_law_L18 l1 l2 K18_2000 Q f) v41 (k + 6) h38) ∧ (¬ v31 = v39 → Q (0 : Int32) h38))))) ∧ (((hI h (1, 0) l3.toNatClampNeg) &&& (63 : Int32)) = (2 : Int32) → (vp_in (l3 + (1 : Int32)) (hS h (1, 0) - 1)) ∧ (vp_in (l3 + (2 : Int32)) (hS h (1, 0) - 1)) ∧ (vp_in (l3 + (3 : Int32)) (hS h (1, 0) - 1)) ∧ (vp_in (l3 + (4 : Int32)) (hS h (1, 0) - 1)) ∧ (k + 6 ≤ 4000) ∧ (kd l1.1 = (1, 9)) ∧ p_T_twin l1 (hI h (1, 0) (l3 + (1 : Int32)).toNatClampNeg) (hI h (1, 0) (l3 + (2 : Int32)).toNatClampNeg) (hI h (1, 0) (l3 + (3 : Int32)).toNatClampNeg) (hI h (1, 0) (l3 + (4 : Int32)).toNatClampNeg) h (fun (v50 : Int32) (h49 : xH) => (vp_in (l3 + (1 : Int32)) (hS h49 (1, 0) - 1)) ∧ (vp_in (l3 + (2 : Int32)) (hS h49 (1, 0) - 1)) ∧ (vp_in (l3 + (3 : Int32)) (hS h49 (1, 0) - 1)) ∧ (vp_in (l3 + (4 : Int32)) (hS h49 (1, 0) - 1)) ∧ (k + 6 ≤ 4000) ∧ (kd l2.1 = (1, 10)) ∧ p_M_twin l2 (hI h49 (1, 0) (l3 + (1 : Int32)).toNatClampNeg) (hI h49 (1, 0) (l3 + (2 : Int32)).toNatClampNeg) (hI h49 (1, 0) (l3 + (3 : Int32)).toNatClampNeg) (hI h49 (1, 0) (l3 + (4 : Int32)).toNatClampNeg) h49 (fun (v58 : Int32) (h57 : xH) => ((v50 = v58 → ∀ v60 : Int32, v60 = l3 + (7 : Int32) → (p_L_law_L18 l1 l2 K18_2000 Q f) v60 (k + 6) h57) ∧ (¬ v50 = v58 → Q (0 : Int32) h57))))) ∧ (((hI h (1, 0) l3.toNatClampNeg) &&& (63 : Int32)) = (3 : Int32) → (vp_in (l3 + (1 : Int32)) (hS h (1, 0) - 1)) ∧ (vp_in (l3 + (2 : Int32)) (hS h (1, 0) - 1)) ∧ (k + 0 ≤ 4000) ∧ (kd l1.1 = (1, 9)) ∧ p_T_substitute l1 (hI h (1, 0) (l3 + (1 : Int32)).toNatClampNeg) (hI h (1, 0) (l3 + (2 : Int32)).toNatClampNeg) h (fun (v67 : Int32) (h66 : xH) => (vp_in (l3 + (1 : Int32)) (hS h66 (1, 0) - 1)) ∧ (vp_in (l3 + (2 : Int32)) (hS h66 (1, 0) - 1)) ∧ (k + 0 ≤ 4000) ∧ (kd l2.1 = (1, 10)) ∧ p_M_substitute l2 (hI h66 (1, 0) (l3 + (1 : Int32)).toNatClampNeg) (hI h66 (1, 0) (l3 + (2 : Int32)).toNatClampNeg) h66 (fun (v73 : Int32) (h72 : xH) => ((v67 = v73 → ∀ v75 : Int32, v75 = l3 + (7 : Int32) → (p_L_law_L18 l1 l2 K18_2000 Q f) v75 (k) h72) ∧ (¬ v67 = v73 → Q (0 : Int32) h72))))) ∧ (((hI h (1, 0) l3.toNatClampNeg) &&& (63 : Int32)) = (4 : Int32) → (vp_in (l3 + (1 : Int32)) (hS h (1, 0) - 1)) ∧ (vp_in (l3 + (2 : Int32)) (hS h (1, 0) - 1)) ∧ (k + 0 ≤ 4000) ∧ (kd l1.1 = (1, 9)) ∧ p_T_scratch l1 (hI h (1, 0) (l3 + (1 : Int32)).toNatClampNeg) (hI h (1, 0) (l3 + (2 : Int32)).toNatClampNeg) h (fun (v82 : Int32) (h81 : xH) => (vp_in (l3 + (1 : Int32)) (hS h81 (1, 0) - 1)) ∧ (vp_in (l3 + (2 : Int32)) (hS h81 (1, 0) - 1)) ∧ (k + 0 ≤ 4000) ∧ (kd l2.1 = (1, 10)) ∧ p_M_scratch l2 (hI h81 (1, 0) (l3 + (1 : Int32)).toNatClampNeg) (hI h81 (1, 0) (l3 + (2 : Int32)).toNatClampNeg) h81 (fun (v88 : Int32) (h87 : xH) => ((v82 = v88 → ∀ v90 : Int32, v90 = l3 + (7 : Int32) → (p_L_law_L18 l1 l2 K18_2000 Q f) v90 (k) h87) ∧ (¬ v82 = v88 → Q (0 : Int32) h87))))) ∧ (((hI h (1, 0) l3.toNatClampNeg) &&& (63 : Int32)) = (5 : Int32) → (vp_in (l3 + (1 : Int32)) (hS h (1, 0) - 1)) ∧ (k + 0 ≤ 4000) ∧ (kd l1.1 = (1, 9)) ∧ p_T_off l1 (hI h (1, 0) (l3 + (1 : Int32)).toNatClampNeg) h (fun (v96 : Int32) (h95 : xH) => (vp_in (l3 + (1 : Int32)) (hS h95 (1, 0) - 1)) ∧ (k + 0 ≤ 4000) ∧ (kd l2.1 = (1, 10)) ∧ p_M_off l2 (hI h95 (1, 0) (l3 + (1 : Int32)).toNatClampNeg) h95 (fun (v101 : Int32) (h100 : xH) => ((v96 = v101 → ∀ v103 : Int32, v103 = l3 + (7 : Int32) → (p_L_law_L18 l1 l2 K18_2000 Q f) v103 (k) h100) ∧ (¬ v96 = v101 → Q (0 : Int32) h100))))) ∧ (((hI h (1, 0) l3.toNatClampNeg) &&& (63 : Int32)) = (6 : Int32) → (vp_in (l3 + (1 : Int32)) (hS h (1, 0) - 1)) ∧ (vp_in (l3 + (2 : Int32)) (hS h (1, 0) - 1)) ∧ (vp_in (l3 + (3 : Int32)) (hS h (1, 0) - 1)) ∧ (k + 0 ≤ 4000) ∧ (kd l1.1 = (1, 9)) ∧ p_T_place l1 (hI h (1, 0) (l3 + (1 : Int32)).toNatClampNeg) (hI h (1, 0) (l3 + (2 : Int32)).toNatClampNeg) (hI h (1, 0) (l3 + (3 : Int32)).toNatClampNeg) h (fun (v111 : Int32) (h110 : xH) => (vp_in (l3 + (1 : Int32)) (hS h110 (1, 0) - 1)) ∧ (vp_in (l3 + (2 : Int32)) (hS h110 (1, 0) - 1)) ∧ (vp_in (l3 + (3 : Int32)) (hS h110 (1, 0) - 1)) ∧ (k + 0 ≤ 4000) ∧ (kd l2.1 = (1, 10)) ∧ p_M_place l2 (hI h110 (1, 0) (l3 + (1 : Int32)).toNatClampNeg) (hI h110 (1, 0) (l3 + (2 : Int32)).toNatClampNeg) (hI h110 (1, 0) (l3 + (3 : Int32)).toNatClampNeg) h110 (fun (v118 : Int32) (h117 : xH) => ((v111 = v118 → ∀ v120 : Int32, v120 = l3 + (7 : Int32) → (p_L_law_L18 l1 l2 K18_2000 Q f) v120 (k) h117) ∧ (¬ v111 = v118 → Q (0 : Int32) h117))))) ∧ (((hI h (1, 0) l3.toNatClampNeg) &&& (63 : Int32)) = (7 : Int32) → (vp_in (l3 + (1 : Int32)) (hS h (1, 0) - 1)) ∧ (k + 0 ≤ 4000) ∧ (kd l1.1 = (1, 9)) ∧ p_T_official l1 (hI h (1, 0) (l3 + (1 : Int32)).toNatClampNeg) h (fun (v126 : Int32) (h125 : xH) => (vp_in (l3 + (1 : Int32)) (hS h125 (1, 0) - 1)) ∧ (k + 0 ≤ 4000) ∧ (kd l2.1 = (1, 10)) ∧ p_M_official l2 (hI h125 (1, 0) (l3 + (1 : Int32)).toNatClampNeg) h125 (fun (v131 : Int32) (h130 : xH) => ((v126 = v131 → ∀ v133 : Int32, v133 = l3 + (7 : Int32) → (p_L_law_L18 l1 l2 K18_2000 Q f) v133 (k) h130) ∧ (¬ v126 = v131 → Q (0 : Int32) h130))))) ∧ (((hI h (1, 0) l3.toNatClampNeg) &&& (63 : Int32)) = (8 : Int32) → (vp_in (l3 + (1 : Int32)) (hS h (1, 0) - 1)) ∧ (vp_in (l3 + (2 : Int32)) (hS h (1, 0) - 1)) ∧ (k + 0 ≤ 4000) ∧ (kd l1.1 = (1, 9)) ∧ p_T_raceAt l1 (hI h (1, 0) (l3 + (1 : Int32)).toNatClampNeg) (hI h (1, 0) (l3 + (2 : Int32)).toNatClampNeg) h (fun (v140 : Int32) (h139 : xH) => (vp_in (l3 + (1 : Int32)) (hS h139 (1, 0) - 1)) ∧ (vp_in (l3 + (2 : Int32)) (hS h139 (1, 0) - 1)) ∧ (k + 0 ≤ 4000) ∧ (kd l2.1 = (1, 10)) ∧ p_M_raceAt l2 (hI h139 (1, 0) (l3 + (1 : Int32)).toNatClampNeg) (hI h139 (1, 0) (l3 + (2 : Int32)).toNatClampNeg) h139 (fun (v146 : Int32) (h145 : xH) => ((v140 = v146 → ∀ v148 : Int32, v148 = l3 + (7 : Int32) → (p_L_law_L18 l1 l2 K18_2000 Q f) v148 (k) h145) ∧ (¬ v140 = v146 → Q (0 : Int32) h145))))) ∧ (((hI h (1, 0) l3.toNatClampNeg) &&& (63 : Int32)) = (9 : Int32) → (vp_in (l3 + (1 : Int32)) (hS h (1, 0) - 1)) ∧ (vp_in (l3 + (2 : Int32)) (hS h (1, 0) - 1)) ∧ (vp_in (l3 + (3 : Int32)) (hS h (1, 0) - 1)) ∧ (vp_in (l3 + (4 : Int32)) (hS h (1, 0) - 1)) ∧ (vp_in (l3 + (5 : Int32)) (hS h (1, 0) - 1)) ∧ (vp_in (l3 + (6 : Int32)) (hS h (1, 0) - 1)) ∧ (k + 1 ≤ 4000) ∧ (kd l1.1 = (1, 9)) ∧ p_T_sell l1 (hI h (1, 0) (l3 + (1 : Int32)).toNatClampNeg) (hI h (1, 0) (l3 + (2 : Int32)).toNatClampNeg) (hI h (1, 0) (l3 + (3 : Int32)).toNatClampNeg) (hI h (1, 0) (l3 + (4 : Int32)).toNatClampNeg) (hI h (1, 0) (l3 + (5 : Int32)).toNatClampNeg) (hI h (1, 0) (l3 + (6 : Int32)).toNatClampNeg) h (fun (v159 : Int32) (h158 : xH) => (vp_in (l3 + (1 : Int32)) (hS h158 (1, 0) - 1)) ∧ (vp_in (l3 + (2 : Int32)) (hS h158 (1, 0) - 1)) ∧ (vp_in (l3 + (3 : Int32)) (hS h158 (1, 0) - 1)) ∧ (vp_in (l3 + (4 : Int32)) (hS h158 (1, 0) - 1)) ∧ (vp_in (l3 + (5 : Int32)) (hS h158 (1, 0) - 1)) ∧ (vp_in (l3 + (6 : Int32)) (hS h158 (1, 0) - 1)) ∧ (k + 1 ≤ 4000) ∧ (kd l2.1 = (1, 10)) ∧ p_M_sell l2 (hI h158 (1, 0) (l3 + (1 : Int32)).toNatClampNeg) (hI h158 (1, 0) (l3 + (2 : Int32)).toNatClampNeg) (hI h158 (1, 0) (l3 + (3 : Int32)).toNatClampNeg) (hI h158 (1, 0) (l3 + (4 : Int32)).toNatClampNeg) (hI h158 (1, 0) (l3 + (5 : Int32)).toNatClampNeg) (hI h158 (1, 0) (l3 + (6 : Int32)).toNatClampNeg) h158 (fun (v169 : Int32) (h168 : xH) => ((v159 = v169 → ∀ v171 : Int32, v171 = l3 + (7 : Int32) → (p_L_law_L18 l1 l2 K18_2000 Q f) v171 (k + 1) h168) ∧ (¬ v159 = v169 → Q (0 : Int32) h168))))) ∧ (((hI h (1, 0) l3.toNatClampNeg) &&& (63 : Int32)) = (10 : Int32) → (vp_in (l3 + (1 : Int32)) (hS h (1, 0) - 1)) ∧ (k + 0 ≤ 4000) ∧ (kd l1.1 = (1, 9)) ∧ p_T_cancel l1 (hI h (1, 0) (l3 + (1 : Int32)).toNatClampNeg) h (fun (v177 : Int32) (h176 : xH) => (vp_in (l3 + (1 : Int32)) (hS h176 (1, 0) - 1)) ∧ (k + 0 ≤ 4000) ∧ (kd l2.1 = (1, 10)) ∧ p_M_cancel l2 (hI h176 (1, 0) (l3 + (1 : Int32)).toNatClampNeg) h176 (fun (v182 : Int32) (h181 : xH) => ((v177 = v182 → ∀ v184 : Int32, v184 = l3 + (7 : Int32) → (p_L_law_L18 l1 l2 K18_2000 Q f) v184 (k) h181) ∧ (¬ v177 = v182 → Q (0 : Int32) h181))))) ∧ (((hI h (1, 0) l3.toNatClampNeg) &&& (63 : Int32)) = (11 : Int32) → (vp_in (l3 + (1 : Int32)) (hS h (1, 0) - 1)) ∧ (k + 0 ≤ 4000) ∧ (kd l1.1 = (1, 9)) ∧ p_T_pay l1 (hI h (1, 0) (l3 + (1 : Int32)).toNatClampNeg) h (fun (v190 : Int32) (h189 : xH) => (vp_in (l3 + (1 : Int32)) (hS h189 (1, 0) - 1)) ∧ (k + 0 ≤ 4000) ∧ (kd l2.1 = (1, 10)) ∧ p_M_pay l2 (hI h189 (1, 0) (l3 + (1 : Int32)).toNatClampNeg) h189 (fun (v195 : Int32) (h194 : xH) => ((v190 = v195 → ∀ v197 : Int32, v197 = l3 + (7 : Int32) → (p_L_law_L18 l1 l2 K18_2000 Q f) v197 (k) h194) ∧ (¬ v190 = v195 → Q (0 : Int32) h194))))) ∧ (((hI h (1, 0) l3.toNatClampNeg) &&& (63 : Int32)) = (12 : Int32) → (vp_in (l3 + (1 : Int32)) (hS h (1, 0) - 1)) ∧ (vp_in (l3 + (2 : Int32)) (hS h (1, 0) - 1)) ∧ (k + 0 ≤ 4000) ∧ (kd l1.1 = (1, 9)) ∧ p_T_ticket l1 (hI h (1, 0) (l3 + (1 : Int32)).toNatClampNeg) (hI h (1, 0) (l3 + (2 : Int32)).toNatClampNeg) h (fun (v204 : Int32) (h203 : xH) => (vp_in (l3 + (1 : Int32)) (hS h203 (1, 0) - 1)) ∧ (vp_in (l3 + (2 : Int32)) (hS h203 (1, 0) - 1)) ∧ (k + 0 ≤ 4000) ∧ (kd l2.1 = (1, 10)) ∧ p_M_ticket l2 (hI h203 (1, 0) (l3 + (1 : Int32)).toNatClampNeg) (hI h203 (1, 0) (l3 + (2 : Int32)).toNatClampNeg) h203 (fun (v210 : Int32) (h209 : xH) => ((v204 = v210 → ∀ v212 : Int32, v212 = l3 + (7 : Int32) → (p_L_law_L18 l1 l2 K18_2000 Q f) v212 (k) h209) ∧ (¬ v204 = v210 → Q (0 : Int32) h209))))) ∧ (((hI h (1, 0) l3.toNatClampNeg) &&& (63 : Int32)) = (13 : Int32) → (vp_in (l3 + (1 : Int32)) (hS h (1, 0) - 1)) ∧ (vp_in (l3 + (2 : Int32)) (hS h (1, 0) - 1)) ∧ (vp_in (l3 + (3 : Int32)) (hS h (1, 0) - 1)) ∧ (vp_in (l3 + (4 : Int32)) (hS h (1, 0) - 1)) ∧ (k + 0 ≤ 4000) ∧ (kd l1.1 = (1, 9)) ∧ p_T_units l1 (hI h (1, 0) (l3 + (1 : Int32)).toNatClampNeg) (hI h (1, 0) (l3 + (2 : Int32)).toNatClampNeg) (hI h (1, 0) (l3 + (3 : Int32)).toNatClampNeg) (hI h (1, 0) (l3 + (4 : Int32)).toNatClampNeg) h (fun (v221 : Int32) (h220 : xH) => (vp_in (l3 + (1 : Int32)) (hS h220 (1, 0) - 1)) ∧ (vp_in (l3 + (2 : Int32)) (hS h220 (1, 0) - 1)) ∧ (vp_in (l3 + (3 : Int32)) (hS h220 (1, 0) - 1)) ∧ (vp_in (l3 + (4 : Int32)) (hS h220 (1, 0) - 1)) ∧ (k + 0 ≤ 4000) ∧ (kd l2.1 = (1, 10)) ∧ p_M_units l2 (hI h220 (1, 0) (l3 + (1 : Int32)).toNatClampNeg) (hI h220 (1, 0) (l3 + (2 : Int32)).toNatClampNeg) (hI h220 (1, 0) (l3 + (3 : Int32)).toNatClampNeg) (hI h220 (1, 0) (l3 + (4 : Int32)).toNatClampNeg) h220 (fun (v229 : Int32) (h228 : xH) => ((v221 = v229 → ∀ v231 : Int32, v231 = l3 + (7 : Int32) → (p_L_law_L18 l1 l2 K18_2000 Q f) v231 (k) h228) ∧ (¬ v221 = v229 → Q (0 : Int32) h228))))) ∧ (((hI h (1, 0) l3.toNatClampNeg) &&& (63 : Int32)) = (14 : Int32) → (vp_in (l3 + (1 : Int32)) (hS h (1, 0) - 1)) ∧ (vp_in (l3 + (2 : Int32)) (hS h (1, 0) - 1)) ∧ (vp_in (l3 + (3 : Int32)) (hS h (1, 0) - 1)) ∧ (vp_in (l3 + (4 : Int32)) (hS h (1, 0) - 1)) ∧ (k + 0 ≤ 4000) ∧ (kd l1.1 = (1, 9)) ∧ p_T_dividend l1 (hI h (1, 0) (l3 + (1 : Int32)).toNatClampNeg) (hI h (1, 0) (l3 + (2 : Int32)).toNatClampNeg) (hI h (1, 0) (l3 + (3 : Int32)).toNatClampNeg) (hI h (1, 0) (l3 + (4 : Int32)).toNatClampNeg) h (fun (v240 : Int32) (h239 : xH) => (vp_in (l3 + (1 : Int32)) (hS h239 (1, 0) - 1)) ∧ (vp_in (l3 + (2 : Int32)) (hS h239 (1, 0) - 1)) ∧ (vp_in (l3 + (3 : Int32)) (hS h239 (1, 0) - 1)) ∧ (vp_in (l3 + (4 : Int32)) (hS h239 (1, 0) - 1)) ∧ (k + 0 ≤ 4000) ∧ (kd l2.1 = (1, 10)) ∧ p_M_dividend l2 (hI h239 (1, 0) (l3 + (1 : Int32)).toNatClampNeg) (hI h239 (1, 0) (l3 + (2 : Int32)).toNatClampNeg) (hI h239 (1, 0) (l3 + (3 : Int32)).toNatClampNeg) (hI h239 (1, 0) (l3 + (4 : Int32)).toNatClampNeg) h239 (fun (v248 : Int32) (h247 : xH) => ((v240 = v248 → ∀ v250 : Int32, v250 = l3 + (7 : Int32) → (p_L_law_L18 l1 l2 K18_2000 Q f) v250 (k) h247) ∧ (¬ v240 = v248 → Q (0 : Int32) h247))))) ∧ (((hI h (1, 0) l3.toNatClampNeg) &&& (63 : Int32)) = (15 : Int32) → (vp_in (l3 + (1 : Int32)) (hS h (1, 0) - 1)) ∧ (vp_in (l3 + (2 : Int32)) (hS h (1, 0) - 1)) ∧ (vp_in (l3 + (3 : Int32)) (hS h (1, 0) - 1)) ∧ (vp_in (l3 + (4 : Int32)) (hS h (1, 0) - 1)) ∧ (k + 0 ≤ 4000) ∧ (kd l1.1 = (1, 9)) ∧ p_T_odds l1 (hI h (1, 0) (l3 + (1 : Int32)).toNatClampNeg) (hI h (1, 0) (l3 + (2 : Int32)).toNatClampNeg) (hI h (1, 0) (l3 + (3 : Int32)).toNatClampNeg) (hI h (1, 0) (l3 + (4 : Int32)).toNatClampNeg) h (fun (v259 : Int32) (h258 : xH) => (vp_in (l3 + (1 : Int32)) (hS h258 (1, 0) - 1)) ∧ (vp_in (l3 + (2 : Int32)) (hS h258 (1, 0) - 1)) ∧ (vp_in (l3 + (3 : Int32)) (hS h258 (1, 0) - 1)) ∧ (vp_in (l3 + (4 : Int32)) (hS h258 (1, 0) - 1)) ∧ (k + 0 ≤ 4000) ∧ (kd l2.1 = (1, 10)) ∧ p_M_odds l2 (hI h258 (1, 0) (l3 + (1 : Int32)).toNatClampNeg) (hI h258 (1, 0) (l3 + (2 : Int32)).toNatClampNeg) (hI h258 (1, 0) (l3 + (3 : Int32)).toNatClampNeg) (hI h258 (1, 0) (l3 + (4 : Int32)).toNatClampNeg) h258 (fun (v267 : Int32) (h266 : xH) => ((v259 = v267 → ∀ v269 : Int32, v269 = l3 + (7 : Int32) → (p_L_law_L18 l1 l2 K18_2000 Q f) v269 (k) h266) ∧ (¬ v259 = v267 → Q (0 : Int32) h266))))) ∧ (((hI h (1, 0) l3.toNatClampNeg) &&& (63 : Int32)) = (16 : Int32) → (vp_in (l3 + (1 : Int32)) (hS h (1, 0) - 1)) ∧ (vp_in (l3 + (2 : Int32)) (hS h (1, 0) - 1)) ∧ (k + 0 ≤ 4000) ∧ (kd l1.1 = (1, 9)) ∧ p_T_book l1 (hI h (1, 0) (l3 + (1 : Int32)).toNatClampNeg) (hI h (1, 0) (l3 + (2 : Int32)).toNatClampNeg) h (fun (v276 : Int32) (h275 : xH) => (vp_in (l3 + (1 : Int32)) (hS h275 (1, 0) - 1)) ∧ (vp_in (l3 + (2 : Int32)) (hS h275 (1, 0) - 1)) ∧ (k + 0 ≤ 4000) ∧ (kd l2.1 = (1, 10)) ∧ p_M_book l2 (hI h275 (1, 0) (l3 + (1 : Int32)).toNatClampNeg) (hI h275 (1, 0) (l3 + (2 : Int32)).toNatClampNeg) h275 (fun (v282 : Int32) (h281 : xH) => ((v276 = v282 → ∀ v284 : Int32, v284 = l3 + (7 : Int32) → (p_L_law_L18 l1 l2 K18_2000 Q f) v284 (k) h281) ∧ (¬ v276 = v282 → Q (0 : Int32) h281))))) ∧ (((hI h (1, 0) l3.toNatClampNeg) &&& (63 : Int32)) = (17 : Int32) → (k + 0 ≤ 4000) ∧ (kd l1.1 = (1, 9)) ∧ p_T_rest l1 h (fun (v289 : Int32) (h288 : xH) => (k + 0 ≤ 4000) ∧ (kd l2.1 = (1, 10)) ∧ p_M_rest l2 h288 (fun (v293 : Int32) (h292 : xH) => ((v289 = v293 → ∀ v295 : Int32, v295 = l3 + (7 : Int32) → (p_L_law_L18 l1 l2 K18_2000 Q f) v295 (k) h292) ∧ (¬ v289 = v293 → Q (0 : Int32) h292))))) ∧ (((hI h (1, 0) l3.toNatClampNeg) &&& (63 : Int32)) = (18 : Int32) → (k + 0 ≤ 4000) ∧ (kd l1.1 = (1, 9)) ∧ p_T_unclaimed l1 h (fun (v300 : Int32) (h299 : xH) => (k + 0 ≤ 4000) ∧ (kd l2.1 = (1, 10)) ∧ p_M_unclaimed l2 h299 (fun (v304 : Int32) (h303 : xH) => ((v300 = v304 → ∀ v306 : Int32, v306 = l3 + (7 : Int32) → (p_L_law_L18 l1 l2 K18_2000 Q f) v306 (k) h303) ∧ (¬ v300 = v304 → Q (0 : Int32) h303))))) ∧ (((hI h (1, 0) l3.toNatClampNeg) &&& (63 : Int32)) = (19 : Int32) → (vp_in (l3 + (1 : Int32)) (hS h (1, 0) - 1)) ∧ (k + 0 ≤ 4000) ∧ (kd l1.1 = (1, 9)) ∧ p_T_worst l1 (hI h (1, 0) (l3 + (1 : Int32)).toNatClampNeg) h (fun (v312 : Int32) (h311 : xH) => (vp_in (l3 + (1 : Int32)) (hS h311 (1, 0) - 1)) ∧ (k + 0 ≤ 4000) ∧ (kd l2.1 = (1, 10)) ∧ p_M_worst l2 (hI h311 (1, 0) (l3 + (1 : Int32)).toNatClampNeg) h311 (fun (v317 : Int32) (h316 : xH) => ((v312 = v317 → ∀ v319 : Int32, v319 = l3 + (7 : Int32) → (p_L_law_L18 l1 l2 K18_2000 Q f) v319 (k) h316) ∧ (¬ v312 = v317 → Q (0 : Int32) h316))))) ∧ (((hI h (1, 0) l3.toNatClampNeg) &&& (63 : Int32)) = (20 : Int32) → (k + 0 ≤ 4000) ∧ (kd l1.1 = (1, 9)) ∧ p_T_worstDue l1 h (fun (v324 : Int32) (h323 : xH) => (k + 0 ≤ 4000) ∧ (kd l2.1 = (1, 10)) ∧ p_M_worstDue l2 h323 (fun (v328 : Int32) (h327 : xH) => ((v324 = v328 → ∀ v330 : Int32, v330 = l3 + (7 : Int32) → (p_L_law_L18 l1 l2 K18_2000 Q f) v330 (k) h327) ∧ (¬ v324 = v328 → Q (0 : Int32) h327))))) ∧ (((hI h (1, 0) l3.toNatClampNeg) &&& (63 : Int32)) = (21 : Int32) → (vp_in (l3 + (1 : Int32)) (hS h (1, 0) - 1)) ∧ (k + 0 ≤ 4000) ∧ (kd l1.1 = (1, 9)) ∧ p_T_premium l1 (hI h (1, 0) (l3 + (1 : Int32)).toNatClampNeg) h (fun (v336 : Int32) (h335 : xH) => (vp_in (l3 + (1 : Int32)) (hS h335 (1, 0) - 1)) ∧ (k + 0 ≤ 4000) ∧ (kd l2.1 = (1, 10)) ∧ p_M_premium l2 (hI h335 (1, 0) (l3 + (1 : Int32)).toNatClampNeg) h335 (fun (v341 : Int32) (h340 : xH) => ((v336 = v341 → ∀ v343 : Int32, v343 = l3 + (7 : Int32) → (p_L_law_L18 l1 l2 K18_2000 Q f) v343 (k) h340) ∧ (¬ v336 = v341 → Q (0 : Int32) h340))))) ∧ (((hI h (1, 0) l3.toNatClampNeg) &&& (63 : Int32)) = (22 : Int32) → (vp_in (l3 + (1 : Int32)) (hS h (1, 0) - 1)) ∧ (vp_in (l3 + (2 : Int32)) (hS h (1, 0) - 1)) ∧ (k + 0 ≤ 4000) ∧ (kd l1.1 = (1, 9)) ∧ p_T_drawer l1 (hI h (1, 0) (l3 + (1 : Int32)).toNatClampNeg) (hI h (1, 0) (l3 + (2 : Int32)).toNatClampNeg) h (fun (v350 : Int32) (h349 : xH) => (vp_in (l3 + (1 : Int32)) (hS h349 (1, 0) - 1)) ∧ (vp_in (l3 + (2 : Int32)) (hS h349 (1, 0) - 1)) ∧ (k + 0 ≤ 4000) ∧ (kd l2.1 = (1, 10)) ∧ p_M_drawer l2 (hI h349 (1, 0) (l3 + (1 : Int32)).toNatClampNeg) (hI h349 (1, 0) (l3 + (2 : Int32)).toNatClampNeg) h349 (fun (v356 : Int32) (h355 : xH) => ((v350 = v356 → ∀ v358 : Int32, v358 = l3 + (7 : Int32) → (p_L_law_L18 l1 l2 K18_2000 Q f) v358 (k) h355) ∧ (¬ v350 = v356 → Q (0 : Int32) h355))))) ∧ (((hI h (1, 0) l3.toNatClampNeg) &&& (63 : Int32)) = (23 : Int32) → (vp_in (l3 + (1 : Int32)) (hS h (1, 0) - 1)) ∧ (k + 0 ≤ 4000) ∧ (kd l1.1 = (1, 9)) ∧ p_T_lose l1 (hI h (1, 0) (l3 + (1 : Int32)).toNatClampNeg) h (fun (v364 : Int32) (h363 : xH) => (vp_in (l3 + (1 : Int32)) (hS h363 (1, 0) - 1)) ∧ (k + 0 ≤ 4000) ∧ (kd l2.1 = (1, 10)) ∧ p_M_lose l2 (hI h363 (1, 0) (l3 + (1 : Int32)).toNatClampNeg) h363 (fun (v369 : Int32) (h368 : xH) => ((v364 = v369 → ∀ v371 : Int32, v371 = l3 + (7 : Int32) → (p_L_law_L18 l1 l2 K18_2000 Q f) v371 (k) h368) ∧ (¬ v364 = v369 → Q (0 : Int32) h368))))) ∧ (((hI h (1, 0) l3.toNatClampNeg) &&& (63 : Int32)) = (24 : Int32) → (vp_in (l3 + (1 : Int32)) (hS h (1, 0) - 1)) ∧ (vp_in (l3 + (2 : Int32)) (hS h (1, 0) - 1)) ∧ (vp_in (l3 + (3 : Int32)) (hS h (1, 0) - 1)) ∧ (k + 0 ≤ 4000) ∧ (kd l1.1 = (1, 9)) ∧ p_T_keep l1 (hI h (1, 0) (l3 + (1 : Int32)).toNatClampNeg) (hI h (1, 0) (l3 + (2 : Int32)).toNatClampNeg) (hI h (1, 0) (l3 + (3 : Int32)).toNatClampNeg) h (fun (v379 : Int32) (h378 : xH) => (vp_in (l3 + (1 : Int32)) (hS h378 (1, 0) - 1)) ∧ (vp_in (l3 + (2 : Int32)) (hS h378 (1, 0) - 1)) ∧ (vp_in (l3 + (3 : Int32)) (hS h378 (1, 0) - 1)) ∧ (k + 0 ≤ 4000) ∧ (kd l2.1 = (1, 10)) ∧ p_M_keep l2 (hI h378 (1, 0) (l3 + (1 : Int32)).toNatClampNeg) (hI h378 (1, 0) (l3 + (2 : Int32)).toNatClampNeg) (hI h378 (1, 0) (l3 + (3 : Int32)).toNatClampNeg) h378 (fun (v386 : Int32) (h385 : xH) => ((v379 = v386 → ∀ v388 : Int32, v388 = l3 + (7 : Int32) → (p_L_law_L18 l1 l2 K18_2000 Q f) v388 (k) h385) ∧ (¬ v379 = v386 → Q (0 : Int32) h385))))) ∧ (((hI h (1, 0) l3.toNatClampNeg) &&& (63 : Int32)) = (25 : Int32) → (vp_in (l3 + (1 : Int32)) (hS h (1, 0) - 1)) ∧ (vp_in (l3 + (2 : Int32)) (hS h (1, 0) - 1)) ∧ (vp_in (l3 + (3 : Int32)) (hS h (1, 0) - 1)) ∧ (vp_in (l3 + (4 : Int32)) (hS h (1, 0) - 1)) ∧ (vp_in (l3 + (5 : Int32)) (hS h (1, 0) - 1)) ∧ (k + 0 ≤ 4000) ∧ (kd l1.1 = (1, 9)) ∧ p_T_note l1 (hI h (1, 0) (l3 + (1 : Int32)).toNatClampNeg) (hI h (1, 0) (l3 + (2 : Int32)).toNatClampNeg) ((((hI h (1, 0) (l3 + (3 : Int32)).toNatClampNeg).toInt64) <<< ((32 : Int32).toInt64 &&& 63)) ||| (((hI h (1, 0) (l3 + (4 : Int32)).toNatClampNeg).toInt64) &&& (4294967295 : Int64))) (hI h (1, 0) (l3 + (5 : Int32)).toNatClampNeg) h (fun (v398 : Int32) (h397 : xH) => (vp_in (l3 + (1 : Int32)) (hS h397 (1, 0) - 1)) ∧ (vp_in (l3 + (2 : Int32)) (hS h397 (1, 0) - 1)) ∧ (vp_in (l3 + (3 : Int32)) (hS h397 (1, 0) - 1)) ∧ (vp_in (l3 + (4 : Int32)) (hS h397 (1, 0) - 1)) ∧ (vp_in (l3 + (5 : Int32)) (hS h397 (1, 0) - 1)) ∧ (k + 0 ≤ 4000) ∧ (kd l2.1 = (1, 10)) ∧ p_M_note l2 (hI h397 (1, 0) (l3 + (1 : Int32)).toNatClampNeg) (hI h397 (1, 0) (l3 + (2 : Int32)).toNatClampNeg) ((((hI h397 (1, 0) (l3 + (3 : Int32)).toNatClampNeg).toInt64) <<< ((32 : Int32).toInt64 &&& 63)) ||| (((hI h397 (1, 0) (l3 + (4 : Int32)).toNatClampNeg).toInt64) &&& (4294967295 : Int64))) (hI h397 (1, 0) (l3 + (5 : Int32)).toNatClampNeg) h397 (fun (v407 : Int32) (h406 : xH) => ((v398 = v407 → ∀ v409 : Int32, v409 = l3 + (7 : Int32) → (p_L_law_L18 l1 l2 K18_2000 Q f) v409 (k) h406) ∧ (¬ v398 = v407 → Q (0 : Int32) h406))))) ∧ (((hI h (1, 0) l3.toNatClampNeg) &&& (63 : Int32)) = (26 : Int32) → (vp_in (l3 + (1 : Int32)) (hS h (1, 0) - 1)) ∧ (vp_in (l3 + (2 : Int32)) (hS h (1, 0) - 1)) ∧ (vp_in (l3 + (3 : Int32)) (hS h (1, 0) - 1)) ∧ (k + 0 ≤ 4000) ∧ (kd l1.1 = (1, 9)) ∧ p_T_coins l1 (hI h (1, 0) (l3 + (1 : Int32)).toNatClampNeg) (hI h (1, 0) (l3 + (2 : Int32)).toNatClampNeg) (hI h (1, 0) (l3 + (3 : Int32)).toNatClampNeg) h (fun (v417 : Int32) (h416 : xH) => (vp_in (l3 + (1 : Int32)) (hS h416 (1, 0) - 1)) ∧ (vp_in (l3 + (2 : Int32)) (hS h416 (1, 0) - 1)) ∧ (vp_in (l3 + (3 : Int32)) (hS h416 (1, 0) - 1)) ∧ (k + 0 ≤ 4000) ∧ (kd l2.1 = (1, 10)) ∧ p_M_coins l2 (hI h416 (1, 0) (l3 + (1 : Int32)).toNatClampNeg) (hI h416 (1, 0) (l3 + (2 : Int32)).toNatClampNeg) (hI h416 (1, 0) (l3 + (3 : Int32)).toNatClampNeg) h416 (fun (v424 : Int32) (h423 : xH) => ((v417 = v424 → ∀ v426 : Int32, v426 = l3 + (7 : Int32) → (p_L_law_L18 l1 l2 K18_2000 Q f) v426 (k) h423) ∧ (¬ v417 = v424 → Q (0 : Int32) h423))))) ∧ (((hI h (1, 0) l3.toNatClampNeg) &&& (63 : Int32)) = (27 : Int32) → (vp_in (l3 + (1 : Int32)) (hS h (1, 0) - 1)) ∧ (vp_in (l3 + (2 : Int32)) (hS h (1, 0) - 1)) ∧ (k + 0 ≤ 4000) ∧ (kd l1.1 = (1, 9)) ∧ p_T_clear l1 (hI h (1, 0) (l3 + (1 : Int32)).toNatClampNeg) (hI h (1, 0) (l3 + (2 : Int32)).toNatClampNeg) h (fun (v433 : Int32) (h432 : xH) => (vp_in (l3 + (1 : Int32)) (hS h432 (1, 0) - 1)) ∧ (vp_in (l3 + (2 : Int32)) (hS h432 (1, 0) - 1)) ∧ (k + 0 ≤ 4000) ∧ (kd l2.1 = (1, 10)) ∧ p_M_clear l2 (hI h432 (1, 0) (l3 + (1 : Int32)).toNatClampNeg) (hI h432 (1, 0) (l3 + (2 : Int32)).toNatClampNeg) h432 (fun (v439 : Int32) (h438 : xH) => ((v433 = v439 → ∀ v441 : Int32, v441 = l3 + (7 : Int32) → (p_L_law_L18 l1 l2 K18_2000 Q f) v441 (k) h438) ∧ (¬ v433 = v439 → Q (0 : Int32) h438))))) ∧ (((hI h (1, 0) l3.toNatClampNeg) &&& (63 : Int32)) = (28 : Int32) → (vp_in (l3 + (1 : Int32)) (hS h (1, 0) - 1)) ∧ (vp_in (l3 + (2 : Int32)) (hS h (1, 0) - 1)) ∧ (k + 0 ≤ 4000) ∧ (kd l1.1 = (1, 9)) ∧ p_T_kind l1 (hI h (1, 0) (l3 + (1 : Int32)).toNatClampNeg) (hI h (1, 0) (l3 + (2 : Int32)).toNatClampNeg) h (fun (v448 : Int32) (h447 : xH) => (vp_in (l3 + (1 : Int32)) (hS h447 (1, 0) - 1)) ∧ (vp_in (l3 + (2 : Int32)) (hS h447 (1, 0) - 1)) ∧ (k + 0 ≤ 4000) ∧ (kd l2.1 = (1, 10)) ∧ p_M_kind l2 (hI h447 (1, 0) (l3 + (1 : Int32)).toNatClampNeg) (hI h447 (1, 0) (l3 + (2 : Int32)).toNatClampNeg) h447 (fun (v454 : Int32) (h453 : xH) => ((v448 = v454 → ∀ v456 : Int32, v456 = l3 + (7 : Int32) → (p_L_law_L18 l1 l2 K18_2000 Q f) v456 (k) h453) ∧ (¬ v448 = v454 → Q (0 : Int32) h453))))) ∧ (((hI h (1, 0) l3.toNatClampNeg) &&& (63 : Int32)) = (29 : Int32) → (vp_in (l3 + (1 : Int32)) (hS h (1, 0) - 1)) ∧ (vp_in (l3 + (2 : Int32)) (hS h (1, 0) - 1)) ∧ (k + 0 ≤ 4000) ∧ (kd l1.1 = (1, 9)) ∧ p_T_read l1 (hI h (1, 0) (l3 + (1 : Int32)).toNatClampNeg) (hI h (1, 0) (l3 + (2 : Int32)).toNatClampNeg) h (fun (v463 : Int32) (h462 : xH) => (vp_in (l3 + (1 : Int32)) (hS h462 (1, 0) - 1)) ∧ (vp_in (l3 + (2 : Int32)) (hS h462 (1, 0) - 1)) ∧ (k + 0 ≤ 4000) ∧ (kd l2.1 = (1, 10)) ∧ p_M_read l2 (hI h462 (1, 0) (l3 + (1 : Int32)).toNatClampNeg) (hI h462 (1, 0) (l3 + (2 : Int32)).toNatClampNeg) h462 (fun (v469 : Int32) (h468 : xH) => ((v463 = v469 → ∀ v471 : Int32, v471 = l3 + (7 : Int32) → (p_L_law_L18 l1 l2 K18_2000 Q f) v471 (k) h468) ∧ (¬ v463 = v469 → Q (0 : Int32) h468))))) ∧ (((hI h (1, 0) l3.toNatClampNeg) &&& (63 : Int32)) = (30 : Int32) → (vp_in (l3 + (1 : Int32)) (hS h (1, 0) - 1)) ∧ (vp_in (l3 + (2 : Int32)) (hS h (1, 0) - 1)) ∧ (vp_in (l3 + (3 : Int32)) (hS h (1, 0) - 1)) ∧ (k + 0 ≤ 4000) ∧ (kd l1.1 = (1, 9)) ∧ p_T_letter l1 (hI h (1, 0) (l3 + (1 : Int32)).toNatClampNeg) (hI h (1, 0) (l3 + (2 : Int32)).toNatClampNeg) (hI h (1, 0) (l3 + (3 : Int32)).toNatClampNeg) h (fun (v479 : Int32) (h478 : xH) => (vp_in (l3 + (1 : Int32)) (hS h478 (1, 0) - 1)) ∧ (vp_in (l3 + (2 : Int32)) (hS h478 (1, 0) - 1)) ∧ (vp_in (l3 + (3 : Int32)) (hS h478 (1, 0) - 1)) ∧ (k + 0 ≤ 4000) ∧ (kd l2.1 = (1, 10)) ∧ p_M_letter l2 (hI h478 (1, 0) (l3 + (1 : Int32)).toNatClampNeg) (hI h478 (1, 0) (l3 + (2 : Int32)).toNatClampNeg) (hI h478 (1, 0) (l3 + (3 : Int32)).toNatClampNeg) h478 (fun (v486 : Int32) (h485 : xH) => ((v479 = v486 → ∀ v488 : Int32, v488 = l3 + (7 : Int32) → (p_L_law_L18 l1 l2 K18_2000 Q f) v488 (k) h485) ∧ (¬ v479 = v486 → Q (0 : Int32) h485))))) ∧ (((hI h (1, 0) l3.toNatClampNeg) &&& (63 : Int32)) = (31 : Int32) → (vp_in (l3 + (1 : Int32)) (hS h (1, 0) - 1)) ∧ (vp_in (l3 + (2 : Int32)) (hS h (1, 0) - 1)) ∧ (vp_in (l3 + (3 : Int32)) (hS h (1, 0) - 1)) ∧ (vp_in (l3 + (4 : Int32)) (hS h (1, 0) - 1)) ∧ (k + 0 ≤ 4000) ∧ (kd l1.1 = (1, 9)) ∧ p_T_coin l1 (hI h (1, 0) (l3 + (1 : Int32)).toNatClampNeg) (hI h (1, 0) (l3 + (2 : Int32)).toNatClampNeg) (hI h (1, 0) (l3 + (3 : Int32)).toNatClampNeg) (hI h (1, 0) (l3 + (4 : Int32)).toNatClampNeg) h (fun (v497 : Int32) (h496 : xH) => (vp_in (l3 + (1 : Int32)) (hS h496 (1, 0) - 1)) ∧ (vp_in (l3 + (2 : Int32)) (hS h496 (1, 0) - 1)) ∧ (vp_in (l3 + (3 : Int32)) (hS h496 (1, 0) - 1)) ∧ (vp_in (l3 + (4 : Int32)) (hS h496 (1, 0) - 1)) ∧ (k + 0 ≤ 4000) ∧ (kd l2.1 = (1, 10)) ∧ p_M_coin l2 (hI h496 (1, 0) (l3 + (1 : Int32)).toNatClampNeg) (hI h496 (1, 0) (l3 + (2 : Int32)).toNatClampNeg) (hI h496 (1, 0) (l3 + (3 : Int32)).toNatClampNeg) (hI h496 (1, 0) (l3 + (4 : Int32)).toNatClampNeg) h496 (fun (v505 : Int32) (h504 : xH) => ((v497 = v505 → ∀ v507 : Int32, v507 = l3 + (7 : Int32) → (p_L_law_L18 l1 l2 K18_2000 Q f) v507 (k) h504) ∧ (¬ v497 = v505 → Q (0 : Int32) h504))))) ∧ (((hI h (1, 0) l3.toNatClampNeg) &&& (63 : Int32)) = (32 : Int32) → (vp_in (l3 + (1 : Int32)) (hS h (1, 0) - 1)) ∧ (vp_in (l3 + (2 : Int32)) (hS h (1, 0) - 1)) ∧ (vp_in (l3 + (3 : Int32)) (hS h (1, 0) - 1)) ∧ (k + 0 ≤ 4000) ∧ (kd l1.1 = (1, 9)) ∧ p_T_coinAt l1 (hI h (1, 0) (l3 + (1 : Int32)).toNatClampNeg) (hI h (1, 0) (l3 + (2 : Int32)).toNatClampNeg) (hI h (1, 0) (l3 + (3 : Int32)).toNatClampNeg) h (fun (v515 : Int32) (h514 : xH) => (vp_in (l3 + (1 : Int32)) (hS h514 (1, 0) - 1)) ∧ (vp_in (l3 + (2 : Int32)) (hS h514 (1, 0) - 1)) ∧ (vp_in (l3 + (3 : Int32)) (hS h514 (1, 0) - 1)) ∧ (k + 0 ≤ 4000) ∧ (kd l2.1 = (1, 10)) ∧ p_M_coinAt l2 (hI h514 (1, 0) (l3 + (1 : Int32)).toNatClampNeg) (hI h514 (1, 0) (l3 + (2 : Int32)).toNatClampNeg) (hI h514 (1, 0) (l3 + (3 : Int32)).toNatClampNeg) h514 (fun (v522 : Int32) (h521 : xH) => ((v515 = v522 → ∀ v524 : Int32, v524 = l3 + (7 : Int32) → (p_L_law_L18 l1 l2 K18_2000 Q f) v524 (k) h521) ∧ (¬ v515 = v522 → Q (0 : Int32) h521))))) ∧ (((hI h (1, 0) l3.toNatClampNeg) &&& (63 : Int32)) = (33 : Int32) → (vp_in (l3 + (1 : Int32)) (hS h (1, 0) - 1)) ∧ (vp_in (l3 + (2 : Int32)) (hS h (1, 0) - 1)) ∧ (vp_in (l3 + (3 : Int32)) (hS h (1, 0) - 1)) ∧ (vp_in (l3 + (4 : Int32)) (hS h (1, 0) - 1)) ∧ (k + 0 ≤ 4000) ∧ (kd l1.1 = (1, 9)) ∧ p_T_change l1 (hI h (1, 0) (l3 + (1 : Int32)).toNatClampNeg) (hI h (1, 0) (l3 + (2 : Int32)).toNatClampNeg) (hI h (1, 0) (l3 + (3 : Int32)).toNatClampNeg) (hI h (1, 0) (l3 + (4 : Int32)).toNatClampNeg) h (fun (v533 : Int32) (h532 : xH) => (vp_in (l3 + (1 : Int32)) (hS h532 (1, 0) - 1)) ∧ (vp_in (l3 + (2 : Int32)) (hS h532 (1, 0) - 1)) ∧ (vp_in (l3 + (3 : Int32)) (hS h532 (1, 0) - 1)) ∧ (vp_in (l3 + (4 : Int32)) (hS h532 (1, 0) - 1)) ∧ (k + 0 ≤ 4000) ∧ (kd l2.1 = (1, 10)) ∧ p_M_change l2 (hI h532 (1, 0) (l3 + (1 : Int32)).toNatClampNeg) (hI h532 (1, 0) (l3 + (2 : Int32)).toNatClampNeg) (hI h532 (1, 0) (l3 + (3 : Int32)).toNatClampNeg) (hI h532 (1, 0) (l3 + (4 : Int32)).toNatClampNeg) h532 (fun (v541 : Int32) (h540 : xH) => ((v533 = v541 → ∀ v543 : Int32, v543 = l3 + (7 : Int32) → (p_L_law_L18 l1 l2 K18_2000 Q f) v543 (k) h540) ∧ (¬ v533 = v541 → Q (0 : Int32) h540))))) ∧ (((hI h (1, 0) l3.toNatClampNeg) &&& (63 : Int32)) = (34 : Int32) → (vp_in (l3 + (1 : Int32)) (hS h (1, 0) - 1)) ∧ (vp_in (l3 + (2 : Int32)) (hS h (1, 0) - 1)) ∧ (vp_in (l3 + (3 : Int32)) (hS h (1, 0) - 1)) ∧ (k + 0 ≤ 4000) ∧ (kd l1.1 = (1, 9)) ∧ p_T_satchel l1 (hI h (1, 0) (l3 + (1 : Int32)).toNatClampNeg) (hI h (1, 0) (l3 + (2 : Int32)).toNatClampNeg) (hI h (1, 0) (l3 + (3 : Int32)).toNatClampNeg) h (fun (v551 : Int32) (h550 : xH) => (vp_in (l3 + (1 : Int32)) (hS h550 (1, 0) - 1)) ∧ (vp_in (l3 + (2 : Int32)) (hS h550 (1, 0) - 1)) ∧ (vp_in (l3 + (3 : Int32)) (hS h550 (1, 0) - 1)) ∧ (k + 0 ≤ 4000) ∧ (kd l2.1 = (1, 10)) ∧ p_M_satchel l2 (hI h550 (1, 0) (l3 + (1 : Int32)).toNatClampNeg) (hI h550 (1, 0) (l3 + (2 : Int32)).toNatClampNeg) (hI h550 (1, 0) (l3 + (3 : Int32)).toNatClampNeg) h550 (fun (v558 : Int32) (h557 : xH) => ((v551 = v558 → ∀ v560 : Int32, v560 = l3 + (7 : Int32) → (p_L_law_L18 l1 l2 K18_2000 Q f) v560 (k) h557) ∧ (¬ v551 = v558 → Q (0 : Int32) h557))))) ∧ (((hI h (1, 0) l3.toNatClampNeg) &&& (63 : Int32)) = (35 : Int32) → (vp_in (l3 + (1 : Int32)) (hS h (1, 0) - 1)) ∧ (vp_in (l3 + (2 : Int32)) (hS h (1, 0) - 1)) ∧ (vp_in (l3 + (3 : Int32)) (hS h (1, 0) - 1)) ∧ (vp_in (l3 + (4 : Int32)) (hS h (1, 0) - 1)) ∧ (vp_in (l3 + (5 : Int32)) (hS h (1, 0) - 1)) ∧ (k + 0 ≤ 4000) ∧ (kd l1.1 = (1, 9)) ∧ p_T_gather l1 (hI h (1, 0) (l3 + (1 : Int32)).toNatClampNeg) (hI h (1, 0) (l3 + (2 : Int32)).toNatClampNeg) (hI h (1, 0) (l3 + (3 : Int32)).toNatClampNeg) (hI h (1, 0) (l3 + (4 : Int32)).toNatClampNeg) (hI h (1, 0) (l3 + (5 : Int32)).toNatClampNeg) h (fun (v570 : Int32) (h569 : xH) => (vp_in (l3 + (1 : Int32)) (hS h569 (1, 0) - 1)) ∧ (vp_in (l3 + (2 : Int32)) (hS h569 (1, 0) - 1)) ∧ (vp_in (l3 + (3 : Int32)) (hS h569 (1, 0) - 1)) ∧ (vp_in (l3 + (4 : Int32)) (hS h569 (1, 0) - 1)) ∧ (vp_in (l3 + (5 : Int32)) (hS h569 (1, 0) - 1)) ∧ (k + 0 ≤ 4000) ∧ (kd l2.1 = (1, 10)) ∧ p_M_gather l2 (hI h569 (1, 0) (l3 + (1 : Int32)).toNatClampNeg) (hI h569 (1, 0) (l3 + (2 : Int32)).toNatClampNeg) (hI h569 (1, 0) (l3 + (3 : Int32)).toNatClampNeg) (hI h569 (1, 0) (l3 + (4 : Int32)).toNatClampNeg) (hI h569 (1, 0) (l3 + (5 : Int32)).toNatClampNeg) h569 (fun (v579 : Int32) (h578 : xH) => ((v570 = v579 → ∀ v581 : Int32, v581 = l3 + (7 : Int32) → (p_L_law_L18 l1 l2 K18_2000 Q f) v581 (k) h578) ∧ (¬ v570 = v579 → Q (0 : Int32) h578))))) ∧ (((hI h (1, 0) l3.toNatClampNeg) &&& (63 : Int32)) = (36 : Int32) → (vp_in (l3 + (1 : Int32)) (hS h (1, 0) - 1)) ∧ (vp_in (l3 + (2 : Int32)) (hS h (1, 0) - 1)) ∧ (vp_in (l3 + (3 : Int32)) (hS h (1, 0) - 1)) ∧ (vp_in (l3 + (4 : Int32)) (hS h (1, 0) - 1)) ∧ (vp_in (l3 + (5 : Int32)) (hS h (1, 0) - 1)) ∧ (k + 0 ≤ 4000) ∧ (kd l1.1 = (1, 9)) ∧ p_T_shift l1 (hI h (1, 0) (l3 + (1 : Int32)).toNatClampNeg) (hI h (1, 0) (l3 + (2 : Int32)).toNatClampNeg) (hI h (1, 0) (l3 + (3 : Int32)).toNatClampNeg) (hI h (1, 0) (l3 + (4 : Int32)).toNatClampNeg) (hI h (1, 0) (l3 + (5 : Int32)).toNatClampNeg) h (fun (v591 : Int32) (h590 : xH) => (vp_in (l3 + (1 : Int32)) (hS h590 (1, 0) - 1)) ∧ (vp_in (l3 + (2 : Int32)) (hS h590 (1, 0) - 1)) ∧ (vp_in (l3 + (3 : Int32)) (hS h590 (1, 0) - 1)) ∧ (vp_in (l3 + (4 : Int32)) (hS h590 (1, 0) - 1)) ∧ (vp_in (l3 + (5 : Int32)) (hS h590 (1, 0) - 1)) ∧ (k + 0 ≤ 4000) ∧ (kd l2.1 = (1, 10)) ∧ p_M_shift l2 (hI h590 (1, 0) (l3 + (1 : Int32)).toNatClampNeg) (hI h590 (1, 0) (l3 + (2 : Int32)).toNatClampNeg) (hI h590 (1, 0) (l3 + (3 : Int32)).toNatClampNeg) (hI h590 (1, 0) (l3 + (4 : Int32)).toNatClampNeg) (hI h590 (1, 0) (l3 + (5 : Int32)).toNatClampNeg) h590 (fun (v600 : Int32) (h599 : xH) => ((v591 = v600 → ∀ v602 : Int32, v602 = l3 + (7 : Int32) → (p_L_law_L18 l1 l2 K18_2000 Q f) v602 (k) h599) ∧ (¬ v591 = v600 → Q (0 : Int32) h599))))) ∧ (((hI h (1, 0) l3.toNatClampNeg) &&& (63 : Int32)) = (37 : Int32) → (k + 0 ≤ 4000) ∧ (kd l1.1 = (1, 9)) ∧ p_T_came l1 h (fun (v607 : Int32) (h606 : xH) => (k + 0 ≤ 4000) ∧ (kd l2.1 = (1, 10)) ∧ p_M_came l2 h606 (fun (v611 : Int32) (h610 : xH) => ((v607 = v611 → ∀ v613 : Int32, v613 = l3 + (7 : Int32) → (p_L_law_L18 l1 l2 K18_2000 Q f) v613 (k) h610) ∧ (¬ v607 = v611 → Q (0 : Int32) h610))))) ∧ (((hI h (1, 0) l3.toNatClampNeg) &&& (63 : Int32)) = (38 : Int32) → (vp_in (l3 + (1 : Int32)) (hS h (1, 0) - 1)) ∧ (vp_in (l3 + (2 : Int32)) (hS h (1, 0) - 1)) ∧ (k + 0 ≤ 4000) ∧ (kd l1.1 = (1, 9)) ∧ p_T_held l1 (hI h (1, 0) (l3 + (1 : Int32)).toNatClampNeg) (hI h (1, 0) (l3 + (2 : Int32)).toNatClampNeg) h (fun (v620 : Int32) (h619 : xH) => (vp_in (l3 + (1 : Int32)) (hS h619 (1, 0) - 1)) ∧ (vp_in (l3 + (2 : Int32)) (hS h619 (1, 0) - 1)) ∧ (k + 0 ≤ 4000) ∧ (kd l2.1 = (1, 10)) ∧ p_M_held l2 (hI h619 (1, 0) (l3 + (1 : Int32)).toNatClampNeg) (hI h619 (1, 0) (l3 + (2 : Int32)).toNatClampNeg) h619 (fun (v626 : Int32) (h625 : xH) => ((v620 = v626 → ∀ v628 : Int32, v628 = l3 + (7 : Int32) → (p_L_law_L18 l1 l2 K18_2000 Q f) v628 (k) h625) ∧ (¬ v620 = v626 → Q (0 : Int32) h625))))) ∧ (((hI h (1, 0) l3.toNatClampNeg) &&& (63 : Int32)) = (39 : Int32) → (vp_in (l3 + (1 : Int32)) (hS h (1, 0) - 1)) ∧ (k + 0 ≤ 4000) ∧ (kd l1.1 = (1, 9)) ∧ p_T_cash l1 (hI h (1, 0) (l3 + (1 : Int32)).toNatClampNeg) h (fun (v634 : Int32) (h633 : xH) => (vp_in (l3 + (1 : Int32)) (hS h633 (1, 0) - 1)) ∧ (k + 0 ≤ 4000) ∧ (kd l2.1 = (1, 10)) ∧ p_M_cash l2 (hI h633 (1, 0) (l3 + (1 : Int32)).toNatClampNeg) h633 (fun (v639 : Int32) (h638 : xH) => ((v634 = v639 → ∀ v641 : Int32, v641 = l3 + (7 : Int32) → (p_L_law_L18 l1 l2 K18_2000 Q f) v641 (k) h638) ∧ (¬ v634 = v639 → Q (0 : Int32) h638))))) ∧ (((hI h (1, 0) l3.toNatClampNeg) &&& (63 : Int32)) = (40 : Int32) → (vp_in (l3 + (1 : Int32)) (hS h (1, 0) - 1)) ∧ (vp_in (l3 + (2 : Int32)) (hS h (1, 0) - 1)) ∧ (k + 0 ≤ 4000) ∧ (kd l1.1 = (1, 9)) ∧ p_T_lap l1 (hI h (1, 0) (l3 + (1 : Int32)).toNatClampNeg) (hI h (1, 0) (l3 + (2 : Int32)).toNatClampNeg) h (fun (v648 : Int32) (h647 : xH) => (vp_in (l3 + (1 : Int32)) (hS h647 (1, 0) - 1)) ∧ (vp_in (l3 + (2 : Int32)) (hS h647 (1, 0) - 1)) ∧ (k + 0 ≤ 4000) ∧ (kd l2.1 = (1, 10)) ∧ p_M_lap l2 (hI h647 (1, 0) (l3 + (1 : Int32)).toNatClampNeg) (hI h647 (1, 0) (l3 + (2 : Int32)).toNatClampNeg) h647 (fun (v654 : Int32) (h653 : xH) => ((v648 = v654 → ∀ v656 : Int32, v656 = l3 + (7 : Int32) → (p_L_law_L18 l1 l2 K18_2000 Q f) v656 (k) h653) ∧ (¬ v648 = v654 → Q (0 : Int32) h653))))) ∧ (((hI h (1, 0) l3.toNatClampNeg) &&& (63 : Int32)) = (41 : Int32) → (vp_in (l3 + (1 : Int32)) (hS h (1, 0) - 1)) ∧ (vp_in (l3 + (2 : Int32)) (hS h (1, 0) - 1)) ∧ (k + 0 ≤ 4000) ∧ (kd l1.1 = (1, 9)) ∧ p_T_lapAt l1 (hI h (1, 0) (l3 + (1 : Int32)).toNatClampNeg) (hI h (1, 0) (l3 + (2 : Int32)).toNatClampNeg) h (fun (v663 : Int32) (h662 : xH) => (vp_in (l3 + (1 : Int32)) (hS h662 (1, 0) - 1)) ∧ (vp_in (l3 + (2 : Int32)) (hS h662 (1, 0) - 1)) ∧ (k + 0 ≤ 4000) ∧ (kd l2.1 = (1, 10)) ∧ p_M_lapAt l2 (hI h662 (1, 0) (l3 + (1 : Int32)).toNatClampNeg) (hI h662 (1, 0) (l3 + (2 : Int32)).toNatClampNeg) h662 (fun (v669 : Int32) (h668 : xH) => ((v663 = v669 → ∀ v671 : Int32, v671 = l3 + (7 : Int32) → (p_L_law_L18 l1 l2 K18_2000 Q f) v671 (k) h668) ∧ (¬ v663 = v669 → Q (0 : Int32) h668))))) ∧ (((hI h (1, 0) l3.toNatClampNeg) &&& (63 : Int32)) = (42 : Int32) → (vp_in (l3 + (1 : Int32)) (hS h (1, 0) - 1)) ∧ (vp_in (l3 + (2 : Int32)) (hS h (1, 0) - 1)) ∧ (k + 0 ≤ 4000) ∧ (kd l1.1 = (1, 9)) ∧ p_T_pace l1 (hI h (1, 0) (l3 + (1 : Int32)).toNatClampNeg) (hI h (1, 0) (l3 + (2 : Int32)).toNatClampNeg) h (fun (v678 : Int32) (h677 : xH) => (vp_in (l3 + (1 : Int32)) (hS h677 (1, 0) - 1)) ∧ (vp_in (l3 + (2 : Int32)) (hS h677 (1, 0) - 1)) ∧ (k + 0 ≤ 4000) ∧ (kd l2.1 = (1, 10)) ∧ p_M_pace l2 (hI h677 (1, 0) (l3 + (1 : Int32)).toNatClampNeg) (hI h677 (1, 0) (l3 + (2 : Int32)).toNatClampNeg) h677 (fun (v684 : Int32) (h683 : xH) => ((v678 = v684 → ∀ v686 : Int32, v686 = l3 + (7 : Int32) → (p_L_law_L18 l1 l2 K18_2000 Q f) v686 (k) h683) ∧ (¬ v678 = v684 → Q (0 : Int32) h683))))) ∧ (((hI h (1, 0) l3.toNatClampNeg) &&& (63 : Int32)) = (43 : Int32) → (vp_in (l3 + (1 : Int32)) (hS h (1, 0) - 1)) ∧ (vp_in (l3 + (2 : Int32)) (hS h (1, 0) - 1)) ∧ (vp_in (l3 + (3 : Int32)) (hS h (1, 0) - 1)) ∧ (k + 0 ≤ 4000) ∧ (kd l1.1 = (1, 9)) ∧ p_T_remainder l1 (hI h (1, 0) (l3 + (1 : Int32)).toNatClampNeg) (hI h (1, 0) (l3 + (2 : Int32)).toNatClampNeg) (hI h (1, 0) (l3 + (3 : Int32)).toNatClampNeg) h (fun (v694 : Int32) (h693 : xH) => (vp_in (l3 + (1 : Int32)) (hS h693 (1, 0) - 1)) ∧ (vp_in (l3 + (2 : Int32)) (hS h693 (1, 0) - 1)) ∧ (vp_in (l3 + (3 : Int32)) (hS h693 (1, 0) - 1)) ∧ (k + 0 ≤ 4000) ∧ (kd l2.1 = (1, 10)) ∧ p_M_remainder l2 (hI h693 (1, 0) (l3 + (1 : Int32)).toNatClampNeg) (hI h693 (1, 0) (l3 + (2 : Int32)).toNatClampNeg) (hI h693 (1, 0) (l3 + (3 : Int32)).toNatClampNeg) h693 (fun (v701 : Int32) (h700 : xH) => ((v694 = v701 → ∀ v703 : Int32, v703 = l3 + (7 : Int32) → (p_L_law_L18 l1 l2 K18_2000 Q f) v703 (k) h700) ∧ (¬ v694 = v701 → Q (0 : Int32) h700))))) ∧ (((hI h (1, 0) l3.toNatClampNeg) &&& (63 : Int32)) = (44 : Int32) → (vp_in (l3 + (1 : Int32)) (hS h (1, 0) - 1)) ∧ (vp_in (l3 + (2 : Int32)) (hS h (1, 0) - 1)) ∧ (k + 0 ≤ 4000) ∧ (kd l1.1 = (1, 9)) ∧ p_T_ask l1 (hI h (1, 0) (l3 + (1 : Int32)).toNatClampNeg) (hI h (1, 0) (l3 + (2 : Int32)).toNatClampNeg) h (fun (v710 : Int32) (h709 : xH) => (vp_in (l3 + (1 : Int32)) (hS h709 (1, 0) - 1)) ∧ (vp_in (l3 + (2 : Int32)) (hS h709 (1, 0) - 1)) ∧ (k + 0 ≤ 4000) ∧ (kd l2.1 = (1, 10)) ∧ p_M_ask l2 (hI h709 (1, 0) (l3 + (1 : Int32)).toNatClampNeg) (hI h709 (1, 0) (l3 + (2 : Int32)).toNatClampNeg) h709 (fun (v716 : Int32) (h715 : xH) => ((v710 = v716 → ∀ v718 : Int32, v718 = l3 + (7 : Int32) → (p_L_law_L18 l1 l2 K18_2000 Q f) v718 (k) h715) ∧ (¬ v710 = v716 → Q (0 : Int32) h715))))) ∧ (((hI h (1, 0) l3.toNatClampNeg) &&& (63 : Int32)) = (45 : Int32) → (vp_in (l3 + (1 : Int32)) (hS h (1, 0) - 1)) ∧ (k + 0 ≤ 4000) ∧ (kd l1.1 = (1, 9)) ∧ p_T_trace l1 (hI h (1, 0) (l3 + (1 : Int32)).toNatClampNeg) h (fun (v724 : Int32) (h723 : xH) => (vp_in (l3 + (1 : Int32)) (hS h723 (1, 0) - 1)) ∧ (k + 0 ≤ 4000) ∧ (kd l2.1 = (1, 10)) ∧ p_M_trace l2 (hI h723 (1, 0) (l3 + (1 : Int32)).toNatClampNeg) h723 (fun (v729 : Int32) (h728 : xH) => ((v724 = v729 → ∀ v731 : Int32, v731 = l3 + (7 : Int32) → (p_L_law_L18 l1 l2 K18_2000 Q f) v731 (k) h728) ∧ (¬ v724 = v729 → Q (0 : Int32) h728))))) ∧ (((hI h (1, 0) l3.toNatClampNeg) &&& (63 : Int32)) = (46 : Int32) → (k + 0 ≤ 4000) ∧ (kd l1.1 = (1, 9)) ∧ p_T_finding l1 h (fun (v736 : Int32) (h735 : xH) => (k + 0 ≤ 4000) ∧ (kd l2.1 = (1, 10)) ∧ p_M_finding l2 h735 (fun (v740 : Int32) (h739 : xH) => ((v736 = v740 → ∀ v742 : Int32, v742 = l3 + (7 : Int32) → (p_L_law_L18 l1 l2 K18_2000 Q f) v742 (k) h739) ∧ (¬ v736 = v740 → Q (0 : Int32) h739))))) ∧ (((hI h (1, 0) l3.toNatClampNeg) &&& (63 : Int32)) = (47 : Int32) → (vp_in (l3 + (1 : Int32)) (hS h (1, 0) - 1)) ∧ (k + 0 ≤ 4000) ∧ (kd l1.1 = (1, 9)) ∧ p_T_count l1 (hI h (1, 0) (l3 + (1 : Int32)).toNatClampNeg) h (fun (v748 : Int32) (h747 : xH) => (vp_in (l3 + (1 : Int32)) (hS h747 (1, 0) - 1)) ∧ (k + 0 ≤ 4000) ∧ (kd l2.1 = (1, 10)) ∧ p_M_count l2 (hI h747 (1, 0) (l3 + (1 : Int32)).toNatClampNeg) h747 (fun (v753 : Int32) (h752 : xH) => ((v748 = v753 → ∀ v755 : Int32, v755 = l3 + (7 : Int32) → (p_L_law_L18 l1 l2 K18_2000 Q f) v755 (k) h752) ∧ (¬ v748 = v753 → Q (0 : Int32) h752))))) ∧ (((hI h (1, 0) l3.toNatClampNeg) &&& (63 : Int32)) = (48 : Int32) → (k + 0 ≤ 4000) ∧ (kd l1.1 = (1, 9)) ∧ p_T_digest l1 h (fun (v760 : Int64) (h759 : xH) => (k + 0 ≤ 4000) ∧ (kd l2.1 = (1, 10)) ∧ p_M_digest l2 h759 (fun (v764 : Int64) (h763 : xH) => (((lg_cmp v760 v764) = 0 → ∀ v766 : Int32, v766 = l3 + (7 : Int32) → (p_L_law_L18 l1 l2 K18_2000 Q f) v766 (k) h763) ∧ (¬ (lg_cmp v760 v764) = 0 → Q (0 : Int32) h763))))) ∧ ((∀ q ∈ ([(0 : Int32), (1 : Int32), (2 : Int32), (3 : Int32), (4 : Int32), (5 : Int32), (6 : Int32), (7 : Int32), (8 : Int32), (9 : Int32), (10 : Int32), (11 : Int32), (12 : Int32), (13 : Int32), (14 : Int32), (15 : Int32), (16 : Int32), (17 : Int32), (18 : Int32), (19 : Int32), (20 : Int32), (21 : Int32), (22 : Int32), (23 : Int32), (24 : Int32), (25 : Int32), (26 : Int32), (27 : Int32), (28 : Int32), (29 : Int32), (30 : Int32), (31 : Int32), (32 : Int32), (33 : Int32), (34 : Int32), (35 : Int32), (36 : Int32), (37 : Int32), (38 : Int32), (39 : Int32), (40 : Int32), (41 : Int32), (42 : Int32), (43 : Int32), (44 : Int32), (45 : Int32), (46 : Int32), (47 : Int32), (48 : Int32)] : List Int32), ((hI h (1, 0) l3.toNatClampNeg) &&& (63 : Int32)) ≠ q) → ∀ v768 : Int32, v768 = l3 + (7 : Int32) → (p_L_law_L18 l1 l2 K18_2000 Q f) v768 (k) h))))
set_option maxRecDepth 100000 in
set_option maxHeartbeats 4000000 in
theorem t_L_law_L18 (l1 : xN) (l2 : xN) (K18_2000 : Nat → xH → Prop) (Q : Int32 → xH → Prop) (hK18_2000 : ∀ (k : Nat) (h : xH), K18_2000 k h → WP M_L_law 2000 [] [] h k (qi Q)) : ∀ (f : Nat) (l3 : Int32) (k : Nat) (h : xH), p_L_law_L18 l1 l2 K18_2000 Q f l3 k h → WP M_L_law 18 [(0, xr ((1, 0) : xN)), (1, xr l1), (2, xr l2), (3, xi l3)] [] h k (qi Q) := by
  intro f
  induction f with
  | zero => exact fun _ _ _ H => H.elim
  | succ f hB18 =>
    intro l3 k h H
    unfold p_L_law_L18 at H
    refine wp_iload_n 3 rfl rfl dL_law_18 ?_
    refine wp_aload_n 0 rfl rfl dL_law_19 ?_
    refine wp_scrl rfl rfl dL_law_20 ?_
    refine wp_bipush (7 : Int32) (by decide) dL_law_21 ?_
    refine wp_isub dL_law_23 ?_
    refine WP.at 24 rfl ?_
    refine wp_icmp_gt 2000 (by decide) dL_law_24 (fun c9 => ?_) (fun c9 => ?_)
    · replace H := H.1 c9
      exact WP.pick [] rfl (hK18_2000 (k) _ H)
    · replace H := H.2 c9
      refine wp_aload_n 0 rfl rfl dL_law_27 ?_
      refine wp_iload_n 3 rfl rfl dL_law_28 ?_
      obtain ⟨q10, H⟩ := H
      refine wp_scr rfl q10 dL_law_29 ?_
      refine wp_bipush (63 : Int32) (by decide) dL_law_30 ?_
      refine wp_iand dL_law_32 ?_
      refine WP.at 33 rfl ?_
      refine wp_tsw dL_law_33 [((0 : Int32), 244), ((1 : Int32), 267), ((2 : Int32), 320), ((3 : Int32), 373), ((4 : Int32), 406), ((5 : Int32), 439), ((6 : Int32), 462), ((7 : Int32), 505), ((8 : Int32), 528), ((9 : Int32), 561), ((10 : Int32), 636), ((11 : Int32), 659), ((12 : Int32), 682), ((13 : Int32), 715), ((14 : Int32), 768), ((15 : Int32), 821), ((16 : Int32), 874), ((17 : Int32), 907), ((18 : Int32), 920), ((19 : Int32), 933), ((20 : Int32), 956), ((21 : Int32), 969), ((22 : Int32), 992), ((23 : Int32), 1025), ((24 : Int32), 1048), ((25 : Int32), 1091), ((26 : Int32), 1174), ((27 : Int32), 1217), ((28 : Int32), 1250), ((29 : Int32), 1283), ((30 : Int32), 1316), ((31 : Int32), 1359), ((32 : Int32), 1412), ((33 : Int32), 1455), ((34 : Int32), 1508), ((35 : Int32), 1551), ((36 : Int32), 1614), ((37 : Int32), 1677), ((38 : Int32), 1690), ((39 : Int32), 1723), ((40 : Int32), 1746), ((41 : Int32), 1779), ((42 : Int32), 1812), ((43 : Int32), 1845), ((44 : Int32), 1888), ((45 : Int32), 1921), ((46 : Int32), 1944), ((47 : Int32), 1957), ((48 : Int32), 1980)] 1994 (by decide) (by decide +kernel) (by decide +kernel) ?_ ?_
      · refine List.forall_mem_cons.mpr ⟨fun c0 => ?_, List.forall_mem_cons.mpr ⟨fun c0 => ?_, List.forall_mem_cons.mpr ⟨fun c0 => ?_, List.forall_mem_cons.mpr ⟨fun c0 => ?_, List.forall_mem_cons.mpr ⟨fun c0 => ?_, List.forall_mem_cons.mpr ⟨fun c0 => ?_, List.forall_mem_cons.mpr ⟨fun c0 => ?_, List.forall_mem_cons.mpr ⟨fun c0 => ?_, List.forall_mem_cons.mpr ⟨fun c0 => ?_, List.forall_mem_cons.mpr ⟨fun c0 => ?_, List.forall_mem_cons.mpr ⟨fun c0 => ?_, List.forall_mem_cons.mpr ⟨fun c0 => ?_, List.forall_mem_cons.mpr ⟨fun c0 => ?_, List.forall_mem_cons.mpr ⟨fun c0 => ?_, List.forall_mem_cons.mpr ⟨fun c0 => ?_, List.forall_mem_cons.mpr ⟨fun c0 => ?_, List.forall_mem_cons.mpr ⟨fun c0 => ?_, List.forall_mem_cons.mpr ⟨fun c0 => ?_, List.forall_mem_cons.mpr ⟨fun c0 => ?_, List.forall_mem_cons.mpr ⟨fun c0 => ?_, List.forall_mem_cons.mpr ⟨fun c0 => ?_, List.forall_mem_cons.mpr ⟨fun c0 => ?_, List.forall_mem_cons.mpr ⟨fun c0 => ?_, List.forall_mem_cons.mpr ⟨fun c0 => ?_, List.forall_mem_cons.mpr ⟨fun c0 => ?_, List.forall_mem_cons.mpr ⟨fun c0 => ?_, List.forall_mem_cons.mpr ⟨fun c0 => ?_, List.forall_mem_cons.mpr ⟨fun c0 => ?_, List.forall_mem_cons.mpr ⟨fun c0 => ?_, List.forall_mem_cons.mpr ⟨fun c0 => ?_, List.forall_mem_cons.mpr ⟨fun c0 => ?_, List.forall_mem_cons.mpr ⟨fun c0 => ?_, List.forall_mem_cons.mpr ⟨fun c0 => ?_, List.forall_mem_cons.mpr ⟨fun c0 => ?_, List.forall_mem_cons.mpr ⟨fun c0 => ?_, List.forall_mem_cons.mpr ⟨fun c0 => ?_, List.forall_mem_cons.mpr ⟨fun c0 => ?_, List.forall_mem_cons.mpr ⟨fun c0 => ?_, List.forall_mem_cons.mpr ⟨fun c0 => ?_, List.forall_mem_cons.mpr ⟨fun c0 => ?_, List.forall_mem_cons.mpr ⟨fun c0 => ?_, List.forall_mem_cons.mpr ⟨fun c0 => ?_, List.forall_mem_cons.mpr ⟨fun c0 => ?_, List.forall_mem_cons.mpr ⟨fun c0 => ?_, List.forall_mem_cons.mpr ⟨fun c0 => ?_, List.forall_mem_cons.mpr ⟨fun c0 => ?_, List.forall_mem_cons.mpr ⟨fun c0 => ?_, List.forall_mem_cons.mpr ⟨fun c0 => ?_, List.forall_mem_cons.mpr ⟨fun c0 => ?_, fun _ z => absurd z List.not_mem_nil⟩⟩⟩⟩⟩⟩⟩⟩⟩⟩⟩⟩⟩⟩⟩⟩⟩⟩⟩⟩⟩⟩⟩⟩⟩⟩⟩⟩⟩⟩⟩⟩⟩⟩⟩⟩⟩⟩⟩⟩⟩⟩⟩⟩⟩⟩⟩⟩⟩
        · replace H := H.1 c0
          refine wp_aload_n 1 rfl rfl dL_law_244 ?_
          refine wp_aload_n 0 rfl rfl dL_law_245 ?_
          refine wp_iload_n 3 rfl rfl dL_law_246 ?_
          refine wp_iconst (1 : Int32) (by decide) dL_law_247 ?_
          refine wp_iadd dL_law_248 ?_
          obtain ⟨q11, H⟩ := H
          refine wp_scr rfl q11 dL_law_249 ?_
          refine WP.at 250 rfl ?_
          obtain ⟨q12, H⟩ := H
          obtain ⟨q13, H⟩ := H
          refine wp_cVi (M2 := M_T_race) coX10 l1 q13 [xi (hI h (1, 0) (l3 + (1 : Int32)).toNatClampNeg)] rfl lv_L_13 mo_T_race (Nat.le_of_ble_eq_true rfl) ⟨(Nat.le_of_ble_eq_true rfl), (Nat.le_of_ble_eq_true rfl)⟩ (Nat.le_of_ble_eq_true rfl) q12 dL_law_250 (t_T_race l1 (hI h (1, 0) (l3 + (1 : Int32)).toNatClampNeg) _ _ H) (fun v15 h14 H => ?_)
          refine WP.at 253 rfl ?_
          refine wp_aload_n 2 rfl rfl dL_law_253 ?_
          refine wp_aload_n 0 rfl rfl dL_law_254 ?_
          refine wp_iload_n 3 rfl rfl dL_law_255 ?_
          refine wp_iconst (1 : Int32) (by decide) dL_law_256 ?_
          refine wp_iadd dL_law_257 ?_
          obtain ⟨q16, H⟩ := H
          refine wp_scr rfl q16 dL_law_258 ?_
          refine WP.at 259 rfl ?_
          obtain ⟨q17, H⟩ := H
          obtain ⟨q18, H⟩ := H
          refine wp_cVi (M2 := M_M_race) coX11 l2 q18 [xi (hI h14 (1, 0) (l3 + (1 : Int32)).toNatClampNeg)] rfl lv_L_17 mo_M_race (Nat.le_of_ble_eq_true rfl) ⟨(Nat.le_of_ble_eq_true rfl), (Nat.le_of_ble_eq_true rfl)⟩ (Nat.le_of_ble_eq_true rfl) q17 dL_law_259 (t_M_race l2 (hI h14 (1, 0) (l3 + (1 : Int32)).toNatClampNeg) _ _ H) (fun v20 h19 H => ?_)
          refine WP.at 262 rfl ?_
          refine wp_icmp_eq 1994 (by decide) dL_law_262 (fun c21 => ?_) (fun c21 => ?_)
          · replace H := H.1 c21
            refine wp_iincN (7 : Int32) (by decide) rfl (Nat.le_of_ble_eq_true rfl) dL_law_1994 (ls' := fun v22 => [(3, xi v22), (0, xr ((1, 0) : xN)), (1, xr l1), (2, xr l2)]) (fun _ => rfl) (fun v22 e23 => ?_)
            replace H := H v22 e23
            refine WP.at 1997 rfl ?_
            refine wp_goto 18 (by decide) dL_law_1997 ?_
            exact WP.pick [1, 2, 3, 0] rfl (hB18 v22 (k + 7) _ H)
          · replace H := H.2 c21
            refine wp_iconst (0 : Int32) (by decide) dL_law_265 ?_
            exact wp_iret (Or.inl rfl) dL_law_266 H
        · replace H := H.2.1 c0
          refine wp_aload_n 1 rfl rfl dL_law_267 ?_
          refine wp_aload_n 0 rfl rfl dL_law_268 ?_
          refine wp_iload_n 3 rfl rfl dL_law_269 ?_
          refine wp_iconst (1 : Int32) (by decide) dL_law_270 ?_
          refine wp_iadd dL_law_271 ?_
          obtain ⟨q24, H⟩ := H
          refine wp_scr rfl q24 dL_law_272 ?_
          refine wp_aload_n 0 rfl rfl dL_law_273 ?_
          refine WP.at 274 rfl ?_
          refine wp_iload_n 3 rfl rfl dL_law_274 ?_
          refine wp_iconst (2 : Int32) (by decide) dL_law_275 ?_
          refine wp_iadd dL_law_276 ?_
          obtain ⟨q25, H⟩ := H
          refine wp_scr rfl q25 dL_law_277 ?_
          refine wp_aload_n 0 rfl rfl dL_law_278 ?_
          refine wp_iload_n 3 rfl rfl dL_law_279 ?_
          refine wp_iconst (3 : Int32) (by decide) dL_law_280 ?_
          refine wp_iadd dL_law_281 ?_
          refine WP.at 282 rfl ?_
          obtain ⟨q26, H⟩ := H
          refine wp_scr rfl q26 dL_law_282 ?_
          refine wp_aload_n 0 rfl rfl dL_law_283 ?_
          refine wp_iload_n 3 rfl rfl dL_law_284 ?_
          refine wp_iconst (4 : Int32) (by decide) dL_law_285 ?_
          refine wp_iadd dL_law_286 ?_
          obtain ⟨q27, H⟩ := H
          refine wp_scr rfl q27 dL_law_287 ?_
          refine WP.at 288 rfl ?_
          obtain ⟨q28, H⟩ := H
          obtain ⟨q29, H⟩ := H
          refine wp_cVi (M2 := M_T_pool) coX10 l1 q29 [xi (hI h (1, 0) (l3 + (1 : Int32)).toNatClampNeg), xi (hI h (1, 0) (l3 + (2 : Int32)).toNatClampNeg), xi (hI h (1, 0) (l3 + (3 : Int32)).toNatClampNeg), xi (hI h (1, 0) (l3 + (4 : Int32)).toNatClampNeg)] rfl lv_L_18 mo_T_pool (Nat.le_of_ble_eq_true rfl) ⟨(Nat.le_of_ble_eq_true rfl), (Nat.le_of_ble_eq_true rfl)⟩ (Nat.le_of_ble_eq_true rfl) q28 dL_law_288 (t_T_pool l1 (hI h (1, 0) (l3 + (1 : Int32)).toNatClampNeg) (hI h (1, 0) (l3 + (2 : Int32)).toNatClampNeg) (hI h (1, 0) (l3 + (3 : Int32)).toNatClampNeg) (hI h (1, 0) (l3 + (4 : Int32)).toNatClampNeg) _ _ H) (fun v31 h30 H => ?_)
          refine wp_aload_n 2 rfl rfl dL_law_291 ?_
          refine WP.at 292 rfl ?_
          refine wp_aload_n 0 rfl rfl dL_law_292 ?_
          refine wp_iload_n 3 rfl rfl dL_law_293 ?_
          refine wp_iconst (1 : Int32) (by decide) dL_law_294 ?_
          refine wp_iadd dL_law_295 ?_
          obtain ⟨q32, H⟩ := H
          refine wp_scr rfl q32 dL_law_296 ?_
          refine wp_aload_n 0 rfl rfl dL_law_297 ?_
          refine wp_iload_n 3 rfl rfl dL_law_298 ?_
          refine wp_iconst (2 : Int32) (by decide) dL_law_299 ?_
          refine WP.at 300 rfl ?_
          refine wp_iadd dL_law_300 ?_
          obtain ⟨q33, H⟩ := H
          refine wp_scr rfl q33 dL_law_301 ?_
          refine wp_aload_n 0 rfl rfl dL_law_302 ?_
          refine wp_iload_n 3 rfl rfl dL_law_303 ?_
          refine wp_iconst (3 : Int32) (by decide) dL_law_304 ?_
          refine wp_iadd dL_law_305 ?_
          obtain ⟨q34, H⟩ := H
          refine wp_scr rfl q34 dL_law_306 ?_
          refine wp_aload_n 0 rfl rfl dL_law_307 ?_
          refine WP.at 308 rfl ?_
          refine wp_iload_n 3 rfl rfl dL_law_308 ?_
          refine wp_iconst (4 : Int32) (by decide) dL_law_309 ?_
          refine wp_iadd dL_law_310 ?_
          obtain ⟨q35, H⟩ := H
          refine wp_scr rfl q35 dL_law_311 ?_
          refine WP.at 312 rfl ?_
          obtain ⟨q36, H⟩ := H
          obtain ⟨q37, H⟩ := H
          refine wp_cVi (M2 := M_M_pool) coX11 l2 q37 [xi (hI h30 (1, 0) (l3 + (1 : Int32)).toNatClampNeg), xi (hI h30 (1, 0) (l3 + (2 : Int32)).toNatClampNeg), xi (hI h30 (1, 0) (l3 + (3 : Int32)).toNatClampNeg), xi (hI h30 (1, 0) (l3 + (4 : Int32)).toNatClampNeg)] rfl lv_L_22 mo_M_pool (Nat.le_of_ble_eq_true rfl) ⟨(Nat.le_of_ble_eq_true rfl), (Nat.le_of_ble_eq_true rfl)⟩ (Nat.le_of_ble_eq_true rfl) q36 dL_law_312 (t_M_pool l2 (hI h30 (1, 0) (l3 + (1 : Int32)).toNatClampNeg) (hI h30 (1, 0) (l3 + (2 : Int32)).toNatClampNeg) (hI h30 (1, 0) (l3 + (3 : Int32)).toNatClampNeg) (hI h30 (1, 0) (l3 + (4 : Int32)).toNatClampNeg) _ _ H) (fun v39 h38 H => ?_)
          refine WP.at 315 rfl ?_
          refine wp_icmp_eq 1994 (by decide) dL_law_315 (fun c40 => ?_) (fun c40 => ?_)
          · replace H := H.1 c40
            refine wp_iincN (7 : Int32) (by decide) rfl (Nat.le_of_ble_eq_true rfl) dL_law_1994 (ls' := fun v41 => [(3, xi v41), (0, xr ((1, 0) : xN)), (1, xr l1), (2, xr l2)]) (fun _ => rfl) (fun v41 e42 => ?_)
            replace H := H v41 e42
            refine WP.at 1997 rfl ?_
            refine wp_goto 18 (by decide) dL_law_1997 ?_
            exact WP.pick [1, 2, 3, 0] rfl (hB18 v41 (k + 6) _ H)
          · replace H := H.2 c40
            refine wp_iconst (0 : Int32) (by decide) dL_law_318 ?_
            exact wp_iret (Or.inl rfl) dL_law_319 H
        · replace H := H.2.2.1 c0
          refine wp_aload_n 1 rfl rfl dL_law_320 ?_
          refine wp_aload_n 0 rfl rfl dL_law_321 ?_
          refine wp_iload_n 3 rfl rfl dL_law_322 ?_
          refine wp_iconst (1 : Int32) (by decide) dL_law_323 ?_
          refine wp_iadd dL_law_324 ?_
          obtain ⟨q43, H⟩ := H
          refine wp_scr rfl q43 dL_law_325 ?_
          refine wp_aload_n 0 rfl rfl dL_law_326 ?_
          refine WP.at 327 rfl ?_
          refine wp_iload_n 3 rfl rfl dL_law_327 ?_
          refine wp_iconst (2 : Int32) (by decide) dL_law_328 ?_
          refine wp_iadd dL_law_329 ?_
          obtain ⟨q44, H⟩ := H
          refine wp_scr rfl q44 dL_law_330 ?_
          refine wp_aload_n 0 rfl rfl dL_law_331 ?_
          refine wp_iload_n 3 rfl rfl dL_law_332 ?_
          refine wp_iconst (3 : Int32) (by decide) dL_law_333 ?_
          refine wp_iadd dL_law_334 ?_
          refine WP.at 335 rfl ?_
          obtain ⟨q45, H⟩ := H
          refine wp_scr rfl q45 dL_law_335 ?_
          refine wp_aload_n 0 rfl rfl dL_law_336 ?_
          refine wp_iload_n 3 rfl rfl dL_law_337 ?_
          refine wp_iconst (4 : Int32) (by decide) dL_law_338 ?_
          refine wp_iadd dL_law_339 ?_
          obtain ⟨q46, H⟩ := H
          refine wp_scr rfl q46 dL_law_340 ?_
          refine WP.at 341 rfl ?_
          obtain ⟨q47, H⟩ := H
          obtain ⟨q48, H⟩ := H
          refine wp_cVi (M2 := M_T_twin) coX10 l1 q48 [xi (hI h (1, 0) (l3 + (1 : Int32)).toNatClampNeg), xi (hI h (1, 0) (l3 + (2 : Int32)).toNatClampNeg), xi (hI h (1, 0) (l3 + (3 : Int32)).toNatClampNeg), xi (hI h (1, 0) (l3 + (4 : Int32)).toNatClampNeg)] rfl lv_L_23 mo_T_twin (Nat.le_of_ble_eq_true rfl) ⟨(Nat.le_of_ble_eq_true rfl), (Nat.le_of_ble_eq_true rfl)⟩ (Nat.le_of_ble_eq_true rfl) q47 dL_law_341 (t_T_twin l1 (hI h (1, 0) (l3 + (1 : Int32)).toNatClampNeg) (hI h (1, 0) (l3 + (2 : Int32)).toNatClampNeg) (hI h (1, 0) (l3 + (3 : Int32)).toNatClampNeg) (hI h (1, 0) (l3 + (4 : Int32)).toNatClampNeg) _ _ H) (fun v50 h49 H => ?_)
          refine wp_aload_n 2 rfl rfl dL_law_344 ?_
          refine WP.at 345 rfl ?_
          refine wp_aload_n 0 rfl rfl dL_law_345 ?_
          refine wp_iload_n 3 rfl rfl dL_law_346 ?_
          refine wp_iconst (1 : Int32) (by decide) dL_law_347 ?_
          refine wp_iadd dL_law_348 ?_
          obtain ⟨q51, H⟩ := H
          refine wp_scr rfl q51 dL_law_349 ?_
          refine wp_aload_n 0 rfl rfl dL_law_350 ?_
          refine wp_iload_n 3 rfl rfl dL_law_351 ?_
          refine wp_iconst (2 : Int32) (by decide) dL_law_352 ?_
          refine WP.at 353 rfl ?_
          refine wp_iadd dL_law_353 ?_
          obtain ⟨q52, H⟩ := H
          refine wp_scr rfl q52 dL_law_354 ?_
          refine wp_aload_n 0 rfl rfl dL_law_355 ?_
          refine wp_iload_n 3 rfl rfl dL_law_356 ?_
          refine wp_iconst (3 : Int32) (by decide) dL_law_357 ?_
          refine wp_iadd dL_law_358 ?_
          obtain ⟨q53, H⟩ := H
          refine wp_scr rfl q53 dL_law_359 ?_
          refine wp_aload_n 0 rfl rfl dL_law_360 ?_
          refine WP.at 361 rfl ?_
          refine wp_iload_n 3 rfl rfl dL_law_361 ?_
          refine wp_iconst (4 : Int32) (by decide) dL_law_362 ?_
          refine wp_iadd dL_law_363 ?_
          obtain ⟨q54, H⟩ := H
          refine wp_scr rfl q54 dL_law_364 ?_
          refine WP.at 365 rfl ?_
          obtain ⟨q55, H⟩ := H
          obtain ⟨q56, H⟩ := H
          refine wp_cVi (M2 := M_M_twin) coX11 l2 q56 [xi (hI h49 (1, 0) (l3 + (1 : Int32)).toNatClampNeg), xi (hI h49 (1, 0) (l3 + (2 : Int32)).toNatClampNeg), xi (hI h49 (1, 0) (l3 + (3 : Int32)).toNatClampNeg), xi (hI h49 (1, 0) (l3 + (4 : Int32)).toNatClampNeg)] rfl lv_L_26 mo_M_twin (Nat.le_of_ble_eq_true rfl) ⟨(Nat.le_of_ble_eq_true rfl), (Nat.le_of_ble_eq_true rfl)⟩ (Nat.le_of_ble_eq_true rfl) q55 dL_law_365 (t_M_twin l2 (hI h49 (1, 0) (l3 + (1 : Int32)).toNatClampNeg) (hI h49 (1, 0) (l3 + (2 : Int32)).toNatClampNeg) (hI h49 (1, 0) (l3 + (3 : Int32)).toNatClampNeg) (hI h49 (1, 0) (l3 + (4 : Int32)).toNatClampNeg) _ _ H) (fun v58 h57 H => ?_)
          refine WP.at 368 rfl ?_
          refine wp_icmp_eq 1994 (by decide) dL_law_368 (fun c59 => ?_) (fun c59 => ?_)
          · replace H := H.1 c59
            refine wp_iincN (7 : Int32) (by decide) rfl (Nat.le_of_ble_eq_true rfl) dL_law_1994 (ls' := fun v60 => [(3, xi v60), (0, xr ((1, 0) : xN)), (1, xr l1), (2, xr l2)]) (fun _ => rfl) (fun v60 e61 => ?_)
            replace H := H v60 e61
            refine WP.at 1997 rfl ?_
            refine wp_goto 18 (by decide) dL_law_1997 ?_
            exact WP.pick [1, 2, 3, 0] rfl (hB18 v60 (k + 6) _ H)
          · replace H := H.2 c59
            refine wp_iconst (0 : Int32) (by decide) dL_law_371 ?_
            exact wp_iret (Or.inl rfl) dL_law_372 H
        · replace H := H.2.2.2.1 c0
          refine wp_aload_n 1 rfl rfl dL_law_373 ?_
          refine wp_aload_n 0 rfl rfl dL_law_374 ?_
          refine wp_iload_n 3 rfl rfl dL_law_375 ?_
          refine wp_iconst (1 : Int32) (by decide) dL_law_376 ?_
          refine wp_iadd dL_law_377 ?_
          obtain ⟨q62, H⟩ := H
          refine wp_scr rfl q62 dL_law_378 ?_
          refine wp_aload_n 0 rfl rfl dL_law_379 ?_
          refine WP.at 380 rfl ?_
          refine wp_iload_n 3 rfl rfl dL_law_380 ?_
          refine wp_iconst (2 : Int32) (by decide) dL_law_381 ?_
          refine wp_iadd dL_law_382 ?_
          obtain ⟨q63, H⟩ := H
          refine wp_scr rfl q63 dL_law_383 ?_
          refine WP.at 384 rfl ?_
          obtain ⟨q64, H⟩ := H
          obtain ⟨q65, H⟩ := H
          refine wp_cVi (M2 := M_T_substitute) coX10 l1 q65 [xi (hI h (1, 0) (l3 + (1 : Int32)).toNatClampNeg), xi (hI h (1, 0) (l3 + (2 : Int32)).toNatClampNeg)] rfl lv_L_27 mo_T_substitute (Nat.le_of_ble_eq_true rfl) ⟨(Nat.le_of_ble_eq_true rfl), (Nat.le_of_ble_eq_true rfl)⟩ (Nat.le_of_ble_eq_true rfl) q64 dL_law_384 (t_T_substitute l1 (hI h (1, 0) (l3 + (1 : Int32)).toNatClampNeg) (hI h (1, 0) (l3 + (2 : Int32)).toNatClampNeg) _ _ H) (fun v67 h66 H => ?_)
          refine wp_aload_n 2 rfl rfl dL_law_387 ?_
          refine wp_aload_n 0 rfl rfl dL_law_388 ?_
          refine wp_iload_n 3 rfl rfl dL_law_389 ?_
          refine WP.at 390 rfl ?_
          refine wp_iconst (1 : Int32) (by decide) dL_law_390 ?_
          refine wp_iadd dL_law_391 ?_
          obtain ⟨q68, H⟩ := H
          refine wp_scr rfl q68 dL_law_392 ?_
          refine wp_aload_n 0 rfl rfl dL_law_393 ?_
          refine wp_iload_n 3 rfl rfl dL_law_394 ?_
          refine wp_iconst (2 : Int32) (by decide) dL_law_395 ?_
          refine wp_iadd dL_law_396 ?_
          obtain ⟨q69, H⟩ := H
          refine wp_scr rfl q69 dL_law_397 ?_
          refine WP.at 398 rfl ?_
          refine WP.at 398 rfl ?_
          obtain ⟨q70, H⟩ := H
          obtain ⟨q71, H⟩ := H
          refine wp_cVi (M2 := M_M_substitute) coX11 l2 q71 [xi (hI h66 (1, 0) (l3 + (1 : Int32)).toNatClampNeg), xi (hI h66 (1, 0) (l3 + (2 : Int32)).toNatClampNeg)] rfl lv_L_31 mo_M_substitute (Nat.le_of_ble_eq_true rfl) ⟨(Nat.le_of_ble_eq_true rfl), (Nat.le_of_ble_eq_true rfl)⟩ (Nat.le_of_ble_eq_true rfl) q70 dL_law_398 (t_M_substitute l2 (hI h66 (1, 0) (l3 + (1 : Int32)).toNatClampNeg) (hI h66 (1, 0) (l3 + (2 : Int32)).toNatClampNeg) _ _ H) (fun v73 h72 H => ?_)
          refine WP.at 401 rfl ?_
          refine wp_icmp_eq 1994 (by decide) dL_law_401 (fun c74 => ?_) (fun c74 => ?_)
          · replace H := H.1 c74
            refine wp_iincN (7 : Int32) (by decide) rfl (Nat.le_of_ble_eq_true rfl) dL_law_1994 (ls' := fun v75 => [(3, xi v75), (0, xr ((1, 0) : xN)), (1, xr l1), (2, xr l2)]) (fun _ => rfl) (fun v75 e76 => ?_)
            replace H := H v75 e76
            refine WP.at 1997 rfl ?_
            refine wp_goto 18 (by decide) dL_law_1997 ?_
            exact WP.pick [1, 2, 3, 0] rfl (hB18 v75 (k) _ H)
          · replace H := H.2 c74
            refine wp_iconst (0 : Int32) (by decide) dL_law_404 ?_
            exact wp_iret (Or.inl rfl) dL_law_405 H
        · replace H := H.2.2.2.2.1 c0
          refine wp_aload_n 1 rfl rfl dL_law_406 ?_
          refine wp_aload_n 0 rfl rfl dL_law_407 ?_
          refine wp_iload_n 3 rfl rfl dL_law_408 ?_
          refine wp_iconst (1 : Int32) (by decide) dL_law_409 ?_
          refine wp_iadd dL_law_410 ?_
          obtain ⟨q77, H⟩ := H
          refine wp_scr rfl q77 dL_law_411 ?_
          refine wp_aload_n 0 rfl rfl dL_law_412 ?_
          refine WP.at 413 rfl ?_
          refine wp_iload_n 3 rfl rfl dL_law_413 ?_
          refine wp_iconst (2 : Int32) (by decide) dL_law_414 ?_
          refine wp_iadd dL_law_415 ?_
          obtain ⟨q78, H⟩ := H
          refine wp_scr rfl q78 dL_law_416 ?_
          refine WP.at 417 rfl ?_
          obtain ⟨q79, H⟩ := H
          obtain ⟨q80, H⟩ := H
          refine wp_cVi (M2 := M_T_scratch) coX10 l1 q80 [xi (hI h (1, 0) (l3 + (1 : Int32)).toNatClampNeg), xi (hI h (1, 0) (l3 + (2 : Int32)).toNatClampNeg)] rfl lv_L_32 mo_T_scratch (Nat.le_of_ble_eq_true rfl) ⟨(Nat.le_of_ble_eq_true rfl), (Nat.le_of_ble_eq_true rfl)⟩ (Nat.le_of_ble_eq_true rfl) q79 dL_law_417 (t_T_scratch l1 (hI h (1, 0) (l3 + (1 : Int32)).toNatClampNeg) (hI h (1, 0) (l3 + (2 : Int32)).toNatClampNeg) _ _ H) (fun v82 h81 H => ?_)
          refine wp_aload_n 2 rfl rfl dL_law_420 ?_
          refine wp_aload_n 0 rfl rfl dL_law_421 ?_
          refine wp_iload_n 3 rfl rfl dL_law_422 ?_
          refine WP.at 423 rfl ?_
          refine wp_iconst (1 : Int32) (by decide) dL_law_423 ?_
          refine wp_iadd dL_law_424 ?_
          obtain ⟨q83, H⟩ := H
          refine wp_scr rfl q83 dL_law_425 ?_
          refine wp_aload_n 0 rfl rfl dL_law_426 ?_
          refine wp_iload_n 3 rfl rfl dL_law_427 ?_
          refine wp_iconst (2 : Int32) (by decide) dL_law_428 ?_
          refine wp_iadd dL_law_429 ?_
          obtain ⟨q84, H⟩ := H
          refine wp_scr rfl q84 dL_law_430 ?_
          refine WP.at 431 rfl ?_
          refine WP.at 431 rfl ?_
          obtain ⟨q85, H⟩ := H
          obtain ⟨q86, H⟩ := H
          refine wp_cVi (M2 := M_M_scratch) coX11 l2 q86 [xi (hI h81 (1, 0) (l3 + (1 : Int32)).toNatClampNeg), xi (hI h81 (1, 0) (l3 + (2 : Int32)).toNatClampNeg)] rfl lv_L_35 mo_M_scratch (Nat.le_of_ble_eq_true rfl) ⟨(Nat.le_of_ble_eq_true rfl), (Nat.le_of_ble_eq_true rfl)⟩ (Nat.le_of_ble_eq_true rfl) q85 dL_law_431 (t_M_scratch l2 (hI h81 (1, 0) (l3 + (1 : Int32)).toNatClampNeg) (hI h81 (1, 0) (l3 + (2 : Int32)).toNatClampNeg) _ _ H) (fun v88 h87 H => ?_)
          refine WP.at 434 rfl ?_
          refine wp_icmp_eq 1994 (by decide) dL_law_434 (fun c89 => ?_) (fun c89 => ?_)
          · replace H := H.1 c89
            refine wp_iincN (7 : Int32) (by decide) rfl (Nat.le_of_ble_eq_true rfl) dL_law_1994 (ls' := fun v90 => [(3, xi v90), (0, xr ((1, 0) : xN)), (1, xr l1), (2, xr l2)]) (fun _ => rfl) (fun v90 e91 => ?_)
            replace H := H v90 e91
            refine WP.at 1997 rfl ?_
            refine wp_goto 18 (by decide) dL_law_1997 ?_
            exact WP.pick [1, 2, 3, 0] rfl (hB18 v90 (k) _ H)
          · replace H := H.2 c89
            refine wp_iconst (0 : Int32) (by decide) dL_law_437 ?_
            exact wp_iret (Or.inl rfl) dL_law_438 H
        · replace H := H.2.2.2.2.2.1 c0
          refine wp_aload_n 1 rfl rfl dL_law_439 ?_
          refine wp_aload_n 0 rfl rfl dL_law_440 ?_
          refine wp_iload_n 3 rfl rfl dL_law_441 ?_
          refine wp_iconst (1 : Int32) (by decide) dL_law_442 ?_
          refine wp_iadd dL_law_443 ?_
          obtain ⟨q92, H⟩ := H
          refine wp_scr rfl q92 dL_law_444 ?_
          refine WP.at 445 rfl ?_
          obtain ⟨q93, H⟩ := H
          obtain ⟨q94, H⟩ := H
          refine wp_cVi (M2 := M_T_off) coX10 l1 q94 [xi (hI h (1, 0) (l3 + (1 : Int32)).toNatClampNeg)] rfl lv_L_36 mo_T_off (Nat.le_of_ble_eq_true rfl) ⟨(Nat.le_of_ble_eq_true rfl), (Nat.le_of_ble_eq_true rfl)⟩ (Nat.le_of_ble_eq_true rfl) q93 dL_law_445 (t_T_off l1 (hI h (1, 0) (l3 + (1 : Int32)).toNatClampNeg) _ _ H) (fun v96 h95 H => ?_)
          refine WP.at 448 rfl ?_
          refine wp_aload_n 2 rfl rfl dL_law_448 ?_
          refine wp_aload_n 0 rfl rfl dL_law_449 ?_
          refine wp_iload_n 3 rfl rfl dL_law_450 ?_
          refine wp_iconst (1 : Int32) (by decide) dL_law_451 ?_
          refine wp_iadd dL_law_452 ?_
          obtain ⟨q97, H⟩ := H
          refine wp_scr rfl q97 dL_law_453 ?_
          refine WP.at 454 rfl ?_
          obtain ⟨q98, H⟩ := H
          obtain ⟨q99, H⟩ := H
          refine wp_cVi (M2 := M_M_off) coX11 l2 q99 [xi (hI h95 (1, 0) (l3 + (1 : Int32)).toNatClampNeg)] rfl lv_L_39 mo_M_off (Nat.le_of_ble_eq_true rfl) ⟨(Nat.le_of_ble_eq_true rfl), (Nat.le_of_ble_eq_true rfl)⟩ (Nat.le_of_ble_eq_true rfl) q98 dL_law_454 (t_M_off l2 (hI h95 (1, 0) (l3 + (1 : Int32)).toNatClampNeg) _ _ H) (fun v101 h100 H => ?_)
          refine WP.at 457 rfl ?_
          refine wp_icmp_eq 1994 (by decide) dL_law_457 (fun c102 => ?_) (fun c102 => ?_)
          · replace H := H.1 c102
            refine wp_iincN (7 : Int32) (by decide) rfl (Nat.le_of_ble_eq_true rfl) dL_law_1994 (ls' := fun v103 => [(3, xi v103), (0, xr ((1, 0) : xN)), (1, xr l1), (2, xr l2)]) (fun _ => rfl) (fun v103 e104 => ?_)
            replace H := H v103 e104
            refine WP.at 1997 rfl ?_
            refine wp_goto 18 (by decide) dL_law_1997 ?_
            exact WP.pick [1, 2, 3, 0] rfl (hB18 v103 (k) _ H)
          · replace H := H.2 c102
            refine wp_iconst (0 : Int32) (by decide) dL_law_460 ?_
            exact wp_iret (Or.inl rfl) dL_law_461 H
        · replace H := H.2.2.2.2.2.2.1 c0
          refine wp_aload_n 1 rfl rfl dL_law_462 ?_
          refine wp_aload_n 0 rfl rfl dL_law_463 ?_
          refine wp_iload_n 3 rfl rfl dL_law_464 ?_
          refine wp_iconst (1 : Int32) (by decide) dL_law_465 ?_
          refine wp_iadd dL_law_466 ?_
          obtain ⟨q105, H⟩ := H
          refine wp_scr rfl q105 dL_law_467 ?_
          refine wp_aload_n 0 rfl rfl dL_law_468 ?_
          refine WP.at 469 rfl ?_
          refine wp_iload_n 3 rfl rfl dL_law_469 ?_
          refine wp_iconst (2 : Int32) (by decide) dL_law_470 ?_
          refine wp_iadd dL_law_471 ?_
          obtain ⟨q106, H⟩ := H
          refine wp_scr rfl q106 dL_law_472 ?_
          refine wp_aload_n 0 rfl rfl dL_law_473 ?_
          refine wp_iload_n 3 rfl rfl dL_law_474 ?_
          refine wp_iconst (3 : Int32) (by decide) dL_law_475 ?_
          refine wp_iadd dL_law_476 ?_
          refine WP.at 477 rfl ?_
          obtain ⟨q107, H⟩ := H
          refine wp_scr rfl q107 dL_law_477 ?_
          refine WP.at 478 rfl ?_
          obtain ⟨q108, H⟩ := H
          obtain ⟨q109, H⟩ := H
          refine wp_cVi (M2 := M_T_place) coX10 l1 q109 [xi (hI h (1, 0) (l3 + (1 : Int32)).toNatClampNeg), xi (hI h (1, 0) (l3 + (2 : Int32)).toNatClampNeg), xi (hI h (1, 0) (l3 + (3 : Int32)).toNatClampNeg)] rfl lv_L_40 mo_T_place (Nat.le_of_ble_eq_true rfl) ⟨(Nat.le_of_ble_eq_true rfl), (Nat.le_of_ble_eq_true rfl)⟩ (Nat.le_of_ble_eq_true rfl) q108 dL_law_478 (t_T_place l1 (hI h (1, 0) (l3 + (1 : Int32)).toNatClampNeg) (hI h (1, 0) (l3 + (2 : Int32)).toNatClampNeg) (hI h (1, 0) (l3 + (3 : Int32)).toNatClampNeg) _ _ H) (fun v111 h110 H => ?_)
          refine wp_aload_n 2 rfl rfl dL_law_481 ?_
          refine wp_aload_n 0 rfl rfl dL_law_482 ?_
          refine wp_iload_n 3 rfl rfl dL_law_483 ?_
          refine wp_iconst (1 : Int32) (by decide) dL_law_484 ?_
          refine wp_iadd dL_law_485 ?_
          obtain ⟨q112, H⟩ := H
          refine wp_scr rfl q112 dL_law_486 ?_
          refine WP.at 487 rfl ?_
          refine wp_aload_n 0 rfl rfl dL_law_487 ?_
          refine wp_iload_n 3 rfl rfl dL_law_488 ?_
          refine wp_iconst (2 : Int32) (by decide) dL_law_489 ?_
          refine wp_iadd dL_law_490 ?_
          obtain ⟨q113, H⟩ := H
          refine wp_scr rfl q113 dL_law_491 ?_
          refine wp_aload_n 0 rfl rfl dL_law_492 ?_
          refine wp_iload_n 3 rfl rfl dL_law_493 ?_
          refine wp_iconst (3 : Int32) (by decide) dL_law_494 ?_
          refine WP.at 495 rfl ?_
          refine wp_iadd dL_law_495 ?_
          obtain ⟨q114, H⟩ := H
          refine wp_scr rfl q114 dL_law_496 ?_
          refine WP.at 497 rfl ?_
          obtain ⟨q115, H⟩ := H
          obtain ⟨q116, H⟩ := H
          refine wp_cVi (M2 := M_M_place) coX11 l2 q116 [xi (hI h110 (1, 0) (l3 + (1 : Int32)).toNatClampNeg), xi (hI h110 (1, 0) (l3 + (2 : Int32)).toNatClampNeg), xi (hI h110 (1, 0) (l3 + (3 : Int32)).toNatClampNeg)] rfl lv_L_44 mo_M_place (Nat.le_of_ble_eq_true rfl) ⟨(Nat.le_of_ble_eq_true rfl), (Nat.le_of_ble_eq_true rfl)⟩ (Nat.le_of_ble_eq_true rfl) q115 dL_law_497 (t_M_place l2 (hI h110 (1, 0) (l3 + (1 : Int32)).toNatClampNeg) (hI h110 (1, 0) (l3 + (2 : Int32)).toNatClampNeg) (hI h110 (1, 0) (l3 + (3 : Int32)).toNatClampNeg) _ _ H) (fun v118 h117 H => ?_)
          refine WP.at 500 rfl ?_
          refine wp_icmp_eq 1994 (by decide) dL_law_500 (fun c119 => ?_) (fun c119 => ?_)
          · replace H := H.1 c119
            refine wp_iincN (7 : Int32) (by decide) rfl (Nat.le_of_ble_eq_true rfl) dL_law_1994 (ls' := fun v120 => [(3, xi v120), (0, xr ((1, 0) : xN)), (1, xr l1), (2, xr l2)]) (fun _ => rfl) (fun v120 e121 => ?_)
            replace H := H v120 e121
            refine WP.at 1997 rfl ?_
            refine wp_goto 18 (by decide) dL_law_1997 ?_
            exact WP.pick [1, 2, 3, 0] rfl (hB18 v120 (k) _ H)
          · replace H := H.2 c119
            refine wp_iconst (0 : Int32) (by decide) dL_law_503 ?_
            exact wp_iret (Or.inl rfl) dL_law_504 H
        · replace H := H.2.2.2.2.2.2.2.1 c0
          refine wp_aload_n 1 rfl rfl dL_law_505 ?_
          refine wp_aload_n 0 rfl rfl dL_law_506 ?_
          refine wp_iload_n 3 rfl rfl dL_law_507 ?_
          refine wp_iconst (1 : Int32) (by decide) dL_law_508 ?_
          refine wp_iadd dL_law_509 ?_
          obtain ⟨q122, H⟩ := H
          refine wp_scr rfl q122 dL_law_510 ?_
          refine WP.at 511 rfl ?_
          obtain ⟨q123, H⟩ := H
          obtain ⟨q124, H⟩ := H
          refine wp_cVi (M2 := M_T_official) coX10 l1 q124 [xi (hI h (1, 0) (l3 + (1 : Int32)).toNatClampNeg)] rfl lv_L_45 mo_T_official (Nat.le_of_ble_eq_true rfl) ⟨(Nat.le_of_ble_eq_true rfl), (Nat.le_of_ble_eq_true rfl)⟩ (Nat.le_of_ble_eq_true rfl) q123 dL_law_511 (t_T_official l1 (hI h (1, 0) (l3 + (1 : Int32)).toNatClampNeg) _ _ H) (fun v126 h125 H => ?_)
          refine WP.at 514 rfl ?_
          refine wp_aload_n 2 rfl rfl dL_law_514 ?_
          refine wp_aload_n 0 rfl rfl dL_law_515 ?_
          refine wp_iload_n 3 rfl rfl dL_law_516 ?_
          refine wp_iconst (1 : Int32) (by decide) dL_law_517 ?_
          refine wp_iadd dL_law_518 ?_
          obtain ⟨q127, H⟩ := H
          refine wp_scr rfl q127 dL_law_519 ?_
          refine WP.at 520 rfl ?_
          obtain ⟨q128, H⟩ := H
          obtain ⟨q129, H⟩ := H
          refine wp_cVi (M2 := M_M_official) coX11 l2 q129 [xi (hI h125 (1, 0) (l3 + (1 : Int32)).toNatClampNeg)] rfl lv_L_48 mo_M_official (Nat.le_of_ble_eq_true rfl) ⟨(Nat.le_of_ble_eq_true rfl), (Nat.le_of_ble_eq_true rfl)⟩ (Nat.le_of_ble_eq_true rfl) q128 dL_law_520 (t_M_official l2 (hI h125 (1, 0) (l3 + (1 : Int32)).toNatClampNeg) _ _ H) (fun v131 h130 H => ?_)
          refine WP.at 523 rfl ?_
          refine wp_icmp_eq 1994 (by decide) dL_law_523 (fun c132 => ?_) (fun c132 => ?_)
          · replace H := H.1 c132
            refine wp_iincN (7 : Int32) (by decide) rfl (Nat.le_of_ble_eq_true rfl) dL_law_1994 (ls' := fun v133 => [(3, xi v133), (0, xr ((1, 0) : xN)), (1, xr l1), (2, xr l2)]) (fun _ => rfl) (fun v133 e134 => ?_)
            replace H := H v133 e134
            refine WP.at 1997 rfl ?_
            refine wp_goto 18 (by decide) dL_law_1997 ?_
            exact WP.pick [1, 2, 3, 0] rfl (hB18 v133 (k) _ H)
          · replace H := H.2 c132
            refine wp_iconst (0 : Int32) (by decide) dL_law_526 ?_
            exact wp_iret (Or.inl rfl) dL_law_527 H
        · replace H := H.2.2.2.2.2.2.2.2.1 c0
          refine wp_aload_n 1 rfl rfl dL_law_528 ?_
          refine wp_aload_n 0 rfl rfl dL_law_529 ?_
          refine wp_iload_n 3 rfl rfl dL_law_530 ?_
          refine wp_iconst (1 : Int32) (by decide) dL_law_531 ?_
          refine wp_iadd dL_law_532 ?_
          obtain ⟨q135, H⟩ := H
          refine wp_scr rfl q135 dL_law_533 ?_
          refine wp_aload_n 0 rfl rfl dL_law_534 ?_
          refine WP.at 535 rfl ?_
          refine wp_iload_n 3 rfl rfl dL_law_535 ?_
          refine wp_iconst (2 : Int32) (by decide) dL_law_536 ?_
          refine wp_iadd dL_law_537 ?_
          obtain ⟨q136, H⟩ := H
          refine wp_scr rfl q136 dL_law_538 ?_
          refine WP.at 539 rfl ?_
          obtain ⟨q137, H⟩ := H
          obtain ⟨q138, H⟩ := H
          refine wp_cVi (M2 := M_T_raceAt) coX10 l1 q138 [xi (hI h (1, 0) (l3 + (1 : Int32)).toNatClampNeg), xi (hI h (1, 0) (l3 + (2 : Int32)).toNatClampNeg)] rfl lv_L_49 mo_T_raceAt (Nat.le_of_ble_eq_true rfl) ⟨(Nat.le_of_ble_eq_true rfl), (Nat.le_of_ble_eq_true rfl)⟩ (Nat.le_of_ble_eq_true rfl) q137 dL_law_539 (t_T_raceAt l1 (hI h (1, 0) (l3 + (1 : Int32)).toNatClampNeg) (hI h (1, 0) (l3 + (2 : Int32)).toNatClampNeg) _ _ H) (fun v140 h139 H => ?_)
          refine wp_aload_n 2 rfl rfl dL_law_542 ?_
          refine wp_aload_n 0 rfl rfl dL_law_543 ?_
          refine wp_iload_n 3 rfl rfl dL_law_544 ?_
          refine WP.at 545 rfl ?_
          refine wp_iconst (1 : Int32) (by decide) dL_law_545 ?_
          refine wp_iadd dL_law_546 ?_
          obtain ⟨q141, H⟩ := H
          refine wp_scr rfl q141 dL_law_547 ?_
          refine wp_aload_n 0 rfl rfl dL_law_548 ?_
          refine wp_iload_n 3 rfl rfl dL_law_549 ?_
          refine wp_iconst (2 : Int32) (by decide) dL_law_550 ?_
          refine wp_iadd dL_law_551 ?_
          obtain ⟨q142, H⟩ := H
          refine wp_scr rfl q142 dL_law_552 ?_
          refine WP.at 553 rfl ?_
          refine WP.at 553 rfl ?_
          obtain ⟨q143, H⟩ := H
          obtain ⟨q144, H⟩ := H
          refine wp_cVi (M2 := M_M_raceAt) coX11 l2 q144 [xi (hI h139 (1, 0) (l3 + (1 : Int32)).toNatClampNeg), xi (hI h139 (1, 0) (l3 + (2 : Int32)).toNatClampNeg)] rfl lv_L_52 mo_M_raceAt (Nat.le_of_ble_eq_true rfl) ⟨(Nat.le_of_ble_eq_true rfl), (Nat.le_of_ble_eq_true rfl)⟩ (Nat.le_of_ble_eq_true rfl) q143 dL_law_553 (t_M_raceAt l2 (hI h139 (1, 0) (l3 + (1 : Int32)).toNatClampNeg) (hI h139 (1, 0) (l3 + (2 : Int32)).toNatClampNeg) _ _ H) (fun v146 h145 H => ?_)
          refine WP.at 556 rfl ?_
          refine wp_icmp_eq 1994 (by decide) dL_law_556 (fun c147 => ?_) (fun c147 => ?_)
          · replace H := H.1 c147
            refine wp_iincN (7 : Int32) (by decide) rfl (Nat.le_of_ble_eq_true rfl) dL_law_1994 (ls' := fun v148 => [(3, xi v148), (0, xr ((1, 0) : xN)), (1, xr l1), (2, xr l2)]) (fun _ => rfl) (fun v148 e149 => ?_)
            replace H := H v148 e149
            refine WP.at 1997 rfl ?_
            refine wp_goto 18 (by decide) dL_law_1997 ?_
            exact WP.pick [1, 2, 3, 0] rfl (hB18 v148 (k) _ H)
          · replace H := H.2 c147
            refine wp_iconst (0 : Int32) (by decide) dL_law_559 ?_
            exact wp_iret (Or.inl rfl) dL_law_560 H
        · replace H := H.2.2.2.2.2.2.2.2.2.1 c0
          refine wp_aload_n 1 rfl rfl dL_law_561 ?_
          refine wp_aload_n 0 rfl rfl dL_law_562 ?_
          refine wp_iload_n 3 rfl rfl dL_law_563 ?_
          refine wp_iconst (1 : Int32) (by decide) dL_law_564 ?_
          refine wp_iadd dL_law_565 ?_
          obtain ⟨q150, H⟩ := H
          refine wp_scr rfl q150 dL_law_566 ?_
          refine wp_aload_n 0 rfl rfl dL_law_567 ?_
          refine WP.at 568 rfl ?_
          refine wp_iload_n 3 rfl rfl dL_law_568 ?_
          refine wp_iconst (2 : Int32) (by decide) dL_law_569 ?_
          refine wp_iadd dL_law_570 ?_
          obtain ⟨q151, H⟩ := H
          refine wp_scr rfl q151 dL_law_571 ?_
          refine wp_aload_n 0 rfl rfl dL_law_572 ?_
          refine wp_iload_n 3 rfl rfl dL_law_573 ?_
          refine wp_iconst (3 : Int32) (by decide) dL_law_574 ?_
          refine wp_iadd dL_law_575 ?_
          refine WP.at 576 rfl ?_
          obtain ⟨q152, H⟩ := H
          refine wp_scr rfl q152 dL_law_576 ?_
          refine wp_aload_n 0 rfl rfl dL_law_577 ?_
          refine wp_iload_n 3 rfl rfl dL_law_578 ?_
          refine wp_iconst (4 : Int32) (by decide) dL_law_579 ?_
          refine wp_iadd dL_law_580 ?_
          obtain ⟨q153, H⟩ := H
          refine wp_scr rfl q153 dL_law_581 ?_
          refine wp_aload_n 0 rfl rfl dL_law_582 ?_
          refine wp_iload_n 3 rfl rfl dL_law_583 ?_
          refine WP.at 584 rfl ?_
          refine wp_iconst (5 : Int32) (by decide) dL_law_584 ?_
          refine wp_iadd dL_law_585 ?_
          obtain ⟨q154, H⟩ := H
          refine wp_scr rfl q154 dL_law_586 ?_
          refine wp_aload_n 0 rfl rfl dL_law_587 ?_
          refine wp_iload_n 3 rfl rfl dL_law_588 ?_
          refine wp_bipush (6 : Int32) (by decide) dL_law_589 ?_
          refine wp_iadd dL_law_591 ?_
          obtain ⟨q155, H⟩ := H
          refine wp_scr rfl q155 dL_law_592 ?_
          refine WP.at 593 rfl ?_
          refine WP.at 593 rfl ?_
          obtain ⟨q156, H⟩ := H
          obtain ⟨q157, H⟩ := H
          refine wp_cVi (M2 := M_T_sell) coX10 l1 q157 [xi (hI h (1, 0) (l3 + (1 : Int32)).toNatClampNeg), xi (hI h (1, 0) (l3 + (2 : Int32)).toNatClampNeg), xi (hI h (1, 0) (l3 + (3 : Int32)).toNatClampNeg), xi (hI h (1, 0) (l3 + (4 : Int32)).toNatClampNeg), xi (hI h (1, 0) (l3 + (5 : Int32)).toNatClampNeg), xi (hI h (1, 0) (l3 + (6 : Int32)).toNatClampNeg)] rfl lv_L_53 mo_T_sell (Nat.le_of_ble_eq_true rfl) ⟨(Nat.le_of_ble_eq_true rfl), (Nat.le_of_ble_eq_true rfl)⟩ (Nat.le_of_ble_eq_true rfl) q156 dL_law_593 (t_T_sell l1 (hI h (1, 0) (l3 + (1 : Int32)).toNatClampNeg) (hI h (1, 0) (l3 + (2 : Int32)).toNatClampNeg) (hI h (1, 0) (l3 + (3 : Int32)).toNatClampNeg) (hI h (1, 0) (l3 + (4 : Int32)).toNatClampNeg) (hI h (1, 0) (l3 + (5 : Int32)).toNatClampNeg) (hI h (1, 0) (l3 + (6 : Int32)).toNatClampNeg) _ _ H) (fun v159 h158 H => ?_)
          refine wp_aload_n 2 rfl rfl dL_law_596 ?_
          refine wp_aload_n 0 rfl rfl dL_law_597 ?_
          refine wp_iload_n 3 rfl rfl dL_law_598 ?_
          refine wp_iconst (1 : Int32) (by decide) dL_law_599 ?_
          refine wp_iadd dL_law_600 ?_
          obtain ⟨q160, H⟩ := H
          refine wp_scr rfl q160 dL_law_601 ?_
          refine wp_aload_n 0 rfl rfl dL_law_602 ?_
          refine WP.at 603 rfl ?_
          refine wp_iload_n 3 rfl rfl dL_law_603 ?_
          refine wp_iconst (2 : Int32) (by decide) dL_law_604 ?_
          refine wp_iadd dL_law_605 ?_
          obtain ⟨q161, H⟩ := H
          refine wp_scr rfl q161 dL_law_606 ?_
          refine wp_aload_n 0 rfl rfl dL_law_607 ?_
          refine wp_iload_n 3 rfl rfl dL_law_608 ?_
          refine wp_iconst (3 : Int32) (by decide) dL_law_609 ?_
          refine wp_iadd dL_law_610 ?_
          refine WP.at 611 rfl ?_
          obtain ⟨q162, H⟩ := H
          refine wp_scr rfl q162 dL_law_611 ?_
          refine wp_aload_n 0 rfl rfl dL_law_612 ?_
          refine wp_iload_n 3 rfl rfl dL_law_613 ?_
          refine wp_iconst (4 : Int32) (by decide) dL_law_614 ?_
          refine wp_iadd dL_law_615 ?_
          obtain ⟨q163, H⟩ := H
          refine wp_scr rfl q163 dL_law_616 ?_
          refine wp_aload_n 0 rfl rfl dL_law_617 ?_
          refine wp_iload_n 3 rfl rfl dL_law_618 ?_
          refine WP.at 619 rfl ?_
          refine wp_iconst (5 : Int32) (by decide) dL_law_619 ?_
          refine wp_iadd dL_law_620 ?_
          obtain ⟨q164, H⟩ := H
          refine wp_scr rfl q164 dL_law_621 ?_
          refine wp_aload_n 0 rfl rfl dL_law_622 ?_
          refine wp_iload_n 3 rfl rfl dL_law_623 ?_
          refine wp_bipush (6 : Int32) (by decide) dL_law_624 ?_
          refine wp_iadd dL_law_626 ?_
          obtain ⟨q165, H⟩ := H
          refine wp_scr rfl q165 dL_law_627 ?_
          refine WP.at 628 rfl ?_
          refine WP.at 628 rfl ?_
          obtain ⟨q166, H⟩ := H
          obtain ⟨q167, H⟩ := H
          refine wp_cVi (M2 := M_M_sell) coX11 l2 q167 [xi (hI h158 (1, 0) (l3 + (1 : Int32)).toNatClampNeg), xi (hI h158 (1, 0) (l3 + (2 : Int32)).toNatClampNeg), xi (hI h158 (1, 0) (l3 + (3 : Int32)).toNatClampNeg), xi (hI h158 (1, 0) (l3 + (4 : Int32)).toNatClampNeg), xi (hI h158 (1, 0) (l3 + (5 : Int32)).toNatClampNeg), xi (hI h158 (1, 0) (l3 + (6 : Int32)).toNatClampNeg)] rfl lv_L_57 mo_M_sell (Nat.le_of_ble_eq_true rfl) ⟨(Nat.le_of_ble_eq_true rfl), (Nat.le_of_ble_eq_true rfl)⟩ (Nat.le_of_ble_eq_true rfl) q166 dL_law_628 (t_M_sell l2 (hI h158 (1, 0) (l3 + (1 : Int32)).toNatClampNeg) (hI h158 (1, 0) (l3 + (2 : Int32)).toNatClampNeg) (hI h158 (1, 0) (l3 + (3 : Int32)).toNatClampNeg) (hI h158 (1, 0) (l3 + (4 : Int32)).toNatClampNeg) (hI h158 (1, 0) (l3 + (5 : Int32)).toNatClampNeg) (hI h158 (1, 0) (l3 + (6 : Int32)).toNatClampNeg) _ _ H) (fun v169 h168 H => ?_)
          refine WP.at 631 rfl ?_
          refine wp_icmp_eq 1994 (by decide) dL_law_631 (fun c170 => ?_) (fun c170 => ?_)
          · replace H := H.1 c170
            refine wp_iincN (7 : Int32) (by decide) rfl (Nat.le_of_ble_eq_true rfl) dL_law_1994 (ls' := fun v171 => [(3, xi v171), (0, xr ((1, 0) : xN)), (1, xr l1), (2, xr l2)]) (fun _ => rfl) (fun v171 e172 => ?_)
            replace H := H v171 e172
            refine WP.at 1997 rfl ?_
            refine wp_goto 18 (by decide) dL_law_1997 ?_
            exact WP.pick [1, 2, 3, 0] rfl (hB18 v171 (k + 1) _ H)
          · replace H := H.2 c170
            refine wp_iconst (0 : Int32) (by decide) dL_law_634 ?_
            exact wp_iret (Or.inl rfl) dL_law_635 H
        · replace H := H.2.2.2.2.2.2.2.2.2.2.1 c0
          refine wp_aload_n 1 rfl rfl dL_law_636 ?_
          refine wp_aload_n 0 rfl rfl dL_law_637 ?_
          refine wp_iload_n 3 rfl rfl dL_law_638 ?_
          refine wp_iconst (1 : Int32) (by decide) dL_law_639 ?_
          refine wp_iadd dL_law_640 ?_
          obtain ⟨q173, H⟩ := H
          refine wp_scr rfl q173 dL_law_641 ?_
          refine WP.at 642 rfl ?_
          obtain ⟨q174, H⟩ := H
          obtain ⟨q175, H⟩ := H
          refine wp_cVi (M2 := M_T_cancel) coX10 l1 q175 [xi (hI h (1, 0) (l3 + (1 : Int32)).toNatClampNeg)] rfl lv_L_58 mo_T_cancel (Nat.le_of_ble_eq_true rfl) ⟨(Nat.le_of_ble_eq_true rfl), (Nat.le_of_ble_eq_true rfl)⟩ (Nat.le_of_ble_eq_true rfl) q174 dL_law_642 (t_T_cancel l1 (hI h (1, 0) (l3 + (1 : Int32)).toNatClampNeg) _ _ H) (fun v177 h176 H => ?_)
          refine WP.at 645 rfl ?_
          refine wp_aload_n 2 rfl rfl dL_law_645 ?_
          refine wp_aload_n 0 rfl rfl dL_law_646 ?_
          refine wp_iload_n 3 rfl rfl dL_law_647 ?_
          refine wp_iconst (1 : Int32) (by decide) dL_law_648 ?_
          refine wp_iadd dL_law_649 ?_
          obtain ⟨q178, H⟩ := H
          refine wp_scr rfl q178 dL_law_650 ?_
          refine WP.at 651 rfl ?_
          obtain ⟨q179, H⟩ := H
          obtain ⟨q180, H⟩ := H
          refine wp_cVi (M2 := M_M_cancel) coX11 l2 q180 [xi (hI h176 (1, 0) (l3 + (1 : Int32)).toNatClampNeg)] rfl lv_L_61 mo_M_cancel (Nat.le_of_ble_eq_true rfl) ⟨(Nat.le_of_ble_eq_true rfl), (Nat.le_of_ble_eq_true rfl)⟩ (Nat.le_of_ble_eq_true rfl) q179 dL_law_651 (t_M_cancel l2 (hI h176 (1, 0) (l3 + (1 : Int32)).toNatClampNeg) _ _ H) (fun v182 h181 H => ?_)
          refine WP.at 654 rfl ?_
          refine wp_icmp_eq 1994 (by decide) dL_law_654 (fun c183 => ?_) (fun c183 => ?_)
          · replace H := H.1 c183
            refine wp_iincN (7 : Int32) (by decide) rfl (Nat.le_of_ble_eq_true rfl) dL_law_1994 (ls' := fun v184 => [(3, xi v184), (0, xr ((1, 0) : xN)), (1, xr l1), (2, xr l2)]) (fun _ => rfl) (fun v184 e185 => ?_)
            replace H := H v184 e185
            refine WP.at 1997 rfl ?_
            refine wp_goto 18 (by decide) dL_law_1997 ?_
            exact WP.pick [1, 2, 3, 0] rfl (hB18 v184 (k) _ H)
          · replace H := H.2 c183
            refine wp_iconst (0 : Int32) (by decide) dL_law_657 ?_
            exact wp_iret (Or.inl rfl) dL_law_658 H
        · replace H := H.2.2.2.2.2.2.2.2.2.2.2.1 c0
          refine wp_aload_n 1 rfl rfl dL_law_659 ?_
          refine wp_aload_n 0 rfl rfl dL_law_660 ?_
          refine wp_iload_n 3 rfl rfl dL_law_661 ?_
          refine wp_iconst (1 : Int32) (by decide) dL_law_662 ?_
          refine wp_iadd dL_law_663 ?_
          obtain ⟨q186, H⟩ := H
          refine wp_scr rfl q186 dL_law_664 ?_
          refine WP.at 665 rfl ?_
          obtain ⟨q187, H⟩ := H
          obtain ⟨q188, H⟩ := H
          refine wp_cVi (M2 := M_T_pay) coX10 l1 q188 [xi (hI h (1, 0) (l3 + (1 : Int32)).toNatClampNeg)] rfl lv_L_62 mo_T_pay (Nat.le_of_ble_eq_true rfl) ⟨(Nat.le_of_ble_eq_true rfl), (Nat.le_of_ble_eq_true rfl)⟩ (Nat.le_of_ble_eq_true rfl) q187 dL_law_665 (t_T_pay l1 (hI h (1, 0) (l3 + (1 : Int32)).toNatClampNeg) _ _ H) (fun v190 h189 H => ?_)
          refine WP.at 668 rfl ?_
          refine wp_aload_n 2 rfl rfl dL_law_668 ?_
          refine wp_aload_n 0 rfl rfl dL_law_669 ?_
          refine wp_iload_n 3 rfl rfl dL_law_670 ?_
          refine wp_iconst (1 : Int32) (by decide) dL_law_671 ?_
          refine wp_iadd dL_law_672 ?_
          obtain ⟨q191, H⟩ := H
          refine wp_scr rfl q191 dL_law_673 ?_
          refine WP.at 674 rfl ?_
          obtain ⟨q192, H⟩ := H
          obtain ⟨q193, H⟩ := H
          refine wp_cVi (M2 := M_M_pay) coX11 l2 q193 [xi (hI h189 (1, 0) (l3 + (1 : Int32)).toNatClampNeg)] rfl lv_L_65 mo_M_pay (Nat.le_of_ble_eq_true rfl) ⟨(Nat.le_of_ble_eq_true rfl), (Nat.le_of_ble_eq_true rfl)⟩ (Nat.le_of_ble_eq_true rfl) q192 dL_law_674 (t_M_pay l2 (hI h189 (1, 0) (l3 + (1 : Int32)).toNatClampNeg) _ _ H) (fun v195 h194 H => ?_)
          refine WP.at 677 rfl ?_
          refine wp_icmp_eq 1994 (by decide) dL_law_677 (fun c196 => ?_) (fun c196 => ?_)
          · replace H := H.1 c196
            refine wp_iincN (7 : Int32) (by decide) rfl (Nat.le_of_ble_eq_true rfl) dL_law_1994 (ls' := fun v197 => [(3, xi v197), (0, xr ((1, 0) : xN)), (1, xr l1), (2, xr l2)]) (fun _ => rfl) (fun v197 e198 => ?_)
            replace H := H v197 e198
            refine WP.at 1997 rfl ?_
            refine wp_goto 18 (by decide) dL_law_1997 ?_
            exact WP.pick [1, 2, 3, 0] rfl (hB18 v197 (k) _ H)
          · replace H := H.2 c196
            refine wp_iconst (0 : Int32) (by decide) dL_law_680 ?_
            exact wp_iret (Or.inl rfl) dL_law_681 H
        · replace H := H.2.2.2.2.2.2.2.2.2.2.2.2.1 c0
          refine wp_aload_n 1 rfl rfl dL_law_682 ?_
          refine wp_aload_n 0 rfl rfl dL_law_683 ?_
          refine wp_iload_n 3 rfl rfl dL_law_684 ?_
          refine wp_iconst (1 : Int32) (by decide) dL_law_685 ?_
          refine wp_iadd dL_law_686 ?_
          obtain ⟨q199, H⟩ := H
          refine wp_scr rfl q199 dL_law_687 ?_
          refine wp_aload_n 0 rfl rfl dL_law_688 ?_
          refine WP.at 689 rfl ?_
          refine wp_iload_n 3 rfl rfl dL_law_689 ?_
          refine wp_iconst (2 : Int32) (by decide) dL_law_690 ?_
          refine wp_iadd dL_law_691 ?_
          obtain ⟨q200, H⟩ := H
          refine wp_scr rfl q200 dL_law_692 ?_
          refine WP.at 693 rfl ?_
          obtain ⟨q201, H⟩ := H
          obtain ⟨q202, H⟩ := H
          refine wp_cVi (M2 := M_T_ticket) coX10 l1 q202 [xi (hI h (1, 0) (l3 + (1 : Int32)).toNatClampNeg), xi (hI h (1, 0) (l3 + (2 : Int32)).toNatClampNeg)] rfl lv_L_66 mo_T_ticket (Nat.le_of_ble_eq_true rfl) ⟨(Nat.le_of_ble_eq_true rfl), (Nat.le_of_ble_eq_true rfl)⟩ (Nat.le_of_ble_eq_true rfl) q201 dL_law_693 (t_T_ticket l1 (hI h (1, 0) (l3 + (1 : Int32)).toNatClampNeg) (hI h (1, 0) (l3 + (2 : Int32)).toNatClampNeg) _ _ H) (fun v204 h203 H => ?_)
          refine wp_aload_n 2 rfl rfl dL_law_696 ?_
          refine wp_aload_n 0 rfl rfl dL_law_697 ?_
          refine wp_iload_n 3 rfl rfl dL_law_698 ?_
          refine WP.at 699 rfl ?_
          refine wp_iconst (1 : Int32) (by decide) dL_law_699 ?_
          refine wp_iadd dL_law_700 ?_
          obtain ⟨q205, H⟩ := H
          refine wp_scr rfl q205 dL_law_701 ?_
          refine wp_aload_n 0 rfl rfl dL_law_702 ?_
          refine wp_iload_n 3 rfl rfl dL_law_703 ?_
          refine wp_iconst (2 : Int32) (by decide) dL_law_704 ?_
          refine wp_iadd dL_law_705 ?_
          obtain ⟨q206, H⟩ := H
          refine wp_scr rfl q206 dL_law_706 ?_
          refine WP.at 707 rfl ?_
          refine WP.at 707 rfl ?_
          obtain ⟨q207, H⟩ := H
          obtain ⟨q208, H⟩ := H
          refine wp_cVi (M2 := M_M_ticket) coX11 l2 q208 [xi (hI h203 (1, 0) (l3 + (1 : Int32)).toNatClampNeg), xi (hI h203 (1, 0) (l3 + (2 : Int32)).toNatClampNeg)] rfl lv_L_69 mo_M_ticket (Nat.le_of_ble_eq_true rfl) ⟨(Nat.le_of_ble_eq_true rfl), (Nat.le_of_ble_eq_true rfl)⟩ (Nat.le_of_ble_eq_true rfl) q207 dL_law_707 (t_M_ticket l2 (hI h203 (1, 0) (l3 + (1 : Int32)).toNatClampNeg) (hI h203 (1, 0) (l3 + (2 : Int32)).toNatClampNeg) _ _ H) (fun v210 h209 H => ?_)
          refine WP.at 710 rfl ?_
          refine wp_icmp_eq 1994 (by decide) dL_law_710 (fun c211 => ?_) (fun c211 => ?_)
          · replace H := H.1 c211
            refine wp_iincN (7 : Int32) (by decide) rfl (Nat.le_of_ble_eq_true rfl) dL_law_1994 (ls' := fun v212 => [(3, xi v212), (0, xr ((1, 0) : xN)), (1, xr l1), (2, xr l2)]) (fun _ => rfl) (fun v212 e213 => ?_)
            replace H := H v212 e213
            refine WP.at 1997 rfl ?_
            refine wp_goto 18 (by decide) dL_law_1997 ?_
            exact WP.pick [1, 2, 3, 0] rfl (hB18 v212 (k) _ H)
          · replace H := H.2 c211
            refine wp_iconst (0 : Int32) (by decide) dL_law_713 ?_
            exact wp_iret (Or.inl rfl) dL_law_714 H
        · replace H := H.2.2.2.2.2.2.2.2.2.2.2.2.2.1 c0
          refine wp_aload_n 1 rfl rfl dL_law_715 ?_
          refine wp_aload_n 0 rfl rfl dL_law_716 ?_
          refine wp_iload_n 3 rfl rfl dL_law_717 ?_
          refine wp_iconst (1 : Int32) (by decide) dL_law_718 ?_
          refine wp_iadd dL_law_719 ?_
          obtain ⟨q214, H⟩ := H
          refine wp_scr rfl q214 dL_law_720 ?_
          refine wp_aload_n 0 rfl rfl dL_law_721 ?_
          refine WP.at 722 rfl ?_
          refine wp_iload_n 3 rfl rfl dL_law_722 ?_
          refine wp_iconst (2 : Int32) (by decide) dL_law_723 ?_
          refine wp_iadd dL_law_724 ?_
          obtain ⟨q215, H⟩ := H
          refine wp_scr rfl q215 dL_law_725 ?_
          refine wp_aload_n 0 rfl rfl dL_law_726 ?_
          refine wp_iload_n 3 rfl rfl dL_law_727 ?_
          refine wp_iconst (3 : Int32) (by decide) dL_law_728 ?_
          refine wp_iadd dL_law_729 ?_
          refine WP.at 730 rfl ?_
          obtain ⟨q216, H⟩ := H
          refine wp_scr rfl q216 dL_law_730 ?_
          refine wp_aload_n 0 rfl rfl dL_law_731 ?_
          refine wp_iload_n 3 rfl rfl dL_law_732 ?_
          refine wp_iconst (4 : Int32) (by decide) dL_law_733 ?_
          refine wp_iadd dL_law_734 ?_
          obtain ⟨q217, H⟩ := H
          refine wp_scr rfl q217 dL_law_735 ?_
          refine WP.at 736 rfl ?_
          obtain ⟨q218, H⟩ := H
          obtain ⟨q219, H⟩ := H
          refine wp_cVi (M2 := M_T_units) coX10 l1 q219 [xi (hI h (1, 0) (l3 + (1 : Int32)).toNatClampNeg), xi (hI h (1, 0) (l3 + (2 : Int32)).toNatClampNeg), xi (hI h (1, 0) (l3 + (3 : Int32)).toNatClampNeg), xi (hI h (1, 0) (l3 + (4 : Int32)).toNatClampNeg)] rfl lv_L_70 mo_T_units (Nat.le_of_ble_eq_true rfl) ⟨(Nat.le_of_ble_eq_true rfl), (Nat.le_of_ble_eq_true rfl)⟩ (Nat.le_of_ble_eq_true rfl) q218 dL_law_736 (t_T_units l1 (hI h (1, 0) (l3 + (1 : Int32)).toNatClampNeg) (hI h (1, 0) (l3 + (2 : Int32)).toNatClampNeg) (hI h (1, 0) (l3 + (3 : Int32)).toNatClampNeg) (hI h (1, 0) (l3 + (4 : Int32)).toNatClampNeg) _ _ H) (fun v221 h220 H => ?_)
          refine wp_aload_n 2 rfl rfl dL_law_739 ?_
          refine WP.at 740 rfl ?_
          refine wp_aload_n 0 rfl rfl dL_law_740 ?_
          refine wp_iload_n 3 rfl rfl dL_law_741 ?_
          refine wp_iconst (1 : Int32) (by decide) dL_law_742 ?_
          refine wp_iadd dL_law_743 ?_
          obtain ⟨q222, H⟩ := H
          refine wp_scr rfl q222 dL_law_744 ?_
          refine wp_aload_n 0 rfl rfl dL_law_745 ?_
          refine wp_iload_n 3 rfl rfl dL_law_746 ?_
          refine wp_iconst (2 : Int32) (by decide) dL_law_747 ?_
          refine WP.at 748 rfl ?_
          refine wp_iadd dL_law_748 ?_
          obtain ⟨q223, H⟩ := H
          refine wp_scr rfl q223 dL_law_749 ?_
          refine wp_aload_n 0 rfl rfl dL_law_750 ?_
          refine wp_iload_n 3 rfl rfl dL_law_751 ?_
          refine wp_iconst (3 : Int32) (by decide) dL_law_752 ?_
          refine wp_iadd dL_law_753 ?_
          obtain ⟨q224, H⟩ := H
          refine wp_scr rfl q224 dL_law_754 ?_
          refine wp_aload_n 0 rfl rfl dL_law_755 ?_
          refine WP.at 756 rfl ?_
          refine wp_iload_n 3 rfl rfl dL_law_756 ?_
          refine wp_iconst (4 : Int32) (by decide) dL_law_757 ?_
          refine wp_iadd dL_law_758 ?_
          obtain ⟨q225, H⟩ := H
          refine wp_scr rfl q225 dL_law_759 ?_
          refine WP.at 760 rfl ?_
          obtain ⟨q226, H⟩ := H
          obtain ⟨q227, H⟩ := H
          refine wp_cVi (M2 := M_M_units) coX11 l2 q227 [xi (hI h220 (1, 0) (l3 + (1 : Int32)).toNatClampNeg), xi (hI h220 (1, 0) (l3 + (2 : Int32)).toNatClampNeg), xi (hI h220 (1, 0) (l3 + (3 : Int32)).toNatClampNeg), xi (hI h220 (1, 0) (l3 + (4 : Int32)).toNatClampNeg)] rfl lv_L_73 mo_M_units (Nat.le_of_ble_eq_true rfl) ⟨(Nat.le_of_ble_eq_true rfl), (Nat.le_of_ble_eq_true rfl)⟩ (Nat.le_of_ble_eq_true rfl) q226 dL_law_760 (t_M_units l2 (hI h220 (1, 0) (l3 + (1 : Int32)).toNatClampNeg) (hI h220 (1, 0) (l3 + (2 : Int32)).toNatClampNeg) (hI h220 (1, 0) (l3 + (3 : Int32)).toNatClampNeg) (hI h220 (1, 0) (l3 + (4 : Int32)).toNatClampNeg) _ _ H) (fun v229 h228 H => ?_)
          refine WP.at 763 rfl ?_
          refine wp_icmp_eq 1994 (by decide) dL_law_763 (fun c230 => ?_) (fun c230 => ?_)
          · replace H := H.1 c230
            refine wp_iincN (7 : Int32) (by decide) rfl (Nat.le_of_ble_eq_true rfl) dL_law_1994 (ls' := fun v231 => [(3, xi v231), (0, xr ((1, 0) : xN)), (1, xr l1), (2, xr l2)]) (fun _ => rfl) (fun v231 e232 => ?_)
            replace H := H v231 e232
            refine WP.at 1997 rfl ?_
            refine wp_goto 18 (by decide) dL_law_1997 ?_
            exact WP.pick [1, 2, 3, 0] rfl (hB18 v231 (k) _ H)
          · replace H := H.2 c230
            refine wp_iconst (0 : Int32) (by decide) dL_law_766 ?_
            exact wp_iret (Or.inl rfl) dL_law_767 H
        · replace H := H.2.2.2.2.2.2.2.2.2.2.2.2.2.2.1 c0
          refine wp_aload_n 1 rfl rfl dL_law_768 ?_
          refine wp_aload_n 0 rfl rfl dL_law_769 ?_
          refine wp_iload_n 3 rfl rfl dL_law_770 ?_
          refine wp_iconst (1 : Int32) (by decide) dL_law_771 ?_
          refine wp_iadd dL_law_772 ?_
          obtain ⟨q233, H⟩ := H
          refine wp_scr rfl q233 dL_law_773 ?_
          refine wp_aload_n 0 rfl rfl dL_law_774 ?_
          refine WP.at 775 rfl ?_
          refine wp_iload_n 3 rfl rfl dL_law_775 ?_
          refine wp_iconst (2 : Int32) (by decide) dL_law_776 ?_
          refine wp_iadd dL_law_777 ?_
          obtain ⟨q234, H⟩ := H
          refine wp_scr rfl q234 dL_law_778 ?_
          refine wp_aload_n 0 rfl rfl dL_law_779 ?_
          refine wp_iload_n 3 rfl rfl dL_law_780 ?_
          refine wp_iconst (3 : Int32) (by decide) dL_law_781 ?_
          refine wp_iadd dL_law_782 ?_
          refine WP.at 783 rfl ?_
          obtain ⟨q235, H⟩ := H
          refine wp_scr rfl q235 dL_law_783 ?_
          refine wp_aload_n 0 rfl rfl dL_law_784 ?_
          refine wp_iload_n 3 rfl rfl dL_law_785 ?_
          refine wp_iconst (4 : Int32) (by decide) dL_law_786 ?_
          refine wp_iadd dL_law_787 ?_
          obtain ⟨q236, H⟩ := H
          refine wp_scr rfl q236 dL_law_788 ?_
          refine WP.at 789 rfl ?_
          obtain ⟨q237, H⟩ := H
          obtain ⟨q238, H⟩ := H
          refine wp_cVi (M2 := M_T_dividend) coX10 l1 q238 [xi (hI h (1, 0) (l3 + (1 : Int32)).toNatClampNeg), xi (hI h (1, 0) (l3 + (2 : Int32)).toNatClampNeg), xi (hI h (1, 0) (l3 + (3 : Int32)).toNatClampNeg), xi (hI h (1, 0) (l3 + (4 : Int32)).toNatClampNeg)] rfl lv_L_74 mo_T_dividend (Nat.le_of_ble_eq_true rfl) ⟨(Nat.le_of_ble_eq_true rfl), (Nat.le_of_ble_eq_true rfl)⟩ (Nat.le_of_ble_eq_true rfl) q237 dL_law_789 (t_T_dividend l1 (hI h (1, 0) (l3 + (1 : Int32)).toNatClampNeg) (hI h (1, 0) (l3 + (2 : Int32)).toNatClampNeg) (hI h (1, 0) (l3 + (3 : Int32)).toNatClampNeg) (hI h (1, 0) (l3 + (4 : Int32)).toNatClampNeg) _ _ H) (fun v240 h239 H => ?_)
          refine wp_aload_n 2 rfl rfl dL_law_792 ?_
          refine WP.at 793 rfl ?_
          refine wp_aload_n 0 rfl rfl dL_law_793 ?_
          refine wp_iload_n 3 rfl rfl dL_law_794 ?_
          refine wp_iconst (1 : Int32) (by decide) dL_law_795 ?_
          refine wp_iadd dL_law_796 ?_
          obtain ⟨q241, H⟩ := H
          refine wp_scr rfl q241 dL_law_797 ?_
          refine wp_aload_n 0 rfl rfl dL_law_798 ?_
          refine wp_iload_n 3 rfl rfl dL_law_799 ?_
          refine wp_iconst (2 : Int32) (by decide) dL_law_800 ?_
          refine WP.at 801 rfl ?_
          refine wp_iadd dL_law_801 ?_
          obtain ⟨q242, H⟩ := H
          refine wp_scr rfl q242 dL_law_802 ?_
          refine wp_aload_n 0 rfl rfl dL_law_803 ?_
          refine wp_iload_n 3 rfl rfl dL_law_804 ?_
          refine wp_iconst (3 : Int32) (by decide) dL_law_805 ?_
          refine wp_iadd dL_law_806 ?_
          obtain ⟨q243, H⟩ := H
          refine wp_scr rfl q243 dL_law_807 ?_
          refine wp_aload_n 0 rfl rfl dL_law_808 ?_
          refine WP.at 809 rfl ?_
          refine wp_iload_n 3 rfl rfl dL_law_809 ?_
          refine wp_iconst (4 : Int32) (by decide) dL_law_810 ?_
          refine wp_iadd dL_law_811 ?_
          obtain ⟨q244, H⟩ := H
          refine wp_scr rfl q244 dL_law_812 ?_
          refine WP.at 813 rfl ?_
          obtain ⟨q245, H⟩ := H
          obtain ⟨q246, H⟩ := H
          refine wp_cVi (M2 := M_M_dividend) coX11 l2 q246 [xi (hI h239 (1, 0) (l3 + (1 : Int32)).toNatClampNeg), xi (hI h239 (1, 0) (l3 + (2 : Int32)).toNatClampNeg), xi (hI h239 (1, 0) (l3 + (3 : Int32)).toNatClampNeg), xi (hI h239 (1, 0) (l3 + (4 : Int32)).toNatClampNeg)] rfl lv_L_77 mo_M_dividend (Nat.le_of_ble_eq_true rfl) ⟨(Nat.le_of_ble_eq_true rfl), (Nat.le_of_ble_eq_true rfl)⟩ (Nat.le_of_ble_eq_true rfl) q245 dL_law_813 (t_M_dividend l2 (hI h239 (1, 0) (l3 + (1 : Int32)).toNatClampNeg) (hI h239 (1, 0) (l3 + (2 : Int32)).toNatClampNeg) (hI h239 (1, 0) (l3 + (3 : Int32)).toNatClampNeg) (hI h239 (1, 0) (l3 + (4 : Int32)).toNatClampNeg) _ _ H) (fun v248 h247 H => ?_)
          refine WP.at 816 rfl ?_
          refine wp_icmp_eq 1994 (by decide) dL_law_816 (fun c249 => ?_) (fun c249 => ?_)
          · replace H := H.1 c249
            refine wp_iincN (7 : Int32) (by decide) rfl (Nat.le_of_ble_eq_true rfl) dL_law_1994 (ls' := fun v250 => [(3, xi v250), (0, xr ((1, 0) : xN)), (1, xr l1), (2, xr l2)]) (fun _ => rfl) (fun v250 e251 => ?_)
            replace H := H v250 e251
            refine WP.at 1997 rfl ?_
            refine wp_goto 18 (by decide) dL_law_1997 ?_
            exact WP.pick [1, 2, 3, 0] rfl (hB18 v250 (k) _ H)
          · replace H := H.2 c249
            refine wp_iconst (0 : Int32) (by decide) dL_law_819 ?_
            exact wp_iret (Or.inl rfl) dL_law_820 H
        · replace H := H.2.2.2.2.2.2.2.2.2.2.2.2.2.2.2.1 c0
          refine wp_aload_n 1 rfl rfl dL_law_821 ?_
          refine wp_aload_n 0 rfl rfl dL_law_822 ?_
          refine wp_iload_n 3 rfl rfl dL_law_823 ?_
          refine wp_iconst (1 : Int32) (by decide) dL_law_824 ?_
          refine wp_iadd dL_law_825 ?_
          obtain ⟨q252, H⟩ := H
          refine wp_scr rfl q252 dL_law_826 ?_
          refine wp_aload_n 0 rfl rfl dL_law_827 ?_
          refine WP.at 828 rfl ?_
          refine wp_iload_n 3 rfl rfl dL_law_828 ?_
          refine wp_iconst (2 : Int32) (by decide) dL_law_829 ?_
          refine wp_iadd dL_law_830 ?_
          obtain ⟨q253, H⟩ := H
          refine wp_scr rfl q253 dL_law_831 ?_
          refine wp_aload_n 0 rfl rfl dL_law_832 ?_
          refine wp_iload_n 3 rfl rfl dL_law_833 ?_
          refine wp_iconst (3 : Int32) (by decide) dL_law_834 ?_
          refine wp_iadd dL_law_835 ?_
          refine WP.at 836 rfl ?_
          obtain ⟨q254, H⟩ := H
          refine wp_scr rfl q254 dL_law_836 ?_
          refine wp_aload_n 0 rfl rfl dL_law_837 ?_
          refine wp_iload_n 3 rfl rfl dL_law_838 ?_
          refine wp_iconst (4 : Int32) (by decide) dL_law_839 ?_
          refine wp_iadd dL_law_840 ?_
          obtain ⟨q255, H⟩ := H
          refine wp_scr rfl q255 dL_law_841 ?_
          refine WP.at 842 rfl ?_
          obtain ⟨q256, H⟩ := H
          obtain ⟨q257, H⟩ := H
          refine wp_cVi (M2 := M_T_odds) coX10 l1 q257 [xi (hI h (1, 0) (l3 + (1 : Int32)).toNatClampNeg), xi (hI h (1, 0) (l3 + (2 : Int32)).toNatClampNeg), xi (hI h (1, 0) (l3 + (3 : Int32)).toNatClampNeg), xi (hI h (1, 0) (l3 + (4 : Int32)).toNatClampNeg)] rfl lv_L_78 mo_T_odds (Nat.le_of_ble_eq_true rfl) ⟨(Nat.le_of_ble_eq_true rfl), (Nat.le_of_ble_eq_true rfl)⟩ (Nat.le_of_ble_eq_true rfl) q256 dL_law_842 (t_T_odds l1 (hI h (1, 0) (l3 + (1 : Int32)).toNatClampNeg) (hI h (1, 0) (l3 + (2 : Int32)).toNatClampNeg) (hI h (1, 0) (l3 + (3 : Int32)).toNatClampNeg) (hI h (1, 0) (l3 + (4 : Int32)).toNatClampNeg) _ _ H) (fun v259 h258 H => ?_)
          refine wp_aload_n 2 rfl rfl dL_law_845 ?_
          refine WP.at 846 rfl ?_
          refine wp_aload_n 0 rfl rfl dL_law_846 ?_
          refine wp_iload_n 3 rfl rfl dL_law_847 ?_
          refine wp_iconst (1 : Int32) (by decide) dL_law_848 ?_
          refine wp_iadd dL_law_849 ?_
          obtain ⟨q260, H⟩ := H
          refine wp_scr rfl q260 dL_law_850 ?_
          refine wp_aload_n 0 rfl rfl dL_law_851 ?_
          refine wp_iload_n 3 rfl rfl dL_law_852 ?_
          refine wp_iconst (2 : Int32) (by decide) dL_law_853 ?_
          refine WP.at 854 rfl ?_
          refine wp_iadd dL_law_854 ?_
          obtain ⟨q261, H⟩ := H
          refine wp_scr rfl q261 dL_law_855 ?_
          refine wp_aload_n 0 rfl rfl dL_law_856 ?_
          refine wp_iload_n 3 rfl rfl dL_law_857 ?_
          refine wp_iconst (3 : Int32) (by decide) dL_law_858 ?_
          refine wp_iadd dL_law_859 ?_
          obtain ⟨q262, H⟩ := H
          refine wp_scr rfl q262 dL_law_860 ?_
          refine wp_aload_n 0 rfl rfl dL_law_861 ?_
          refine WP.at 862 rfl ?_
          refine wp_iload_n 3 rfl rfl dL_law_862 ?_
          refine wp_iconst (4 : Int32) (by decide) dL_law_863 ?_
          refine wp_iadd dL_law_864 ?_
          obtain ⟨q263, H⟩ := H
          refine wp_scr rfl q263 dL_law_865 ?_
          refine WP.at 866 rfl ?_
          obtain ⟨q264, H⟩ := H
          obtain ⟨q265, H⟩ := H
          refine wp_cVi (M2 := M_M_odds) coX11 l2 q265 [xi (hI h258 (1, 0) (l3 + (1 : Int32)).toNatClampNeg), xi (hI h258 (1, 0) (l3 + (2 : Int32)).toNatClampNeg), xi (hI h258 (1, 0) (l3 + (3 : Int32)).toNatClampNeg), xi (hI h258 (1, 0) (l3 + (4 : Int32)).toNatClampNeg)] rfl lv_L_81 mo_M_odds (Nat.le_of_ble_eq_true rfl) ⟨(Nat.le_of_ble_eq_true rfl), (Nat.le_of_ble_eq_true rfl)⟩ (Nat.le_of_ble_eq_true rfl) q264 dL_law_866 (t_M_odds l2 (hI h258 (1, 0) (l3 + (1 : Int32)).toNatClampNeg) (hI h258 (1, 0) (l3 + (2 : Int32)).toNatClampNeg) (hI h258 (1, 0) (l3 + (3 : Int32)).toNatClampNeg) (hI h258 (1, 0) (l3 + (4 : Int32)).toNatClampNeg) _ _ H) (fun v267 h266 H => ?_)
          refine WP.at 869 rfl ?_
          refine wp_icmp_eq 1994 (by decide) dL_law_869 (fun c268 => ?_) (fun c268 => ?_)
          · replace H := H.1 c268
            refine wp_iincN (7 : Int32) (by decide) rfl (Nat.le_of_ble_eq_true rfl) dL_law_1994 (ls' := fun v269 => [(3, xi v269), (0, xr ((1, 0) : xN)), (1, xr l1), (2, xr l2)]) (fun _ => rfl) (fun v269 e270 => ?_)
            replace H := H v269 e270
            refine WP.at 1997 rfl ?_
            refine wp_goto 18 (by decide) dL_law_1997 ?_
            exact WP.pick [1, 2, 3, 0] rfl (hB18 v269 (k) _ H)
          · replace H := H.2 c268
            refine wp_iconst (0 : Int32) (by decide) dL_law_872 ?_
            exact wp_iret (Or.inl rfl) dL_law_873 H
        · replace H := H.2.2.2.2.2.2.2.2.2.2.2.2.2.2.2.2.1 c0
          refine wp_aload_n 1 rfl rfl dL_law_874 ?_
          refine wp_aload_n 0 rfl rfl dL_law_875 ?_
          refine wp_iload_n 3 rfl rfl dL_law_876 ?_
          refine wp_iconst (1 : Int32) (by decide) dL_law_877 ?_
          refine wp_iadd dL_law_878 ?_
          obtain ⟨q271, H⟩ := H
          refine wp_scr rfl q271 dL_law_879 ?_
          refine wp_aload_n 0 rfl rfl dL_law_880 ?_
          refine WP.at 881 rfl ?_
          refine wp_iload_n 3 rfl rfl dL_law_881 ?_
          refine wp_iconst (2 : Int32) (by decide) dL_law_882 ?_
          refine wp_iadd dL_law_883 ?_
          obtain ⟨q272, H⟩ := H
          refine wp_scr rfl q272 dL_law_884 ?_
          refine WP.at 885 rfl ?_
          obtain ⟨q273, H⟩ := H
          obtain ⟨q274, H⟩ := H
          refine wp_cVi (M2 := M_T_book) coX10 l1 q274 [xi (hI h (1, 0) (l3 + (1 : Int32)).toNatClampNeg), xi (hI h (1, 0) (l3 + (2 : Int32)).toNatClampNeg)] rfl lv_L_82 mo_T_book (Nat.le_of_ble_eq_true rfl) ⟨(Nat.le_of_ble_eq_true rfl), (Nat.le_of_ble_eq_true rfl)⟩ (Nat.le_of_ble_eq_true rfl) q273 dL_law_885 (t_T_book l1 (hI h (1, 0) (l3 + (1 : Int32)).toNatClampNeg) (hI h (1, 0) (l3 + (2 : Int32)).toNatClampNeg) _ _ H) (fun v276 h275 H => ?_)
          refine wp_aload_n 2 rfl rfl dL_law_888 ?_
          refine wp_aload_n 0 rfl rfl dL_law_889 ?_
          refine wp_iload_n 3 rfl rfl dL_law_890 ?_
          refine WP.at 891 rfl ?_
          refine wp_iconst (1 : Int32) (by decide) dL_law_891 ?_
          refine wp_iadd dL_law_892 ?_
          obtain ⟨q277, H⟩ := H
          refine wp_scr rfl q277 dL_law_893 ?_
          refine wp_aload_n 0 rfl rfl dL_law_894 ?_
          refine wp_iload_n 3 rfl rfl dL_law_895 ?_
          refine wp_iconst (2 : Int32) (by decide) dL_law_896 ?_
          refine wp_iadd dL_law_897 ?_
          obtain ⟨q278, H⟩ := H
          refine wp_scr rfl q278 dL_law_898 ?_
          refine WP.at 899 rfl ?_
          refine WP.at 899 rfl ?_
          obtain ⟨q279, H⟩ := H
          obtain ⟨q280, H⟩ := H
          refine wp_cVi (M2 := M_M_book) coX11 l2 q280 [xi (hI h275 (1, 0) (l3 + (1 : Int32)).toNatClampNeg), xi (hI h275 (1, 0) (l3 + (2 : Int32)).toNatClampNeg)] rfl lv_L_85 mo_M_book (Nat.le_of_ble_eq_true rfl) ⟨(Nat.le_of_ble_eq_true rfl), (Nat.le_of_ble_eq_true rfl)⟩ (Nat.le_of_ble_eq_true rfl) q279 dL_law_899 (t_M_book l2 (hI h275 (1, 0) (l3 + (1 : Int32)).toNatClampNeg) (hI h275 (1, 0) (l3 + (2 : Int32)).toNatClampNeg) _ _ H) (fun v282 h281 H => ?_)
          refine WP.at 902 rfl ?_
          refine wp_icmp_eq 1994 (by decide) dL_law_902 (fun c283 => ?_) (fun c283 => ?_)
          · replace H := H.1 c283
            refine wp_iincN (7 : Int32) (by decide) rfl (Nat.le_of_ble_eq_true rfl) dL_law_1994 (ls' := fun v284 => [(3, xi v284), (0, xr ((1, 0) : xN)), (1, xr l1), (2, xr l2)]) (fun _ => rfl) (fun v284 e285 => ?_)
            replace H := H v284 e285
            refine WP.at 1997 rfl ?_
            refine wp_goto 18 (by decide) dL_law_1997 ?_
            exact WP.pick [1, 2, 3, 0] rfl (hB18 v284 (k) _ H)
          · replace H := H.2 c283
            refine wp_iconst (0 : Int32) (by decide) dL_law_905 ?_
            exact wp_iret (Or.inl rfl) dL_law_906 H
        · replace H := H.2.2.2.2.2.2.2.2.2.2.2.2.2.2.2.2.2.1 c0
          refine wp_aload_n 1 rfl rfl dL_law_907 ?_
          refine WP.at 908 rfl ?_
          obtain ⟨q286, H⟩ := H
          obtain ⟨q287, H⟩ := H
          refine wp_cVi (M2 := M_T_rest) coX10 l1 q287 [] rfl lv_L_86 mo_T_rest (Nat.le_of_ble_eq_true rfl) ⟨(Nat.le_of_ble_eq_true rfl), (Nat.le_of_ble_eq_true rfl)⟩ (Nat.le_of_ble_eq_true rfl) q286 dL_law_908 (t_T_rest l1 _ _ H) (fun v289 h288 H => ?_)
          refine wp_aload_n 2 rfl rfl dL_law_911 ?_
          refine WP.at 912 rfl ?_
          obtain ⟨q290, H⟩ := H
          obtain ⟨q291, H⟩ := H
          refine wp_cVi (M2 := M_M_rest) coX11 l2 q291 [] rfl lv_L_90 mo_M_rest (Nat.le_of_ble_eq_true rfl) ⟨(Nat.le_of_ble_eq_true rfl), (Nat.le_of_ble_eq_true rfl)⟩ (Nat.le_of_ble_eq_true rfl) q290 dL_law_912 (t_M_rest l2 _ _ H) (fun v293 h292 H => ?_)
          refine WP.at 915 rfl ?_
          refine wp_icmp_eq 1994 (by decide) dL_law_915 (fun c294 => ?_) (fun c294 => ?_)
          · replace H := H.1 c294
            refine wp_iincN (7 : Int32) (by decide) rfl (Nat.le_of_ble_eq_true rfl) dL_law_1994 (ls' := fun v295 => [(3, xi v295), (0, xr ((1, 0) : xN)), (1, xr l1), (2, xr l2)]) (fun _ => rfl) (fun v295 e296 => ?_)
            replace H := H v295 e296
            refine WP.at 1997 rfl ?_
            refine wp_goto 18 (by decide) dL_law_1997 ?_
            exact WP.pick [1, 2, 3, 0] rfl (hB18 v295 (k) _ H)
          · replace H := H.2 c294
            refine wp_iconst (0 : Int32) (by decide) dL_law_918 ?_
            exact wp_iret (Or.inl rfl) dL_law_919 H
        · replace H := H.2.2.2.2.2.2.2.2.2.2.2.2.2.2.2.2.2.2.1 c0
          refine wp_aload_n 1 rfl rfl dL_law_920 ?_
          refine WP.at 921 rfl ?_
          obtain ⟨q297, H⟩ := H
          obtain ⟨q298, H⟩ := H
          refine wp_cVi (M2 := M_T_unclaimed) coX10 l1 q298 [] rfl lv_L_91 mo_T_unclaimed (Nat.le_of_ble_eq_true rfl) ⟨(Nat.le_of_ble_eq_true rfl), (Nat.le_of_ble_eq_true rfl)⟩ (Nat.le_of_ble_eq_true rfl) q297 dL_law_921 (t_T_unclaimed l1 _ _ H) (fun v300 h299 H => ?_)
          refine wp_aload_n 2 rfl rfl dL_law_924 ?_
          refine WP.at 925 rfl ?_
          obtain ⟨q301, H⟩ := H
          obtain ⟨q302, H⟩ := H
          refine wp_cVi (M2 := M_M_unclaimed) coX11 l2 q302 [] rfl lv_L_94 mo_M_unclaimed (Nat.le_of_ble_eq_true rfl) ⟨(Nat.le_of_ble_eq_true rfl), (Nat.le_of_ble_eq_true rfl)⟩ (Nat.le_of_ble_eq_true rfl) q301 dL_law_925 (t_M_unclaimed l2 _ _ H) (fun v304 h303 H => ?_)
          refine WP.at 928 rfl ?_
          refine wp_icmp_eq 1994 (by decide) dL_law_928 (fun c305 => ?_) (fun c305 => ?_)
          · replace H := H.1 c305
            refine wp_iincN (7 : Int32) (by decide) rfl (Nat.le_of_ble_eq_true rfl) dL_law_1994 (ls' := fun v306 => [(3, xi v306), (0, xr ((1, 0) : xN)), (1, xr l1), (2, xr l2)]) (fun _ => rfl) (fun v306 e307 => ?_)
            replace H := H v306 e307
            refine WP.at 1997 rfl ?_
            refine wp_goto 18 (by decide) dL_law_1997 ?_
            exact WP.pick [1, 2, 3, 0] rfl (hB18 v306 (k) _ H)
          · replace H := H.2 c305
            refine wp_iconst (0 : Int32) (by decide) dL_law_931 ?_
            exact wp_iret (Or.inl rfl) dL_law_932 H
        · replace H := H.2.2.2.2.2.2.2.2.2.2.2.2.2.2.2.2.2.2.2.1 c0
          refine wp_aload_n 1 rfl rfl dL_law_933 ?_
          refine wp_aload_n 0 rfl rfl dL_law_934 ?_
          refine wp_iload_n 3 rfl rfl dL_law_935 ?_
          refine wp_iconst (1 : Int32) (by decide) dL_law_936 ?_
          refine wp_iadd dL_law_937 ?_
          obtain ⟨q308, H⟩ := H
          refine wp_scr rfl q308 dL_law_938 ?_
          refine WP.at 939 rfl ?_
          obtain ⟨q309, H⟩ := H
          obtain ⟨q310, H⟩ := H
          refine wp_cVi (M2 := M_T_worst) coX10 l1 q310 [xi (hI h (1, 0) (l3 + (1 : Int32)).toNatClampNeg)] rfl lv_L_95 mo_T_worst (Nat.le_of_ble_eq_true rfl) ⟨(Nat.le_of_ble_eq_true rfl), (Nat.le_of_ble_eq_true rfl)⟩ (Nat.le_of_ble_eq_true rfl) q309 dL_law_939 (t_T_worst l1 (hI h (1, 0) (l3 + (1 : Int32)).toNatClampNeg) _ _ H) (fun v312 h311 H => ?_)
          refine WP.at 942 rfl ?_
          refine wp_aload_n 2 rfl rfl dL_law_942 ?_
          refine wp_aload_n 0 rfl rfl dL_law_943 ?_
          refine wp_iload_n 3 rfl rfl dL_law_944 ?_
          refine wp_iconst (1 : Int32) (by decide) dL_law_945 ?_
          refine wp_iadd dL_law_946 ?_
          obtain ⟨q313, H⟩ := H
          refine wp_scr rfl q313 dL_law_947 ?_
          refine WP.at 948 rfl ?_
          obtain ⟨q314, H⟩ := H
          obtain ⟨q315, H⟩ := H
          refine wp_cVi (M2 := M_M_worst) coX11 l2 q315 [xi (hI h311 (1, 0) (l3 + (1 : Int32)).toNatClampNeg)] rfl lv_L_98 mo_M_worst (Nat.le_of_ble_eq_true rfl) ⟨(Nat.le_of_ble_eq_true rfl), (Nat.le_of_ble_eq_true rfl)⟩ (Nat.le_of_ble_eq_true rfl) q314 dL_law_948 (t_M_worst l2 (hI h311 (1, 0) (l3 + (1 : Int32)).toNatClampNeg) _ _ H) (fun v317 h316 H => ?_)
          refine WP.at 951 rfl ?_
          refine wp_icmp_eq 1994 (by decide) dL_law_951 (fun c318 => ?_) (fun c318 => ?_)
          · replace H := H.1 c318
            refine wp_iincN (7 : Int32) (by decide) rfl (Nat.le_of_ble_eq_true rfl) dL_law_1994 (ls' := fun v319 => [(3, xi v319), (0, xr ((1, 0) : xN)), (1, xr l1), (2, xr l2)]) (fun _ => rfl) (fun v319 e320 => ?_)
            replace H := H v319 e320
            refine WP.at 1997 rfl ?_
            refine wp_goto 18 (by decide) dL_law_1997 ?_
            exact WP.pick [1, 2, 3, 0] rfl (hB18 v319 (k) _ H)
          · replace H := H.2 c318
            refine wp_iconst (0 : Int32) (by decide) dL_law_954 ?_
            exact wp_iret (Or.inl rfl) dL_law_955 H
        · replace H := H.2.2.2.2.2.2.2.2.2.2.2.2.2.2.2.2.2.2.2.2.1 c0
          refine wp_aload_n 1 rfl rfl dL_law_956 ?_
          refine WP.at 957 rfl ?_
          obtain ⟨q321, H⟩ := H
          obtain ⟨q322, H⟩ := H
          refine wp_cVi (M2 := M_T_worstDue) coX10 l1 q322 [] rfl lv_L_99 mo_T_worstDue (Nat.le_of_ble_eq_true rfl) ⟨(Nat.le_of_ble_eq_true rfl), (Nat.le_of_ble_eq_true rfl)⟩ (Nat.le_of_ble_eq_true rfl) q321 dL_law_957 (t_T_worstDue l1 _ _ H) (fun v324 h323 H => ?_)
          refine wp_aload_n 2 rfl rfl dL_law_960 ?_
          refine WP.at 961 rfl ?_
          obtain ⟨q325, H⟩ := H
          obtain ⟨q326, H⟩ := H
          refine wp_cVi (M2 := M_M_worstDue) coX11 l2 q326 [] rfl lv_L_102 mo_M_worstDue (Nat.le_of_ble_eq_true rfl) ⟨(Nat.le_of_ble_eq_true rfl), (Nat.le_of_ble_eq_true rfl)⟩ (Nat.le_of_ble_eq_true rfl) q325 dL_law_961 (t_M_worstDue l2 _ _ H) (fun v328 h327 H => ?_)
          refine WP.at 964 rfl ?_
          refine wp_icmp_eq 1994 (by decide) dL_law_964 (fun c329 => ?_) (fun c329 => ?_)
          · replace H := H.1 c329
            refine wp_iincN (7 : Int32) (by decide) rfl (Nat.le_of_ble_eq_true rfl) dL_law_1994 (ls' := fun v330 => [(3, xi v330), (0, xr ((1, 0) : xN)), (1, xr l1), (2, xr l2)]) (fun _ => rfl) (fun v330 e331 => ?_)
            replace H := H v330 e331
            refine WP.at 1997 rfl ?_
            refine wp_goto 18 (by decide) dL_law_1997 ?_
            exact WP.pick [1, 2, 3, 0] rfl (hB18 v330 (k) _ H)
          · replace H := H.2 c329
            refine wp_iconst (0 : Int32) (by decide) dL_law_967 ?_
            exact wp_iret (Or.inl rfl) dL_law_968 H
        · replace H := H.2.2.2.2.2.2.2.2.2.2.2.2.2.2.2.2.2.2.2.2.2.1 c0
          refine wp_aload_n 1 rfl rfl dL_law_969 ?_
          refine wp_aload_n 0 rfl rfl dL_law_970 ?_
          refine wp_iload_n 3 rfl rfl dL_law_971 ?_
          refine wp_iconst (1 : Int32) (by decide) dL_law_972 ?_
          refine wp_iadd dL_law_973 ?_
          obtain ⟨q332, H⟩ := H
          refine wp_scr rfl q332 dL_law_974 ?_
          refine WP.at 975 rfl ?_
          obtain ⟨q333, H⟩ := H
          obtain ⟨q334, H⟩ := H
          refine wp_cVi (M2 := M_T_premium) coX10 l1 q334 [xi (hI h (1, 0) (l3 + (1 : Int32)).toNatClampNeg)] rfl lv_L_103 mo_T_premium (Nat.le_of_ble_eq_true rfl) ⟨(Nat.le_of_ble_eq_true rfl), (Nat.le_of_ble_eq_true rfl)⟩ (Nat.le_of_ble_eq_true rfl) q333 dL_law_975 (t_T_premium l1 (hI h (1, 0) (l3 + (1 : Int32)).toNatClampNeg) _ _ H) (fun v336 h335 H => ?_)
          refine WP.at 978 rfl ?_
          refine wp_aload_n 2 rfl rfl dL_law_978 ?_
          refine wp_aload_n 0 rfl rfl dL_law_979 ?_
          refine wp_iload_n 3 rfl rfl dL_law_980 ?_
          refine wp_iconst (1 : Int32) (by decide) dL_law_981 ?_
          refine wp_iadd dL_law_982 ?_
          obtain ⟨q337, H⟩ := H
          refine wp_scr rfl q337 dL_law_983 ?_
          refine WP.at 984 rfl ?_
          obtain ⟨q338, H⟩ := H
          obtain ⟨q339, H⟩ := H
          refine wp_cVi (M2 := M_M_premium) coX11 l2 q339 [xi (hI h335 (1, 0) (l3 + (1 : Int32)).toNatClampNeg)] rfl lv_L_106 mo_M_premium (Nat.le_of_ble_eq_true rfl) ⟨(Nat.le_of_ble_eq_true rfl), (Nat.le_of_ble_eq_true rfl)⟩ (Nat.le_of_ble_eq_true rfl) q338 dL_law_984 (t_M_premium l2 (hI h335 (1, 0) (l3 + (1 : Int32)).toNatClampNeg) _ _ H) (fun v341 h340 H => ?_)
          refine WP.at 987 rfl ?_
          refine wp_icmp_eq 1994 (by decide) dL_law_987 (fun c342 => ?_) (fun c342 => ?_)
          · replace H := H.1 c342
            refine wp_iincN (7 : Int32) (by decide) rfl (Nat.le_of_ble_eq_true rfl) dL_law_1994 (ls' := fun v343 => [(3, xi v343), (0, xr ((1, 0) : xN)), (1, xr l1), (2, xr l2)]) (fun _ => rfl) (fun v343 e344 => ?_)
            replace H := H v343 e344
            refine WP.at 1997 rfl ?_
            refine wp_goto 18 (by decide) dL_law_1997 ?_
            exact WP.pick [1, 2, 3, 0] rfl (hB18 v343 (k) _ H)
          · replace H := H.2 c342
            refine wp_iconst (0 : Int32) (by decide) dL_law_990 ?_
            exact wp_iret (Or.inl rfl) dL_law_991 H
        · replace H := H.2.2.2.2.2.2.2.2.2.2.2.2.2.2.2.2.2.2.2.2.2.2.1 c0
          refine wp_aload_n 1 rfl rfl dL_law_992 ?_
          refine wp_aload_n 0 rfl rfl dL_law_993 ?_
          refine wp_iload_n 3 rfl rfl dL_law_994 ?_
          refine wp_iconst (1 : Int32) (by decide) dL_law_995 ?_
          refine wp_iadd dL_law_996 ?_
          obtain ⟨q345, H⟩ := H
          refine wp_scr rfl q345 dL_law_997 ?_
          refine wp_aload_n 0 rfl rfl dL_law_998 ?_
          refine WP.at 999 rfl ?_
          refine wp_iload_n 3 rfl rfl dL_law_999 ?_
          refine wp_iconst (2 : Int32) (by decide) dL_law_1000 ?_
          refine wp_iadd dL_law_1001 ?_
          obtain ⟨q346, H⟩ := H
          refine wp_scr rfl q346 dL_law_1002 ?_
          refine WP.at 1003 rfl ?_
          obtain ⟨q347, H⟩ := H
          obtain ⟨q348, H⟩ := H
          refine wp_cVi (M2 := M_T_drawer) coX10 l1 q348 [xi (hI h (1, 0) (l3 + (1 : Int32)).toNatClampNeg), xi (hI h (1, 0) (l3 + (2 : Int32)).toNatClampNeg)] rfl lv_L_107 mo_T_drawer (Nat.le_of_ble_eq_true rfl) ⟨(Nat.le_of_ble_eq_true rfl), (Nat.le_of_ble_eq_true rfl)⟩ (Nat.le_of_ble_eq_true rfl) q347 dL_law_1003 (t_T_drawer l1 (hI h (1, 0) (l3 + (1 : Int32)).toNatClampNeg) (hI h (1, 0) (l3 + (2 : Int32)).toNatClampNeg) _ _ H) (fun v350 h349 H => ?_)
          refine wp_aload_n 2 rfl rfl dL_law_1006 ?_
          refine wp_aload_n 0 rfl rfl dL_law_1007 ?_
          refine wp_iload_n 3 rfl rfl dL_law_1008 ?_
          refine WP.at 1009 rfl ?_
          refine wp_iconst (1 : Int32) (by decide) dL_law_1009 ?_
          refine wp_iadd dL_law_1010 ?_
          obtain ⟨q351, H⟩ := H
          refine wp_scr rfl q351 dL_law_1011 ?_
          refine wp_aload_n 0 rfl rfl dL_law_1012 ?_
          refine wp_iload_n 3 rfl rfl dL_law_1013 ?_
          refine wp_iconst (2 : Int32) (by decide) dL_law_1014 ?_
          refine wp_iadd dL_law_1015 ?_
          obtain ⟨q352, H⟩ := H
          refine wp_scr rfl q352 dL_law_1016 ?_
          refine WP.at 1017 rfl ?_
          refine WP.at 1017 rfl ?_
          obtain ⟨q353, H⟩ := H
          obtain ⟨q354, H⟩ := H
          refine wp_cVi (M2 := M_M_drawer) coX11 l2 q354 [xi (hI h349 (1, 0) (l3 + (1 : Int32)).toNatClampNeg), xi (hI h349 (1, 0) (l3 + (2 : Int32)).toNatClampNeg)] rfl lv_L_110 mo_M_drawer (Nat.le_of_ble_eq_true rfl) ⟨(Nat.le_of_ble_eq_true rfl), (Nat.le_of_ble_eq_true rfl)⟩ (Nat.le_of_ble_eq_true rfl) q353 dL_law_1017 (t_M_drawer l2 (hI h349 (1, 0) (l3 + (1 : Int32)).toNatClampNeg) (hI h349 (1, 0) (l3 + (2 : Int32)).toNatClampNeg) _ _ H) (fun v356 h355 H => ?_)
          refine WP.at 1020 rfl ?_
          refine wp_icmp_eq 1994 (by decide) dL_law_1020 (fun c357 => ?_) (fun c357 => ?_)
          · replace H := H.1 c357
            refine wp_iincN (7 : Int32) (by decide) rfl (Nat.le_of_ble_eq_true rfl) dL_law_1994 (ls' := fun v358 => [(3, xi v358), (0, xr ((1, 0) : xN)), (1, xr l1), (2, xr l2)]) (fun _ => rfl) (fun v358 e359 => ?_)
            replace H := H v358 e359
            refine WP.at 1997 rfl ?_
            refine wp_goto 18 (by decide) dL_law_1997 ?_
            exact WP.pick [1, 2, 3, 0] rfl (hB18 v358 (k) _ H)
          · replace H := H.2 c357
            refine wp_iconst (0 : Int32) (by decide) dL_law_1023 ?_
            exact wp_iret (Or.inl rfl) dL_law_1024 H
        · replace H := H.2.2.2.2.2.2.2.2.2.2.2.2.2.2.2.2.2.2.2.2.2.2.2.1 c0
          refine wp_aload_n 1 rfl rfl dL_law_1025 ?_
          refine wp_aload_n 0 rfl rfl dL_law_1026 ?_
          refine wp_iload_n 3 rfl rfl dL_law_1027 ?_
          refine wp_iconst (1 : Int32) (by decide) dL_law_1028 ?_
          refine wp_iadd dL_law_1029 ?_
          obtain ⟨q360, H⟩ := H
          refine wp_scr rfl q360 dL_law_1030 ?_
          refine WP.at 1031 rfl ?_
          obtain ⟨q361, H⟩ := H
          obtain ⟨q362, H⟩ := H
          refine wp_cVi (M2 := M_T_lose) coX10 l1 q362 [xi (hI h (1, 0) (l3 + (1 : Int32)).toNatClampNeg)] rfl lv_L_111 mo_T_lose (Nat.le_of_ble_eq_true rfl) ⟨(Nat.le_of_ble_eq_true rfl), (Nat.le_of_ble_eq_true rfl)⟩ (Nat.le_of_ble_eq_true rfl) q361 dL_law_1031 (t_T_lose l1 (hI h (1, 0) (l3 + (1 : Int32)).toNatClampNeg) _ _ H) (fun v364 h363 H => ?_)
          refine WP.at 1034 rfl ?_
          refine wp_aload_n 2 rfl rfl dL_law_1034 ?_
          refine wp_aload_n 0 rfl rfl dL_law_1035 ?_
          refine wp_iload_n 3 rfl rfl dL_law_1036 ?_
          refine wp_iconst (1 : Int32) (by decide) dL_law_1037 ?_
          refine wp_iadd dL_law_1038 ?_
          obtain ⟨q365, H⟩ := H
          refine wp_scr rfl q365 dL_law_1039 ?_
          refine WP.at 1040 rfl ?_
          obtain ⟨q366, H⟩ := H
          obtain ⟨q367, H⟩ := H
          refine wp_cVi (M2 := M_M_lose) coX11 l2 q367 [xi (hI h363 (1, 0) (l3 + (1 : Int32)).toNatClampNeg)] rfl lv_L_114 mo_M_lose (Nat.le_of_ble_eq_true rfl) ⟨(Nat.le_of_ble_eq_true rfl), (Nat.le_of_ble_eq_true rfl)⟩ (Nat.le_of_ble_eq_true rfl) q366 dL_law_1040 (t_M_lose l2 (hI h363 (1, 0) (l3 + (1 : Int32)).toNatClampNeg) _ _ H) (fun v369 h368 H => ?_)
          refine WP.at 1043 rfl ?_
          refine wp_icmp_eq 1994 (by decide) dL_law_1043 (fun c370 => ?_) (fun c370 => ?_)
          · replace H := H.1 c370
            refine wp_iincN (7 : Int32) (by decide) rfl (Nat.le_of_ble_eq_true rfl) dL_law_1994 (ls' := fun v371 => [(3, xi v371), (0, xr ((1, 0) : xN)), (1, xr l1), (2, xr l2)]) (fun _ => rfl) (fun v371 e372 => ?_)
            replace H := H v371 e372
            refine WP.at 1997 rfl ?_
            refine wp_goto 18 (by decide) dL_law_1997 ?_
            exact WP.pick [1, 2, 3, 0] rfl (hB18 v371 (k) _ H)
          · replace H := H.2 c370
            refine wp_iconst (0 : Int32) (by decide) dL_law_1046 ?_
            exact wp_iret (Or.inl rfl) dL_law_1047 H
        · replace H := H.2.2.2.2.2.2.2.2.2.2.2.2.2.2.2.2.2.2.2.2.2.2.2.2.1 c0
          refine wp_aload_n 1 rfl rfl dL_law_1048 ?_
          refine wp_aload_n 0 rfl rfl dL_law_1049 ?_
          refine wp_iload_n 3 rfl rfl dL_law_1050 ?_
          refine wp_iconst (1 : Int32) (by decide) dL_law_1051 ?_
          refine wp_iadd dL_law_1052 ?_
          obtain ⟨q373, H⟩ := H
          refine wp_scr rfl q373 dL_law_1053 ?_
          refine wp_aload_n 0 rfl rfl dL_law_1054 ?_
          refine WP.at 1055 rfl ?_
          refine wp_iload_n 3 rfl rfl dL_law_1055 ?_
          refine wp_iconst (2 : Int32) (by decide) dL_law_1056 ?_
          refine wp_iadd dL_law_1057 ?_
          obtain ⟨q374, H⟩ := H
          refine wp_scr rfl q374 dL_law_1058 ?_
          refine wp_aload_n 0 rfl rfl dL_law_1059 ?_
          refine wp_iload_n 3 rfl rfl dL_law_1060 ?_
          refine wp_iconst (3 : Int32) (by decide) dL_law_1061 ?_
          refine wp_iadd dL_law_1062 ?_
          refine WP.at 1063 rfl ?_
          obtain ⟨q375, H⟩ := H
          refine wp_scr rfl q375 dL_law_1063 ?_
          refine WP.at 1064 rfl ?_
          obtain ⟨q376, H⟩ := H
          obtain ⟨q377, H⟩ := H
          refine wp_cVi (M2 := M_T_keep) coX10 l1 q377 [xi (hI h (1, 0) (l3 + (1 : Int32)).toNatClampNeg), xi (hI h (1, 0) (l3 + (2 : Int32)).toNatClampNeg), xi (hI h (1, 0) (l3 + (3 : Int32)).toNatClampNeg)] rfl lv_L_115 mo_T_keep (Nat.le_of_ble_eq_true rfl) ⟨(Nat.le_of_ble_eq_true rfl), (Nat.le_of_ble_eq_true rfl)⟩ (Nat.le_of_ble_eq_true rfl) q376 dL_law_1064 (t_T_keep l1 (hI h (1, 0) (l3 + (1 : Int32)).toNatClampNeg) (hI h (1, 0) (l3 + (2 : Int32)).toNatClampNeg) (hI h (1, 0) (l3 + (3 : Int32)).toNatClampNeg) _ _ H) (fun v379 h378 H => ?_)
          refine wp_aload_n 2 rfl rfl dL_law_1067 ?_
          refine wp_aload_n 0 rfl rfl dL_law_1068 ?_
          refine wp_iload_n 3 rfl rfl dL_law_1069 ?_
          refine wp_iconst (1 : Int32) (by decide) dL_law_1070 ?_
          refine wp_iadd dL_law_1071 ?_
          obtain ⟨q380, H⟩ := H
          refine wp_scr rfl q380 dL_law_1072 ?_
          refine WP.at 1073 rfl ?_
          refine wp_aload_n 0 rfl rfl dL_law_1073 ?_
          refine wp_iload_n 3 rfl rfl dL_law_1074 ?_
          refine wp_iconst (2 : Int32) (by decide) dL_law_1075 ?_
          refine wp_iadd dL_law_1076 ?_
          obtain ⟨q381, H⟩ := H
          refine wp_scr rfl q381 dL_law_1077 ?_
          refine wp_aload_n 0 rfl rfl dL_law_1078 ?_
          refine wp_iload_n 3 rfl rfl dL_law_1079 ?_
          refine wp_iconst (3 : Int32) (by decide) dL_law_1080 ?_
          refine WP.at 1081 rfl ?_
          refine wp_iadd dL_law_1081 ?_
          obtain ⟨q382, H⟩ := H
          refine wp_scr rfl q382 dL_law_1082 ?_
          refine WP.at 1083 rfl ?_
          obtain ⟨q383, H⟩ := H
          obtain ⟨q384, H⟩ := H
          refine wp_cVi (M2 := M_M_keep) coX11 l2 q384 [xi (hI h378 (1, 0) (l3 + (1 : Int32)).toNatClampNeg), xi (hI h378 (1, 0) (l3 + (2 : Int32)).toNatClampNeg), xi (hI h378 (1, 0) (l3 + (3 : Int32)).toNatClampNeg)] rfl lv_L_118 mo_M_keep (Nat.le_of_ble_eq_true rfl) ⟨(Nat.le_of_ble_eq_true rfl), (Nat.le_of_ble_eq_true rfl)⟩ (Nat.le_of_ble_eq_true rfl) q383 dL_law_1083 (t_M_keep l2 (hI h378 (1, 0) (l3 + (1 : Int32)).toNatClampNeg) (hI h378 (1, 0) (l3 + (2 : Int32)).toNatClampNeg) (hI h378 (1, 0) (l3 + (3 : Int32)).toNatClampNeg) _ _ H) (fun v386 h385 H => ?_)
          refine WP.at 1086 rfl ?_
          refine wp_icmp_eq 1994 (by decide) dL_law_1086 (fun c387 => ?_) (fun c387 => ?_)
          · replace H := H.1 c387
            refine wp_iincN (7 : Int32) (by decide) rfl (Nat.le_of_ble_eq_true rfl) dL_law_1994 (ls' := fun v388 => [(3, xi v388), (0, xr ((1, 0) : xN)), (1, xr l1), (2, xr l2)]) (fun _ => rfl) (fun v388 e389 => ?_)
            replace H := H v388 e389
            refine WP.at 1997 rfl ?_
            refine wp_goto 18 (by decide) dL_law_1997 ?_
            exact WP.pick [1, 2, 3, 0] rfl (hB18 v388 (k) _ H)
          · replace H := H.2 c387
            refine wp_iconst (0 : Int32) (by decide) dL_law_1089 ?_
            exact wp_iret (Or.inl rfl) dL_law_1090 H
        · replace H := H.2.2.2.2.2.2.2.2.2.2.2.2.2.2.2.2.2.2.2.2.2.2.2.2.2.1 c0
          refine wp_aload_n 1 rfl rfl dL_law_1091 ?_
          refine wp_aload_n 0 rfl rfl dL_law_1092 ?_
          refine wp_iload_n 3 rfl rfl dL_law_1093 ?_
          refine wp_iconst (1 : Int32) (by decide) dL_law_1094 ?_
          refine wp_iadd dL_law_1095 ?_
          obtain ⟨q390, H⟩ := H
          refine wp_scr rfl q390 dL_law_1096 ?_
          refine wp_aload_n 0 rfl rfl dL_law_1097 ?_
          refine WP.at 1098 rfl ?_
          refine wp_iload_n 3 rfl rfl dL_law_1098 ?_
          refine wp_iconst (2 : Int32) (by decide) dL_law_1099 ?_
          refine wp_iadd dL_law_1100 ?_
          obtain ⟨q391, H⟩ := H
          refine wp_scr rfl q391 dL_law_1101 ?_
          refine wp_aload_n 0 rfl rfl dL_law_1102 ?_
          refine wp_iload_n 3 rfl rfl dL_law_1103 ?_
          refine wp_iconst (3 : Int32) (by decide) dL_law_1104 ?_
          refine wp_iadd dL_law_1105 ?_
          refine WP.at 1106 rfl ?_
          obtain ⟨q392, H⟩ := H
          refine wp_scr rfl q392 dL_law_1106 ?_
          refine wp_i2l dL_law_1107 ?_
          refine wp_bipush (32 : Int32) (by decide) dL_law_1108 ?_
          refine wp_lshl dL_law_1110 ?_
          refine wp_aload_n 0 rfl rfl dL_law_1111 ?_
          refine wp_iload_n 3 rfl rfl dL_law_1112 ?_
          refine wp_iconst (4 : Int32) (by decide) dL_law_1113 ?_
          refine wp_iadd dL_law_1114 ?_
          refine WP.at 1115 rfl ?_
          obtain ⟨q393, H⟩ := H
          refine wp_scr rfl q393 dL_law_1115 ?_
          refine wp_i2l dL_law_1116 ?_
          refine wp_ldc2 (4294967295 : Int64) cL_L_119 dL_law_1117 ?_
          refine wp_land dL_law_1120 ?_
          refine wp_lor dL_law_1121 ?_
          refine wp_aload_n 0 rfl rfl dL_law_1122 ?_
          refine wp_iload_n 3 rfl rfl dL_law_1123 ?_
          refine wp_iconst (5 : Int32) (by decide) dL_law_1124 ?_
          refine WP.at 1125 rfl ?_
          refine wp_iadd dL_law_1125 ?_
          obtain ⟨q394, H⟩ := H
          refine wp_scr rfl q394 dL_law_1126 ?_
          refine WP.at 1127 rfl ?_
          obtain ⟨q395, H⟩ := H
          obtain ⟨q396, H⟩ := H
          refine wp_cVi (M2 := M_T_note) coX10 l1 q396 [xi (hI h (1, 0) (l3 + (1 : Int32)).toNatClampNeg), xi (hI h (1, 0) (l3 + (2 : Int32)).toNatClampNeg), xl ((((hI h (1, 0) (l3 + (3 : Int32)).toNatClampNeg).toInt64) <<< ((32 : Int32).toInt64 &&& 63)) ||| (((hI h (1, 0) (l3 + (4 : Int32)).toNatClampNeg).toInt64) &&& (4294967295 : Int64))), xi (hI h (1, 0) (l3 + (5 : Int32)).toNatClampNeg)] rfl lv_L_121 mo_T_note (Nat.le_of_ble_eq_true rfl) ⟨(Nat.le_of_ble_eq_true rfl), (Nat.le_of_ble_eq_true rfl)⟩ (Nat.le_of_ble_eq_true rfl) q395 dL_law_1127 (t_T_note l1 (hI h (1, 0) (l3 + (1 : Int32)).toNatClampNeg) (hI h (1, 0) (l3 + (2 : Int32)).toNatClampNeg) ((((hI h (1, 0) (l3 + (3 : Int32)).toNatClampNeg).toInt64) <<< ((32 : Int32).toInt64 &&& 63)) ||| (((hI h (1, 0) (l3 + (4 : Int32)).toNatClampNeg).toInt64) &&& (4294967295 : Int64))) (hI h (1, 0) (l3 + (5 : Int32)).toNatClampNeg) _ _ H) (fun v398 h397 H => ?_)
          refine wp_aload_n 2 rfl rfl dL_law_1130 ?_
          refine wp_aload_n 0 rfl rfl dL_law_1131 ?_
          refine wp_iload_n 3 rfl rfl dL_law_1132 ?_
          refine wp_iconst (1 : Int32) (by decide) dL_law_1133 ?_
          refine wp_iadd dL_law_1134 ?_
          refine WP.at 1135 rfl ?_
          obtain ⟨q399, H⟩ := H
          refine wp_scr rfl q399 dL_law_1135 ?_
          refine wp_aload_n 0 rfl rfl dL_law_1136 ?_
          refine wp_iload_n 3 rfl rfl dL_law_1137 ?_
          refine wp_iconst (2 : Int32) (by decide) dL_law_1138 ?_
          refine wp_iadd dL_law_1139 ?_
          obtain ⟨q400, H⟩ := H
          refine wp_scr rfl q400 dL_law_1140 ?_
          refine wp_aload_n 0 rfl rfl dL_law_1141 ?_
          refine wp_iload_n 3 rfl rfl dL_law_1142 ?_
          refine WP.at 1143 rfl ?_
          refine wp_iconst (3 : Int32) (by decide) dL_law_1143 ?_
          refine wp_iadd dL_law_1144 ?_
          obtain ⟨q401, H⟩ := H
          refine wp_scr rfl q401 dL_law_1145 ?_
          refine wp_i2l dL_law_1146 ?_
          refine wp_bipush (32 : Int32) (by decide) dL_law_1147 ?_
          refine wp_lshl dL_law_1149 ?_
          refine wp_aload_n 0 rfl rfl dL_law_1150 ?_
          refine wp_iload_n 3 rfl rfl dL_law_1151 ?_
          refine WP.at 1152 rfl ?_
          refine wp_iconst (4 : Int32) (by decide) dL_law_1152 ?_
          refine wp_iadd dL_law_1153 ?_
          obtain ⟨q402, H⟩ := H
          refine wp_scr rfl q402 dL_law_1154 ?_
          refine wp_i2l dL_law_1155 ?_
          refine wp_ldc2 (4294967295 : Int64) cL_L_119 dL_law_1156 ?_
          refine wp_land dL_law_1159 ?_
          refine wp_lor dL_law_1160 ?_
          refine wp_aload_n 0 rfl rfl dL_law_1161 ?_
          refine WP.at 1162 rfl ?_
          refine wp_iload_n 3 rfl rfl dL_law_1162 ?_
          refine wp_iconst (5 : Int32) (by decide) dL_law_1163 ?_
          refine wp_iadd dL_law_1164 ?_
          obtain ⟨q403, H⟩ := H
          refine wp_scr rfl q403 dL_law_1165 ?_
          refine WP.at 1166 rfl ?_
          obtain ⟨q404, H⟩ := H
          obtain ⟨q405, H⟩ := H
          refine wp_cVi (M2 := M_M_note) coX11 l2 q405 [xi (hI h397 (1, 0) (l3 + (1 : Int32)).toNatClampNeg), xi (hI h397 (1, 0) (l3 + (2 : Int32)).toNatClampNeg), xl ((((hI h397 (1, 0) (l3 + (3 : Int32)).toNatClampNeg).toInt64) <<< ((32 : Int32).toInt64 &&& 63)) ||| (((hI h397 (1, 0) (l3 + (4 : Int32)).toNatClampNeg).toInt64) &&& (4294967295 : Int64))), xi (hI h397 (1, 0) (l3 + (5 : Int32)).toNatClampNeg)] rfl lv_L_125 mo_M_note (Nat.le_of_ble_eq_true rfl) ⟨(Nat.le_of_ble_eq_true rfl), (Nat.le_of_ble_eq_true rfl)⟩ (Nat.le_of_ble_eq_true rfl) q404 dL_law_1166 (t_M_note l2 (hI h397 (1, 0) (l3 + (1 : Int32)).toNatClampNeg) (hI h397 (1, 0) (l3 + (2 : Int32)).toNatClampNeg) ((((hI h397 (1, 0) (l3 + (3 : Int32)).toNatClampNeg).toInt64) <<< ((32 : Int32).toInt64 &&& 63)) ||| (((hI h397 (1, 0) (l3 + (4 : Int32)).toNatClampNeg).toInt64) &&& (4294967295 : Int64))) (hI h397 (1, 0) (l3 + (5 : Int32)).toNatClampNeg) _ _ H) (fun v407 h406 H => ?_)
          refine WP.at 1169 rfl ?_
          refine wp_icmp_eq 1994 (by decide) dL_law_1169 (fun c408 => ?_) (fun c408 => ?_)
          · replace H := H.1 c408
            refine wp_iincN (7 : Int32) (by decide) rfl (Nat.le_of_ble_eq_true rfl) dL_law_1994 (ls' := fun v409 => [(3, xi v409), (0, xr ((1, 0) : xN)), (1, xr l1), (2, xr l2)]) (fun _ => rfl) (fun v409 e410 => ?_)
            replace H := H v409 e410
            refine WP.at 1997 rfl ?_
            refine wp_goto 18 (by decide) dL_law_1997 ?_
            exact WP.pick [1, 2, 3, 0] rfl (hB18 v409 (k) _ H)
          · replace H := H.2 c408
            refine wp_iconst (0 : Int32) (by decide) dL_law_1172 ?_
            exact wp_iret (Or.inl rfl) dL_law_1173 H
        · replace H := H.2.2.2.2.2.2.2.2.2.2.2.2.2.2.2.2.2.2.2.2.2.2.2.2.2.2.1 c0
          refine wp_aload_n 1 rfl rfl dL_law_1174 ?_
          refine wp_aload_n 0 rfl rfl dL_law_1175 ?_
          refine wp_iload_n 3 rfl rfl dL_law_1176 ?_
          refine wp_iconst (1 : Int32) (by decide) dL_law_1177 ?_
          refine wp_iadd dL_law_1178 ?_
          obtain ⟨q411, H⟩ := H
          refine wp_scr rfl q411 dL_law_1179 ?_
          refine wp_aload_n 0 rfl rfl dL_law_1180 ?_
          refine WP.at 1181 rfl ?_
          refine wp_iload_n 3 rfl rfl dL_law_1181 ?_
          refine wp_iconst (2 : Int32) (by decide) dL_law_1182 ?_
          refine wp_iadd dL_law_1183 ?_
          obtain ⟨q412, H⟩ := H
          refine wp_scr rfl q412 dL_law_1184 ?_
          refine wp_aload_n 0 rfl rfl dL_law_1185 ?_
          refine wp_iload_n 3 rfl rfl dL_law_1186 ?_
          refine wp_iconst (3 : Int32) (by decide) dL_law_1187 ?_
          refine wp_iadd dL_law_1188 ?_
          refine WP.at 1189 rfl ?_
          obtain ⟨q413, H⟩ := H
          refine wp_scr rfl q413 dL_law_1189 ?_
          refine WP.at 1190 rfl ?_
          obtain ⟨q414, H⟩ := H
          obtain ⟨q415, H⟩ := H
          refine wp_cVi (M2 := M_T_coins) coX10 l1 q415 [xi (hI h (1, 0) (l3 + (1 : Int32)).toNatClampNeg), xi (hI h (1, 0) (l3 + (2 : Int32)).toNatClampNeg), xi (hI h (1, 0) (l3 + (3 : Int32)).toNatClampNeg)] rfl lv_L_126 mo_T_coins (Nat.le_of_ble_eq_true rfl) ⟨(Nat.le_of_ble_eq_true rfl), (Nat.le_of_ble_eq_true rfl)⟩ (Nat.le_of_ble_eq_true rfl) q414 dL_law_1190 (t_T_coins l1 (hI h (1, 0) (l3 + (1 : Int32)).toNatClampNeg) (hI h (1, 0) (l3 + (2 : Int32)).toNatClampNeg) (hI h (1, 0) (l3 + (3 : Int32)).toNatClampNeg) _ _ H) (fun v417 h416 H => ?_)
          refine wp_aload_n 2 rfl rfl dL_law_1193 ?_
          refine wp_aload_n 0 rfl rfl dL_law_1194 ?_
          refine wp_iload_n 3 rfl rfl dL_law_1195 ?_
          refine wp_iconst (1 : Int32) (by decide) dL_law_1196 ?_
          refine wp_iadd dL_law_1197 ?_
          obtain ⟨q418, H⟩ := H
          refine wp_scr rfl q418 dL_law_1198 ?_
          refine WP.at 1199 rfl ?_
          refine wp_aload_n 0 rfl rfl dL_law_1199 ?_
          refine wp_iload_n 3 rfl rfl dL_law_1200 ?_
          refine wp_iconst (2 : Int32) (by decide) dL_law_1201 ?_
          refine wp_iadd dL_law_1202 ?_
          obtain ⟨q419, H⟩ := H
          refine wp_scr rfl q419 dL_law_1203 ?_
          refine wp_aload_n 0 rfl rfl dL_law_1204 ?_
          refine wp_iload_n 3 rfl rfl dL_law_1205 ?_
          refine wp_iconst (3 : Int32) (by decide) dL_law_1206 ?_
          refine WP.at 1207 rfl ?_
          refine wp_iadd dL_law_1207 ?_
          obtain ⟨q420, H⟩ := H
          refine wp_scr rfl q420 dL_law_1208 ?_
          refine WP.at 1209 rfl ?_
          obtain ⟨q421, H⟩ := H
          obtain ⟨q422, H⟩ := H
          refine wp_cVi (M2 := M_M_coins) coX11 l2 q422 [xi (hI h416 (1, 0) (l3 + (1 : Int32)).toNatClampNeg), xi (hI h416 (1, 0) (l3 + (2 : Int32)).toNatClampNeg), xi (hI h416 (1, 0) (l3 + (3 : Int32)).toNatClampNeg)] rfl lv_L_129 mo_M_coins (Nat.le_of_ble_eq_true rfl) ⟨(Nat.le_of_ble_eq_true rfl), (Nat.le_of_ble_eq_true rfl)⟩ (Nat.le_of_ble_eq_true rfl) q421 dL_law_1209 (t_M_coins l2 (hI h416 (1, 0) (l3 + (1 : Int32)).toNatClampNeg) (hI h416 (1, 0) (l3 + (2 : Int32)).toNatClampNeg) (hI h416 (1, 0) (l3 + (3 : Int32)).toNatClampNeg) _ _ H) (fun v424 h423 H => ?_)
          refine WP.at 1212 rfl ?_
          refine wp_icmp_eq 1994 (by decide) dL_law_1212 (fun c425 => ?_) (fun c425 => ?_)
          · replace H := H.1 c425
            refine wp_iincN (7 : Int32) (by decide) rfl (Nat.le_of_ble_eq_true rfl) dL_law_1994 (ls' := fun v426 => [(3, xi v426), (0, xr ((1, 0) : xN)), (1, xr l1), (2, xr l2)]) (fun _ => rfl) (fun v426 e427 => ?_)
            replace H := H v426 e427
            refine WP.at 1997 rfl ?_
            refine wp_goto 18 (by decide) dL_law_1997 ?_
            exact WP.pick [1, 2, 3, 0] rfl (hB18 v426 (k) _ H)
          · replace H := H.2 c425
            refine wp_iconst (0 : Int32) (by decide) dL_law_1215 ?_
            exact wp_iret (Or.inl rfl) dL_law_1216 H
        · replace H := H.2.2.2.2.2.2.2.2.2.2.2.2.2.2.2.2.2.2.2.2.2.2.2.2.2.2.2.1 c0
          refine wp_aload_n 1 rfl rfl dL_law_1217 ?_
          refine wp_aload_n 0 rfl rfl dL_law_1218 ?_
          refine wp_iload_n 3 rfl rfl dL_law_1219 ?_
          refine wp_iconst (1 : Int32) (by decide) dL_law_1220 ?_
          refine wp_iadd dL_law_1221 ?_
          obtain ⟨q428, H⟩ := H
          refine wp_scr rfl q428 dL_law_1222 ?_
          refine wp_aload_n 0 rfl rfl dL_law_1223 ?_
          refine WP.at 1224 rfl ?_
          refine wp_iload_n 3 rfl rfl dL_law_1224 ?_
          refine wp_iconst (2 : Int32) (by decide) dL_law_1225 ?_
          refine wp_iadd dL_law_1226 ?_
          obtain ⟨q429, H⟩ := H
          refine wp_scr rfl q429 dL_law_1227 ?_
          refine WP.at 1228 rfl ?_
          obtain ⟨q430, H⟩ := H
          obtain ⟨q431, H⟩ := H
          refine wp_cVi (M2 := M_T_clear) coX10 l1 q431 [xi (hI h (1, 0) (l3 + (1 : Int32)).toNatClampNeg), xi (hI h (1, 0) (l3 + (2 : Int32)).toNatClampNeg)] rfl lv_L_130 mo_T_clear (Nat.le_of_ble_eq_true rfl) ⟨(Nat.le_of_ble_eq_true rfl), (Nat.le_of_ble_eq_true rfl)⟩ (Nat.le_of_ble_eq_true rfl) q430 dL_law_1228 (t_T_clear l1 (hI h (1, 0) (l3 + (1 : Int32)).toNatClampNeg) (hI h (1, 0) (l3 + (2 : Int32)).toNatClampNeg) _ _ H) (fun v433 h432 H => ?_)
          refine wp_aload_n 2 rfl rfl dL_law_1231 ?_
          refine wp_aload_n 0 rfl rfl dL_law_1232 ?_
          refine wp_iload_n 3 rfl rfl dL_law_1233 ?_
          refine WP.at 1234 rfl ?_
          refine wp_iconst (1 : Int32) (by decide) dL_law_1234 ?_
          refine wp_iadd dL_law_1235 ?_
          obtain ⟨q434, H⟩ := H
          refine wp_scr rfl q434 dL_law_1236 ?_
          refine wp_aload_n 0 rfl rfl dL_law_1237 ?_
          refine wp_iload_n 3 rfl rfl dL_law_1238 ?_
          refine wp_iconst (2 : Int32) (by decide) dL_law_1239 ?_
          refine wp_iadd dL_law_1240 ?_
          obtain ⟨q435, H⟩ := H
          refine wp_scr rfl q435 dL_law_1241 ?_
          refine WP.at 1242 rfl ?_
          refine WP.at 1242 rfl ?_
          obtain ⟨q436, H⟩ := H
          obtain ⟨q437, H⟩ := H
          refine wp_cVi (M2 := M_M_clear) coX11 l2 q437 [xi (hI h432 (1, 0) (l3 + (1 : Int32)).toNatClampNeg), xi (hI h432 (1, 0) (l3 + (2 : Int32)).toNatClampNeg)] rfl lv_L_133 mo_M_clear (Nat.le_of_ble_eq_true rfl) ⟨(Nat.le_of_ble_eq_true rfl), (Nat.le_of_ble_eq_true rfl)⟩ (Nat.le_of_ble_eq_true rfl) q436 dL_law_1242 (t_M_clear l2 (hI h432 (1, 0) (l3 + (1 : Int32)).toNatClampNeg) (hI h432 (1, 0) (l3 + (2 : Int32)).toNatClampNeg) _ _ H) (fun v439 h438 H => ?_)
          refine WP.at 1245 rfl ?_
          refine wp_icmp_eq 1994 (by decide) dL_law_1245 (fun c440 => ?_) (fun c440 => ?_)
          · replace H := H.1 c440
            refine wp_iincN (7 : Int32) (by decide) rfl (Nat.le_of_ble_eq_true rfl) dL_law_1994 (ls' := fun v441 => [(3, xi v441), (0, xr ((1, 0) : xN)), (1, xr l1), (2, xr l2)]) (fun _ => rfl) (fun v441 e442 => ?_)
            replace H := H v441 e442
            refine WP.at 1997 rfl ?_
            refine wp_goto 18 (by decide) dL_law_1997 ?_
            exact WP.pick [1, 2, 3, 0] rfl (hB18 v441 (k) _ H)
          · replace H := H.2 c440
            refine wp_iconst (0 : Int32) (by decide) dL_law_1248 ?_
            exact wp_iret (Or.inl rfl) dL_law_1249 H
        · replace H := H.2.2.2.2.2.2.2.2.2.2.2.2.2.2.2.2.2.2.2.2.2.2.2.2.2.2.2.2.1 c0
          refine wp_aload_n 1 rfl rfl dL_law_1250 ?_
          refine wp_aload_n 0 rfl rfl dL_law_1251 ?_
          refine wp_iload_n 3 rfl rfl dL_law_1252 ?_
          refine wp_iconst (1 : Int32) (by decide) dL_law_1253 ?_
          refine wp_iadd dL_law_1254 ?_
          obtain ⟨q443, H⟩ := H
          refine wp_scr rfl q443 dL_law_1255 ?_
          refine wp_aload_n 0 rfl rfl dL_law_1256 ?_
          refine WP.at 1257 rfl ?_
          refine wp_iload_n 3 rfl rfl dL_law_1257 ?_
          refine wp_iconst (2 : Int32) (by decide) dL_law_1258 ?_
          refine wp_iadd dL_law_1259 ?_
          obtain ⟨q444, H⟩ := H
          refine wp_scr rfl q444 dL_law_1260 ?_
          refine WP.at 1261 rfl ?_
          obtain ⟨q445, H⟩ := H
          obtain ⟨q446, H⟩ := H
          refine wp_cVi (M2 := M_T_kind) coX10 l1 q446 [xi (hI h (1, 0) (l3 + (1 : Int32)).toNatClampNeg), xi (hI h (1, 0) (l3 + (2 : Int32)).toNatClampNeg)] rfl lv_L_134 mo_T_kind (Nat.le_of_ble_eq_true rfl) ⟨(Nat.le_of_ble_eq_true rfl), (Nat.le_of_ble_eq_true rfl)⟩ (Nat.le_of_ble_eq_true rfl) q445 dL_law_1261 (t_T_kind l1 (hI h (1, 0) (l3 + (1 : Int32)).toNatClampNeg) (hI h (1, 0) (l3 + (2 : Int32)).toNatClampNeg) _ _ H) (fun v448 h447 H => ?_)
          refine wp_aload_n 2 rfl rfl dL_law_1264 ?_
          refine wp_aload_n 0 rfl rfl dL_law_1265 ?_
          refine wp_iload_n 3 rfl rfl dL_law_1266 ?_
          refine WP.at 1267 rfl ?_
          refine wp_iconst (1 : Int32) (by decide) dL_law_1267 ?_
          refine wp_iadd dL_law_1268 ?_
          obtain ⟨q449, H⟩ := H
          refine wp_scr rfl q449 dL_law_1269 ?_
          refine wp_aload_n 0 rfl rfl dL_law_1270 ?_
          refine wp_iload_n 3 rfl rfl dL_law_1271 ?_
          refine wp_iconst (2 : Int32) (by decide) dL_law_1272 ?_
          refine wp_iadd dL_law_1273 ?_
          obtain ⟨q450, H⟩ := H
          refine wp_scr rfl q450 dL_law_1274 ?_
          refine WP.at 1275 rfl ?_
          refine WP.at 1275 rfl ?_
          obtain ⟨q451, H⟩ := H
          obtain ⟨q452, H⟩ := H
          refine wp_cVi (M2 := M_M_kind) coX11 l2 q452 [xi (hI h447 (1, 0) (l3 + (1 : Int32)).toNatClampNeg), xi (hI h447 (1, 0) (l3 + (2 : Int32)).toNatClampNeg)] rfl lv_L_137 mo_M_kind (Nat.le_of_ble_eq_true rfl) ⟨(Nat.le_of_ble_eq_true rfl), (Nat.le_of_ble_eq_true rfl)⟩ (Nat.le_of_ble_eq_true rfl) q451 dL_law_1275 (t_M_kind l2 (hI h447 (1, 0) (l3 + (1 : Int32)).toNatClampNeg) (hI h447 (1, 0) (l3 + (2 : Int32)).toNatClampNeg) _ _ H) (fun v454 h453 H => ?_)
          refine WP.at 1278 rfl ?_
          refine wp_icmp_eq 1994 (by decide) dL_law_1278 (fun c455 => ?_) (fun c455 => ?_)
          · replace H := H.1 c455
            refine wp_iincN (7 : Int32) (by decide) rfl (Nat.le_of_ble_eq_true rfl) dL_law_1994 (ls' := fun v456 => [(3, xi v456), (0, xr ((1, 0) : xN)), (1, xr l1), (2, xr l2)]) (fun _ => rfl) (fun v456 e457 => ?_)
            replace H := H v456 e457
            refine WP.at 1997 rfl ?_
            refine wp_goto 18 (by decide) dL_law_1997 ?_
            exact WP.pick [1, 2, 3, 0] rfl (hB18 v456 (k) _ H)
          · replace H := H.2 c455
            refine wp_iconst (0 : Int32) (by decide) dL_law_1281 ?_
            exact wp_iret (Or.inl rfl) dL_law_1282 H
        · replace H := H.2.2.2.2.2.2.2.2.2.2.2.2.2.2.2.2.2.2.2.2.2.2.2.2.2.2.2.2.2.1 c0
          refine wp_aload_n 1 rfl rfl dL_law_1283 ?_
          refine wp_aload_n 0 rfl rfl dL_law_1284 ?_
          refine wp_iload_n 3 rfl rfl dL_law_1285 ?_
          refine wp_iconst (1 : Int32) (by decide) dL_law_1286 ?_
          refine wp_iadd dL_law_1287 ?_
          obtain ⟨q458, H⟩ := H
          refine wp_scr rfl q458 dL_law_1288 ?_
          refine wp_aload_n 0 rfl rfl dL_law_1289 ?_
          refine WP.at 1290 rfl ?_
          refine wp_iload_n 3 rfl rfl dL_law_1290 ?_
          refine wp_iconst (2 : Int32) (by decide) dL_law_1291 ?_
          refine wp_iadd dL_law_1292 ?_
          obtain ⟨q459, H⟩ := H
          refine wp_scr rfl q459 dL_law_1293 ?_
          refine WP.at 1294 rfl ?_
          obtain ⟨q460, H⟩ := H
          obtain ⟨q461, H⟩ := H
          refine wp_cVi (M2 := M_T_read) coX10 l1 q461 [xi (hI h (1, 0) (l3 + (1 : Int32)).toNatClampNeg), xi (hI h (1, 0) (l3 + (2 : Int32)).toNatClampNeg)] rfl lv_L_138 mo_T_read (Nat.le_of_ble_eq_true rfl) ⟨(Nat.le_of_ble_eq_true rfl), (Nat.le_of_ble_eq_true rfl)⟩ (Nat.le_of_ble_eq_true rfl) q460 dL_law_1294 (t_T_read l1 (hI h (1, 0) (l3 + (1 : Int32)).toNatClampNeg) (hI h (1, 0) (l3 + (2 : Int32)).toNatClampNeg) _ _ H) (fun v463 h462 H => ?_)
          refine wp_aload_n 2 rfl rfl dL_law_1297 ?_
          refine wp_aload_n 0 rfl rfl dL_law_1298 ?_
          refine wp_iload_n 3 rfl rfl dL_law_1299 ?_
          refine WP.at 1300 rfl ?_
          refine wp_iconst (1 : Int32) (by decide) dL_law_1300 ?_
          refine wp_iadd dL_law_1301 ?_
          obtain ⟨q464, H⟩ := H
          refine wp_scr rfl q464 dL_law_1302 ?_
          refine wp_aload_n 0 rfl rfl dL_law_1303 ?_
          refine wp_iload_n 3 rfl rfl dL_law_1304 ?_
          refine wp_iconst (2 : Int32) (by decide) dL_law_1305 ?_
          refine wp_iadd dL_law_1306 ?_
          obtain ⟨q465, H⟩ := H
          refine wp_scr rfl q465 dL_law_1307 ?_
          refine WP.at 1308 rfl ?_
          refine WP.at 1308 rfl ?_
          obtain ⟨q466, H⟩ := H
          obtain ⟨q467, H⟩ := H
          refine wp_cVi (M2 := M_M_read) coX11 l2 q467 [xi (hI h462 (1, 0) (l3 + (1 : Int32)).toNatClampNeg), xi (hI h462 (1, 0) (l3 + (2 : Int32)).toNatClampNeg)] rfl lv_L_141 mo_M_read (Nat.le_of_ble_eq_true rfl) ⟨(Nat.le_of_ble_eq_true rfl), (Nat.le_of_ble_eq_true rfl)⟩ (Nat.le_of_ble_eq_true rfl) q466 dL_law_1308 (t_M_read l2 (hI h462 (1, 0) (l3 + (1 : Int32)).toNatClampNeg) (hI h462 (1, 0) (l3 + (2 : Int32)).toNatClampNeg) _ _ H) (fun v469 h468 H => ?_)
          refine WP.at 1311 rfl ?_
          refine wp_icmp_eq 1994 (by decide) dL_law_1311 (fun c470 => ?_) (fun c470 => ?_)
          · replace H := H.1 c470
            refine wp_iincN (7 : Int32) (by decide) rfl (Nat.le_of_ble_eq_true rfl) dL_law_1994 (ls' := fun v471 => [(3, xi v471), (0, xr ((1, 0) : xN)), (1, xr l1), (2, xr l2)]) (fun _ => rfl) (fun v471 e472 => ?_)
            replace H := H v471 e472
            refine WP.at 1997 rfl ?_
            refine wp_goto 18 (by decide) dL_law_1997 ?_
            exact WP.pick [1, 2, 3, 0] rfl (hB18 v471 (k) _ H)
          · replace H := H.2 c470
            refine wp_iconst (0 : Int32) (by decide) dL_law_1314 ?_
            exact wp_iret (Or.inl rfl) dL_law_1315 H
        · replace H := H.2.2.2.2.2.2.2.2.2.2.2.2.2.2.2.2.2.2.2.2.2.2.2.2.2.2.2.2.2.2.1 c0
          refine wp_aload_n 1 rfl rfl dL_law_1316 ?_
          refine wp_aload_n 0 rfl rfl dL_law_1317 ?_
          refine wp_iload_n 3 rfl rfl dL_law_1318 ?_
          refine wp_iconst (1 : Int32) (by decide) dL_law_1319 ?_
          refine wp_iadd dL_law_1320 ?_
          obtain ⟨q473, H⟩ := H
          refine wp_scr rfl q473 dL_law_1321 ?_
          refine wp_aload_n 0 rfl rfl dL_law_1322 ?_
          refine WP.at 1323 rfl ?_
          refine wp_iload_n 3 rfl rfl dL_law_1323 ?_
          refine wp_iconst (2 : Int32) (by decide) dL_law_1324 ?_
          refine wp_iadd dL_law_1325 ?_
          obtain ⟨q474, H⟩ := H
          refine wp_scr rfl q474 dL_law_1326 ?_
          refine wp_aload_n 0 rfl rfl dL_law_1327 ?_
          refine wp_iload_n 3 rfl rfl dL_law_1328 ?_
          refine wp_iconst (3 : Int32) (by decide) dL_law_1329 ?_
          refine wp_iadd dL_law_1330 ?_
          refine WP.at 1331 rfl ?_
          obtain ⟨q475, H⟩ := H
          refine wp_scr rfl q475 dL_law_1331 ?_
          refine WP.at 1332 rfl ?_
          obtain ⟨q476, H⟩ := H
          obtain ⟨q477, H⟩ := H
          refine wp_cVi (M2 := M_T_letter) coX10 l1 q477 [xi (hI h (1, 0) (l3 + (1 : Int32)).toNatClampNeg), xi (hI h (1, 0) (l3 + (2 : Int32)).toNatClampNeg), xi (hI h (1, 0) (l3 + (3 : Int32)).toNatClampNeg)] rfl lv_L_142 mo_T_letter (Nat.le_of_ble_eq_true rfl) ⟨(Nat.le_of_ble_eq_true rfl), (Nat.le_of_ble_eq_true rfl)⟩ (Nat.le_of_ble_eq_true rfl) q476 dL_law_1332 (t_T_letter l1 (hI h (1, 0) (l3 + (1 : Int32)).toNatClampNeg) (hI h (1, 0) (l3 + (2 : Int32)).toNatClampNeg) (hI h (1, 0) (l3 + (3 : Int32)).toNatClampNeg) _ _ H) (fun v479 h478 H => ?_)
          refine wp_aload_n 2 rfl rfl dL_law_1335 ?_
          refine wp_aload_n 0 rfl rfl dL_law_1336 ?_
          refine wp_iload_n 3 rfl rfl dL_law_1337 ?_
          refine wp_iconst (1 : Int32) (by decide) dL_law_1338 ?_
          refine wp_iadd dL_law_1339 ?_
          obtain ⟨q480, H⟩ := H
          refine wp_scr rfl q480 dL_law_1340 ?_
          refine WP.at 1341 rfl ?_
          refine wp_aload_n 0 rfl rfl dL_law_1341 ?_
          refine wp_iload_n 3 rfl rfl dL_law_1342 ?_
          refine wp_iconst (2 : Int32) (by decide) dL_law_1343 ?_
          refine wp_iadd dL_law_1344 ?_
          obtain ⟨q481, H⟩ := H
          refine wp_scr rfl q481 dL_law_1345 ?_
          refine wp_aload_n 0 rfl rfl dL_law_1346 ?_
          refine wp_iload_n 3 rfl rfl dL_law_1347 ?_
          refine wp_iconst (3 : Int32) (by decide) dL_law_1348 ?_
          refine WP.at 1349 rfl ?_
          refine wp_iadd dL_law_1349 ?_
          obtain ⟨q482, H⟩ := H
          refine wp_scr rfl q482 dL_law_1350 ?_
          refine WP.at 1351 rfl ?_
          obtain ⟨q483, H⟩ := H
          obtain ⟨q484, H⟩ := H
          refine wp_cVi (M2 := M_M_letter) coX11 l2 q484 [xi (hI h478 (1, 0) (l3 + (1 : Int32)).toNatClampNeg), xi (hI h478 (1, 0) (l3 + (2 : Int32)).toNatClampNeg), xi (hI h478 (1, 0) (l3 + (3 : Int32)).toNatClampNeg)] rfl lv_L_145 mo_M_letter (Nat.le_of_ble_eq_true rfl) ⟨(Nat.le_of_ble_eq_true rfl), (Nat.le_of_ble_eq_true rfl)⟩ (Nat.le_of_ble_eq_true rfl) q483 dL_law_1351 (t_M_letter l2 (hI h478 (1, 0) (l3 + (1 : Int32)).toNatClampNeg) (hI h478 (1, 0) (l3 + (2 : Int32)).toNatClampNeg) (hI h478 (1, 0) (l3 + (3 : Int32)).toNatClampNeg) _ _ H) (fun v486 h485 H => ?_)
          refine WP.at 1354 rfl ?_
          refine wp_icmp_eq 1994 (by decide) dL_law_1354 (fun c487 => ?_) (fun c487 => ?_)
          · replace H := H.1 c487
            refine wp_iincN (7 : Int32) (by decide) rfl (Nat.le_of_ble_eq_true rfl) dL_law_1994 (ls' := fun v488 => [(3, xi v488), (0, xr ((1, 0) : xN)), (1, xr l1), (2, xr l2)]) (fun _ => rfl) (fun v488 e489 => ?_)
            replace H := H v488 e489
            refine WP.at 1997 rfl ?_
            refine wp_goto 18 (by decide) dL_law_1997 ?_
            exact WP.pick [1, 2, 3, 0] rfl (hB18 v488 (k) _ H)
          · replace H := H.2 c487
            refine wp_iconst (0 : Int32) (by decide) dL_law_1357 ?_
            exact wp_iret (Or.inl rfl) dL_law_1358 H
        · replace H := H.2.2.2.2.2.2.2.2.2.2.2.2.2.2.2.2.2.2.2.2.2.2.2.2.2.2.2.2.2.2.2.1 c0
          refine wp_aload_n 1 rfl rfl dL_law_1359 ?_
          refine wp_aload_n 0 rfl rfl dL_law_1360 ?_
          refine wp_iload_n 3 rfl rfl dL_law_1361 ?_
          refine wp_iconst (1 : Int32) (by decide) dL_law_1362 ?_
          refine wp_iadd dL_law_1363 ?_
          obtain ⟨q490, H⟩ := H
          refine wp_scr rfl q490 dL_law_1364 ?_
          refine wp_aload_n 0 rfl rfl dL_law_1365 ?_
          refine WP.at 1366 rfl ?_
          refine wp_iload_n 3 rfl rfl dL_law_1366 ?_
          refine wp_iconst (2 : Int32) (by decide) dL_law_1367 ?_
          refine wp_iadd dL_law_1368 ?_
          obtain ⟨q491, H⟩ := H
          refine wp_scr rfl q491 dL_law_1369 ?_
          refine wp_aload_n 0 rfl rfl dL_law_1370 ?_
          refine wp_iload_n 3 rfl rfl dL_law_1371 ?_
          refine wp_iconst (3 : Int32) (by decide) dL_law_1372 ?_
          refine wp_iadd dL_law_1373 ?_
          refine WP.at 1374 rfl ?_
          obtain ⟨q492, H⟩ := H
          refine wp_scr rfl q492 dL_law_1374 ?_
          refine wp_aload_n 0 rfl rfl dL_law_1375 ?_
          refine wp_iload_n 3 rfl rfl dL_law_1376 ?_
          refine wp_iconst (4 : Int32) (by decide) dL_law_1377 ?_
          refine wp_iadd dL_law_1378 ?_
          obtain ⟨q493, H⟩ := H
          refine wp_scr rfl q493 dL_law_1379 ?_
          refine WP.at 1380 rfl ?_
          obtain ⟨q494, H⟩ := H
          obtain ⟨q495, H⟩ := H
          refine wp_cVi (M2 := M_T_coin) coX10 l1 q495 [xi (hI h (1, 0) (l3 + (1 : Int32)).toNatClampNeg), xi (hI h (1, 0) (l3 + (2 : Int32)).toNatClampNeg), xi (hI h (1, 0) (l3 + (3 : Int32)).toNatClampNeg), xi (hI h (1, 0) (l3 + (4 : Int32)).toNatClampNeg)] rfl lv_L_146 mo_T_coin (Nat.le_of_ble_eq_true rfl) ⟨(Nat.le_of_ble_eq_true rfl), (Nat.le_of_ble_eq_true rfl)⟩ (Nat.le_of_ble_eq_true rfl) q494 dL_law_1380 (t_T_coin l1 (hI h (1, 0) (l3 + (1 : Int32)).toNatClampNeg) (hI h (1, 0) (l3 + (2 : Int32)).toNatClampNeg) (hI h (1, 0) (l3 + (3 : Int32)).toNatClampNeg) (hI h (1, 0) (l3 + (4 : Int32)).toNatClampNeg) _ _ H) (fun v497 h496 H => ?_)
          refine wp_aload_n 2 rfl rfl dL_law_1383 ?_
          refine WP.at 1384 rfl ?_
          refine wp_aload_n 0 rfl rfl dL_law_1384 ?_
          refine wp_iload_n 3 rfl rfl dL_law_1385 ?_
          refine wp_iconst (1 : Int32) (by decide) dL_law_1386 ?_
          refine wp_iadd dL_law_1387 ?_
          obtain ⟨q498, H⟩ := H
          refine wp_scr rfl q498 dL_law_1388 ?_
          refine wp_aload_n 0 rfl rfl dL_law_1389 ?_
          refine wp_iload_n 3 rfl rfl dL_law_1390 ?_
          refine wp_iconst (2 : Int32) (by decide) dL_law_1391 ?_
          refine WP.at 1392 rfl ?_
          refine wp_iadd dL_law_1392 ?_
          obtain ⟨q499, H⟩ := H
          refine wp_scr rfl q499 dL_law_1393 ?_
          refine wp_aload_n 0 rfl rfl dL_law_1394 ?_
          refine wp_iload_n 3 rfl rfl dL_law_1395 ?_
          refine wp_iconst (3 : Int32) (by decide) dL_law_1396 ?_
          refine wp_iadd dL_law_1397 ?_
          obtain ⟨q500, H⟩ := H
          refine wp_scr rfl q500 dL_law_1398 ?_
          refine wp_aload_n 0 rfl rfl dL_law_1399 ?_
          refine WP.at 1400 rfl ?_
          refine wp_iload_n 3 rfl rfl dL_law_1400 ?_
          refine wp_iconst (4 : Int32) (by decide) dL_law_1401 ?_
          refine wp_iadd dL_law_1402 ?_
          obtain ⟨q501, H⟩ := H
          refine wp_scr rfl q501 dL_law_1403 ?_
          refine WP.at 1404 rfl ?_
          obtain ⟨q502, H⟩ := H
          obtain ⟨q503, H⟩ := H
          refine wp_cVi (M2 := M_M_coin) coX11 l2 q503 [xi (hI h496 (1, 0) (l3 + (1 : Int32)).toNatClampNeg), xi (hI h496 (1, 0) (l3 + (2 : Int32)).toNatClampNeg), xi (hI h496 (1, 0) (l3 + (3 : Int32)).toNatClampNeg), xi (hI h496 (1, 0) (l3 + (4 : Int32)).toNatClampNeg)] rfl lv_L_149 mo_M_coin (Nat.le_of_ble_eq_true rfl) ⟨(Nat.le_of_ble_eq_true rfl), (Nat.le_of_ble_eq_true rfl)⟩ (Nat.le_of_ble_eq_true rfl) q502 dL_law_1404 (t_M_coin l2 (hI h496 (1, 0) (l3 + (1 : Int32)).toNatClampNeg) (hI h496 (1, 0) (l3 + (2 : Int32)).toNatClampNeg) (hI h496 (1, 0) (l3 + (3 : Int32)).toNatClampNeg) (hI h496 (1, 0) (l3 + (4 : Int32)).toNatClampNeg) _ _ H) (fun v505 h504 H => ?_)
          refine WP.at 1407 rfl ?_
          refine wp_icmp_eq 1994 (by decide) dL_law_1407 (fun c506 => ?_) (fun c506 => ?_)
          · replace H := H.1 c506
            refine wp_iincN (7 : Int32) (by decide) rfl (Nat.le_of_ble_eq_true rfl) dL_law_1994 (ls' := fun v507 => [(3, xi v507), (0, xr ((1, 0) : xN)), (1, xr l1), (2, xr l2)]) (fun _ => rfl) (fun v507 e508 => ?_)
            replace H := H v507 e508
            refine WP.at 1997 rfl ?_
            refine wp_goto 18 (by decide) dL_law_1997 ?_
            exact WP.pick [1, 2, 3, 0] rfl (hB18 v507 (k) _ H)
          · replace H := H.2 c506
            refine wp_iconst (0 : Int32) (by decide) dL_law_1410 ?_
            exact wp_iret (Or.inl rfl) dL_law_1411 H
        · replace H := H.2.2.2.2.2.2.2.2.2.2.2.2.2.2.2.2.2.2.2.2.2.2.2.2.2.2.2.2.2.2.2.2.1 c0
          refine wp_aload_n 1 rfl rfl dL_law_1412 ?_
          refine wp_aload_n 0 rfl rfl dL_law_1413 ?_
          refine wp_iload_n 3 rfl rfl dL_law_1414 ?_
          refine wp_iconst (1 : Int32) (by decide) dL_law_1415 ?_
          refine wp_iadd dL_law_1416 ?_
          obtain ⟨q509, H⟩ := H
          refine wp_scr rfl q509 dL_law_1417 ?_
          refine wp_aload_n 0 rfl rfl dL_law_1418 ?_
          refine WP.at 1419 rfl ?_
          refine wp_iload_n 3 rfl rfl dL_law_1419 ?_
          refine wp_iconst (2 : Int32) (by decide) dL_law_1420 ?_
          refine wp_iadd dL_law_1421 ?_
          obtain ⟨q510, H⟩ := H
          refine wp_scr rfl q510 dL_law_1422 ?_
          refine wp_aload_n 0 rfl rfl dL_law_1423 ?_
          refine wp_iload_n 3 rfl rfl dL_law_1424 ?_
          refine wp_iconst (3 : Int32) (by decide) dL_law_1425 ?_
          refine wp_iadd dL_law_1426 ?_
          refine WP.at 1427 rfl ?_
          obtain ⟨q511, H⟩ := H
          refine wp_scr rfl q511 dL_law_1427 ?_
          refine WP.at 1428 rfl ?_
          obtain ⟨q512, H⟩ := H
          obtain ⟨q513, H⟩ := H
          refine wp_cVi (M2 := M_T_coinAt) coX10 l1 q513 [xi (hI h (1, 0) (l3 + (1 : Int32)).toNatClampNeg), xi (hI h (1, 0) (l3 + (2 : Int32)).toNatClampNeg), xi (hI h (1, 0) (l3 + (3 : Int32)).toNatClampNeg)] rfl lv_L_150 mo_T_coinAt (Nat.le_of_ble_eq_true rfl) ⟨(Nat.le_of_ble_eq_true rfl), (Nat.le_of_ble_eq_true rfl)⟩ (Nat.le_of_ble_eq_true rfl) q512 dL_law_1428 (t_T_coinAt l1 (hI h (1, 0) (l3 + (1 : Int32)).toNatClampNeg) (hI h (1, 0) (l3 + (2 : Int32)).toNatClampNeg) (hI h (1, 0) (l3 + (3 : Int32)).toNatClampNeg) _ _ H) (fun v515 h514 H => ?_)
          refine wp_aload_n 2 rfl rfl dL_law_1431 ?_
          refine wp_aload_n 0 rfl rfl dL_law_1432 ?_
          refine wp_iload_n 3 rfl rfl dL_law_1433 ?_
          refine wp_iconst (1 : Int32) (by decide) dL_law_1434 ?_
          refine wp_iadd dL_law_1435 ?_
          obtain ⟨q516, H⟩ := H
          refine wp_scr rfl q516 dL_law_1436 ?_
          refine WP.at 1437 rfl ?_
          refine wp_aload_n 0 rfl rfl dL_law_1437 ?_
          refine wp_iload_n 3 rfl rfl dL_law_1438 ?_
          refine wp_iconst (2 : Int32) (by decide) dL_law_1439 ?_
          refine wp_iadd dL_law_1440 ?_
          obtain ⟨q517, H⟩ := H
          refine wp_scr rfl q517 dL_law_1441 ?_
          refine wp_aload_n 0 rfl rfl dL_law_1442 ?_
          refine wp_iload_n 3 rfl rfl dL_law_1443 ?_
          refine wp_iconst (3 : Int32) (by decide) dL_law_1444 ?_
          refine WP.at 1445 rfl ?_
          refine wp_iadd dL_law_1445 ?_
          obtain ⟨q518, H⟩ := H
          refine wp_scr rfl q518 dL_law_1446 ?_
          refine WP.at 1447 rfl ?_
          obtain ⟨q519, H⟩ := H
          obtain ⟨q520, H⟩ := H
          refine wp_cVi (M2 := M_M_coinAt) coX11 l2 q520 [xi (hI h514 (1, 0) (l3 + (1 : Int32)).toNatClampNeg), xi (hI h514 (1, 0) (l3 + (2 : Int32)).toNatClampNeg), xi (hI h514 (1, 0) (l3 + (3 : Int32)).toNatClampNeg)] rfl lv_L_153 mo_M_coinAt (Nat.le_of_ble_eq_true rfl) ⟨(Nat.le_of_ble_eq_true rfl), (Nat.le_of_ble_eq_true rfl)⟩ (Nat.le_of_ble_eq_true rfl) q519 dL_law_1447 (t_M_coinAt l2 (hI h514 (1, 0) (l3 + (1 : Int32)).toNatClampNeg) (hI h514 (1, 0) (l3 + (2 : Int32)).toNatClampNeg) (hI h514 (1, 0) (l3 + (3 : Int32)).toNatClampNeg) _ _ H) (fun v522 h521 H => ?_)
          refine WP.at 1450 rfl ?_
          refine wp_icmp_eq 1994 (by decide) dL_law_1450 (fun c523 => ?_) (fun c523 => ?_)
          · replace H := H.1 c523
            refine wp_iincN (7 : Int32) (by decide) rfl (Nat.le_of_ble_eq_true rfl) dL_law_1994 (ls' := fun v524 => [(3, xi v524), (0, xr ((1, 0) : xN)), (1, xr l1), (2, xr l2)]) (fun _ => rfl) (fun v524 e525 => ?_)
            replace H := H v524 e525
            refine WP.at 1997 rfl ?_
            refine wp_goto 18 (by decide) dL_law_1997 ?_
            exact WP.pick [1, 2, 3, 0] rfl (hB18 v524 (k) _ H)
          · replace H := H.2 c523
            refine wp_iconst (0 : Int32) (by decide) dL_law_1453 ?_
            exact wp_iret (Or.inl rfl) dL_law_1454 H
        · replace H := H.2.2.2.2.2.2.2.2.2.2.2.2.2.2.2.2.2.2.2.2.2.2.2.2.2.2.2.2.2.2.2.2.2.1 c0
          refine wp_aload_n 1 rfl rfl dL_law_1455 ?_
          refine wp_aload_n 0 rfl rfl dL_law_1456 ?_
          refine wp_iload_n 3 rfl rfl dL_law_1457 ?_
          refine wp_iconst (1 : Int32) (by decide) dL_law_1458 ?_
          refine wp_iadd dL_law_1459 ?_
          obtain ⟨q526, H⟩ := H
          refine wp_scr rfl q526 dL_law_1460 ?_
          refine wp_aload_n 0 rfl rfl dL_law_1461 ?_
          refine WP.at 1462 rfl ?_
          refine wp_iload_n 3 rfl rfl dL_law_1462 ?_
          refine wp_iconst (2 : Int32) (by decide) dL_law_1463 ?_
          refine wp_iadd dL_law_1464 ?_
          obtain ⟨q527, H⟩ := H
          refine wp_scr rfl q527 dL_law_1465 ?_
          refine wp_aload_n 0 rfl rfl dL_law_1466 ?_
          refine wp_iload_n 3 rfl rfl dL_law_1467 ?_
          refine wp_iconst (3 : Int32) (by decide) dL_law_1468 ?_
          refine wp_iadd dL_law_1469 ?_
          refine WP.at 1470 rfl ?_
          obtain ⟨q528, H⟩ := H
          refine wp_scr rfl q528 dL_law_1470 ?_
          refine wp_aload_n 0 rfl rfl dL_law_1471 ?_
          refine wp_iload_n 3 rfl rfl dL_law_1472 ?_
          refine wp_iconst (4 : Int32) (by decide) dL_law_1473 ?_
          refine wp_iadd dL_law_1474 ?_
          obtain ⟨q529, H⟩ := H
          refine wp_scr rfl q529 dL_law_1475 ?_
          refine WP.at 1476 rfl ?_
          obtain ⟨q530, H⟩ := H
          obtain ⟨q531, H⟩ := H
          refine wp_cVi (M2 := M_T_change) coX10 l1 q531 [xi (hI h (1, 0) (l3 + (1 : Int32)).toNatClampNeg), xi (hI h (1, 0) (l3 + (2 : Int32)).toNatClampNeg), xi (hI h (1, 0) (l3 + (3 : Int32)).toNatClampNeg), xi (hI h (1, 0) (l3 + (4 : Int32)).toNatClampNeg)] rfl lv_L_154 mo_T_change (Nat.le_of_ble_eq_true rfl) ⟨(Nat.le_of_ble_eq_true rfl), (Nat.le_of_ble_eq_true rfl)⟩ (Nat.le_of_ble_eq_true rfl) q530 dL_law_1476 (t_T_change l1 (hI h (1, 0) (l3 + (1 : Int32)).toNatClampNeg) (hI h (1, 0) (l3 + (2 : Int32)).toNatClampNeg) (hI h (1, 0) (l3 + (3 : Int32)).toNatClampNeg) (hI h (1, 0) (l3 + (4 : Int32)).toNatClampNeg) _ _ H) (fun v533 h532 H => ?_)
          refine wp_aload_n 2 rfl rfl dL_law_1479 ?_
          refine WP.at 1480 rfl ?_
          refine wp_aload_n 0 rfl rfl dL_law_1480 ?_
          refine wp_iload_n 3 rfl rfl dL_law_1481 ?_
          refine wp_iconst (1 : Int32) (by decide) dL_law_1482 ?_
          refine wp_iadd dL_law_1483 ?_
          obtain ⟨q534, H⟩ := H
          refine wp_scr rfl q534 dL_law_1484 ?_
          refine wp_aload_n 0 rfl rfl dL_law_1485 ?_
          refine wp_iload_n 3 rfl rfl dL_law_1486 ?_
          refine wp_iconst (2 : Int32) (by decide) dL_law_1487 ?_
          refine WP.at 1488 rfl ?_
          refine wp_iadd dL_law_1488 ?_
          obtain ⟨q535, H⟩ := H
          refine wp_scr rfl q535 dL_law_1489 ?_
          refine wp_aload_n 0 rfl rfl dL_law_1490 ?_
          refine wp_iload_n 3 rfl rfl dL_law_1491 ?_
          refine wp_iconst (3 : Int32) (by decide) dL_law_1492 ?_
          refine wp_iadd dL_law_1493 ?_
          obtain ⟨q536, H⟩ := H
          refine wp_scr rfl q536 dL_law_1494 ?_
          refine wp_aload_n 0 rfl rfl dL_law_1495 ?_
          refine WP.at 1496 rfl ?_
          refine wp_iload_n 3 rfl rfl dL_law_1496 ?_
          refine wp_iconst (4 : Int32) (by decide) dL_law_1497 ?_
          refine wp_iadd dL_law_1498 ?_
          obtain ⟨q537, H⟩ := H
          refine wp_scr rfl q537 dL_law_1499 ?_
          refine WP.at 1500 rfl ?_
          obtain ⟨q538, H⟩ := H
          obtain ⟨q539, H⟩ := H
          refine wp_cVi (M2 := M_M_change) coX11 l2 q539 [xi (hI h532 (1, 0) (l3 + (1 : Int32)).toNatClampNeg), xi (hI h532 (1, 0) (l3 + (2 : Int32)).toNatClampNeg), xi (hI h532 (1, 0) (l3 + (3 : Int32)).toNatClampNeg), xi (hI h532 (1, 0) (l3 + (4 : Int32)).toNatClampNeg)] rfl lv_L_157 mo_M_change (Nat.le_of_ble_eq_true rfl) ⟨(Nat.le_of_ble_eq_true rfl), (Nat.le_of_ble_eq_true rfl)⟩ (Nat.le_of_ble_eq_true rfl) q538 dL_law_1500 (t_M_change l2 (hI h532 (1, 0) (l3 + (1 : Int32)).toNatClampNeg) (hI h532 (1, 0) (l3 + (2 : Int32)).toNatClampNeg) (hI h532 (1, 0) (l3 + (3 : Int32)).toNatClampNeg) (hI h532 (1, 0) (l3 + (4 : Int32)).toNatClampNeg) _ _ H) (fun v541 h540 H => ?_)
          refine WP.at 1503 rfl ?_
          refine wp_icmp_eq 1994 (by decide) dL_law_1503 (fun c542 => ?_) (fun c542 => ?_)
          · replace H := H.1 c542
            refine wp_iincN (7 : Int32) (by decide) rfl (Nat.le_of_ble_eq_true rfl) dL_law_1994 (ls' := fun v543 => [(3, xi v543), (0, xr ((1, 0) : xN)), (1, xr l1), (2, xr l2)]) (fun _ => rfl) (fun v543 e544 => ?_)
            replace H := H v543 e544
            refine WP.at 1997 rfl ?_
            refine wp_goto 18 (by decide) dL_law_1997 ?_
            exact WP.pick [1, 2, 3, 0] rfl (hB18 v543 (k) _ H)
          · replace H := H.2 c542
            refine wp_iconst (0 : Int32) (by decide) dL_law_1506 ?_
            exact wp_iret (Or.inl rfl) dL_law_1507 H
        · replace H := H.2.2.2.2.2.2.2.2.2.2.2.2.2.2.2.2.2.2.2.2.2.2.2.2.2.2.2.2.2.2.2.2.2.2.1 c0
          refine wp_aload_n 1 rfl rfl dL_law_1508 ?_
          refine wp_aload_n 0 rfl rfl dL_law_1509 ?_
          refine wp_iload_n 3 rfl rfl dL_law_1510 ?_
          refine wp_iconst (1 : Int32) (by decide) dL_law_1511 ?_
          refine wp_iadd dL_law_1512 ?_
          obtain ⟨q545, H⟩ := H
          refine wp_scr rfl q545 dL_law_1513 ?_
          refine wp_aload_n 0 rfl rfl dL_law_1514 ?_
          refine WP.at 1515 rfl ?_
          refine wp_iload_n 3 rfl rfl dL_law_1515 ?_
          refine wp_iconst (2 : Int32) (by decide) dL_law_1516 ?_
          refine wp_iadd dL_law_1517 ?_
          obtain ⟨q546, H⟩ := H
          refine wp_scr rfl q546 dL_law_1518 ?_
          refine wp_aload_n 0 rfl rfl dL_law_1519 ?_
          refine wp_iload_n 3 rfl rfl dL_law_1520 ?_
          refine wp_iconst (3 : Int32) (by decide) dL_law_1521 ?_
          refine wp_iadd dL_law_1522 ?_
          refine WP.at 1523 rfl ?_
          obtain ⟨q547, H⟩ := H
          refine wp_scr rfl q547 dL_law_1523 ?_
          refine WP.at 1524 rfl ?_
          obtain ⟨q548, H⟩ := H
          obtain ⟨q549, H⟩ := H
          refine wp_cVi (M2 := M_T_satchel) coX10 l1 q549 [xi (hI h (1, 0) (l3 + (1 : Int32)).toNatClampNeg), xi (hI h (1, 0) (l3 + (2 : Int32)).toNatClampNeg), xi (hI h (1, 0) (l3 + (3 : Int32)).toNatClampNeg)] rfl lv_L_158 mo_T_satchel (Nat.le_of_ble_eq_true rfl) ⟨(Nat.le_of_ble_eq_true rfl), (Nat.le_of_ble_eq_true rfl)⟩ (Nat.le_of_ble_eq_true rfl) q548 dL_law_1524 (t_T_satchel l1 (hI h (1, 0) (l3 + (1 : Int32)).toNatClampNeg) (hI h (1, 0) (l3 + (2 : Int32)).toNatClampNeg) (hI h (1, 0) (l3 + (3 : Int32)).toNatClampNeg) _ _ H) (fun v551 h550 H => ?_)
          refine wp_aload_n 2 rfl rfl dL_law_1527 ?_
          refine wp_aload_n 0 rfl rfl dL_law_1528 ?_
          refine wp_iload_n 3 rfl rfl dL_law_1529 ?_
          refine wp_iconst (1 : Int32) (by decide) dL_law_1530 ?_
          refine wp_iadd dL_law_1531 ?_
          obtain ⟨q552, H⟩ := H
          refine wp_scr rfl q552 dL_law_1532 ?_
          refine WP.at 1533 rfl ?_
          refine wp_aload_n 0 rfl rfl dL_law_1533 ?_
          refine wp_iload_n 3 rfl rfl dL_law_1534 ?_
          refine wp_iconst (2 : Int32) (by decide) dL_law_1535 ?_
          refine wp_iadd dL_law_1536 ?_
          obtain ⟨q553, H⟩ := H
          refine wp_scr rfl q553 dL_law_1537 ?_
          refine wp_aload_n 0 rfl rfl dL_law_1538 ?_
          refine wp_iload_n 3 rfl rfl dL_law_1539 ?_
          refine wp_iconst (3 : Int32) (by decide) dL_law_1540 ?_
          refine WP.at 1541 rfl ?_
          refine wp_iadd dL_law_1541 ?_
          obtain ⟨q554, H⟩ := H
          refine wp_scr rfl q554 dL_law_1542 ?_
          refine WP.at 1543 rfl ?_
          obtain ⟨q555, H⟩ := H
          obtain ⟨q556, H⟩ := H
          refine wp_cVi (M2 := M_M_satchel) coX11 l2 q556 [xi (hI h550 (1, 0) (l3 + (1 : Int32)).toNatClampNeg), xi (hI h550 (1, 0) (l3 + (2 : Int32)).toNatClampNeg), xi (hI h550 (1, 0) (l3 + (3 : Int32)).toNatClampNeg)] rfl lv_L_161 mo_M_satchel (Nat.le_of_ble_eq_true rfl) ⟨(Nat.le_of_ble_eq_true rfl), (Nat.le_of_ble_eq_true rfl)⟩ (Nat.le_of_ble_eq_true rfl) q555 dL_law_1543 (t_M_satchel l2 (hI h550 (1, 0) (l3 + (1 : Int32)).toNatClampNeg) (hI h550 (1, 0) (l3 + (2 : Int32)).toNatClampNeg) (hI h550 (1, 0) (l3 + (3 : Int32)).toNatClampNeg) _ _ H) (fun v558 h557 H => ?_)
          refine WP.at 1546 rfl ?_
          refine wp_icmp_eq 1994 (by decide) dL_law_1546 (fun c559 => ?_) (fun c559 => ?_)
          · replace H := H.1 c559
            refine wp_iincN (7 : Int32) (by decide) rfl (Nat.le_of_ble_eq_true rfl) dL_law_1994 (ls' := fun v560 => [(3, xi v560), (0, xr ((1, 0) : xN)), (1, xr l1), (2, xr l2)]) (fun _ => rfl) (fun v560 e561 => ?_)
            replace H := H v560 e561
            refine WP.at 1997 rfl ?_
            refine wp_goto 18 (by decide) dL_law_1997 ?_
            exact WP.pick [1, 2, 3, 0] rfl (hB18 v560 (k) _ H)
          · replace H := H.2 c559
            refine wp_iconst (0 : Int32) (by decide) dL_law_1549 ?_
            exact wp_iret (Or.inl rfl) dL_law_1550 H
        · replace H := H.2.2.2.2.2.2.2.2.2.2.2.2.2.2.2.2.2.2.2.2.2.2.2.2.2.2.2.2.2.2.2.2.2.2.2.1 c0
          refine wp_aload_n 1 rfl rfl dL_law_1551 ?_
          refine wp_aload_n 0 rfl rfl dL_law_1552 ?_
          refine wp_iload_n 3 rfl rfl dL_law_1553 ?_
          refine wp_iconst (1 : Int32) (by decide) dL_law_1554 ?_
          refine wp_iadd dL_law_1555 ?_
          obtain ⟨q562, H⟩ := H
          refine wp_scr rfl q562 dL_law_1556 ?_
          refine wp_aload_n 0 rfl rfl dL_law_1557 ?_
          refine WP.at 1558 rfl ?_
          refine wp_iload_n 3 rfl rfl dL_law_1558 ?_
          refine wp_iconst (2 : Int32) (by decide) dL_law_1559 ?_
          refine wp_iadd dL_law_1560 ?_
          obtain ⟨q563, H⟩ := H
          refine wp_scr rfl q563 dL_law_1561 ?_
          refine wp_aload_n 0 rfl rfl dL_law_1562 ?_
          refine wp_iload_n 3 rfl rfl dL_law_1563 ?_
          refine wp_iconst (3 : Int32) (by decide) dL_law_1564 ?_
          refine wp_iadd dL_law_1565 ?_
          refine WP.at 1566 rfl ?_
          obtain ⟨q564, H⟩ := H
          refine wp_scr rfl q564 dL_law_1566 ?_
          refine wp_aload_n 0 rfl rfl dL_law_1567 ?_
          refine wp_iload_n 3 rfl rfl dL_law_1568 ?_
          refine wp_iconst (4 : Int32) (by decide) dL_law_1569 ?_
          refine wp_iadd dL_law_1570 ?_
          obtain ⟨q565, H⟩ := H
          refine wp_scr rfl q565 dL_law_1571 ?_
          refine wp_aload_n 0 rfl rfl dL_law_1572 ?_
          refine wp_iload_n 3 rfl rfl dL_law_1573 ?_
          refine WP.at 1574 rfl ?_
          refine wp_iconst (5 : Int32) (by decide) dL_law_1574 ?_
          refine wp_iadd dL_law_1575 ?_
          obtain ⟨q566, H⟩ := H
          refine wp_scr rfl q566 dL_law_1576 ?_
          refine WP.at 1577 rfl ?_
          obtain ⟨q567, H⟩ := H
          obtain ⟨q568, H⟩ := H
          refine wp_cVi (M2 := M_T_gather) coX10 l1 q568 [xi (hI h (1, 0) (l3 + (1 : Int32)).toNatClampNeg), xi (hI h (1, 0) (l3 + (2 : Int32)).toNatClampNeg), xi (hI h (1, 0) (l3 + (3 : Int32)).toNatClampNeg), xi (hI h (1, 0) (l3 + (4 : Int32)).toNatClampNeg), xi (hI h (1, 0) (l3 + (5 : Int32)).toNatClampNeg)] rfl lv_L_162 mo_T_gather (Nat.le_of_ble_eq_true rfl) ⟨(Nat.le_of_ble_eq_true rfl), (Nat.le_of_ble_eq_true rfl)⟩ (Nat.le_of_ble_eq_true rfl) q567 dL_law_1577 (t_T_gather l1 (hI h (1, 0) (l3 + (1 : Int32)).toNatClampNeg) (hI h (1, 0) (l3 + (2 : Int32)).toNatClampNeg) (hI h (1, 0) (l3 + (3 : Int32)).toNatClampNeg) (hI h (1, 0) (l3 + (4 : Int32)).toNatClampNeg) (hI h (1, 0) (l3 + (5 : Int32)).toNatClampNeg) _ _ H) (fun v570 h569 H => ?_)
          refine wp_aload_n 2 rfl rfl dL_law_1580 ?_
          refine wp_aload_n 0 rfl rfl dL_law_1581 ?_
          refine wp_iload_n 3 rfl rfl dL_law_1582 ?_
          refine wp_iconst (1 : Int32) (by decide) dL_law_1583 ?_
          refine WP.at 1584 rfl ?_
          refine wp_iadd dL_law_1584 ?_
          obtain ⟨q571, H⟩ := H
          refine wp_scr rfl q571 dL_law_1585 ?_
          refine wp_aload_n 0 rfl rfl dL_law_1586 ?_
          refine wp_iload_n 3 rfl rfl dL_law_1587 ?_
          refine wp_iconst (2 : Int32) (by decide) dL_law_1588 ?_
          refine wp_iadd dL_law_1589 ?_
          obtain ⟨q572, H⟩ := H
          refine wp_scr rfl q572 dL_law_1590 ?_
          refine wp_aload_n 0 rfl rfl dL_law_1591 ?_
          refine WP.at 1592 rfl ?_
          refine wp_iload_n 3 rfl rfl dL_law_1592 ?_
          refine wp_iconst (3 : Int32) (by decide) dL_law_1593 ?_
          refine wp_iadd dL_law_1594 ?_
          obtain ⟨q573, H⟩ := H
          refine wp_scr rfl q573 dL_law_1595 ?_
          refine wp_aload_n 0 rfl rfl dL_law_1596 ?_
          refine wp_iload_n 3 rfl rfl dL_law_1597 ?_
          refine wp_iconst (4 : Int32) (by decide) dL_law_1598 ?_
          refine wp_iadd dL_law_1599 ?_
          refine WP.at 1600 rfl ?_
          obtain ⟨q574, H⟩ := H
          refine wp_scr rfl q574 dL_law_1600 ?_
          refine wp_aload_n 0 rfl rfl dL_law_1601 ?_
          refine wp_iload_n 3 rfl rfl dL_law_1602 ?_
          refine wp_iconst (5 : Int32) (by decide) dL_law_1603 ?_
          refine wp_iadd dL_law_1604 ?_
          obtain ⟨q575, H⟩ := H
          refine wp_scr rfl q575 dL_law_1605 ?_
          refine WP.at 1606 rfl ?_
          obtain ⟨q576, H⟩ := H
          obtain ⟨q577, H⟩ := H
          refine wp_cVi (M2 := M_M_gather) coX11 l2 q577 [xi (hI h569 (1, 0) (l3 + (1 : Int32)).toNatClampNeg), xi (hI h569 (1, 0) (l3 + (2 : Int32)).toNatClampNeg), xi (hI h569 (1, 0) (l3 + (3 : Int32)).toNatClampNeg), xi (hI h569 (1, 0) (l3 + (4 : Int32)).toNatClampNeg), xi (hI h569 (1, 0) (l3 + (5 : Int32)).toNatClampNeg)] rfl lv_L_166 mo_M_gather (Nat.le_of_ble_eq_true rfl) ⟨(Nat.le_of_ble_eq_true rfl), (Nat.le_of_ble_eq_true rfl)⟩ (Nat.le_of_ble_eq_true rfl) q576 dL_law_1606 (t_M_gather l2 (hI h569 (1, 0) (l3 + (1 : Int32)).toNatClampNeg) (hI h569 (1, 0) (l3 + (2 : Int32)).toNatClampNeg) (hI h569 (1, 0) (l3 + (3 : Int32)).toNatClampNeg) (hI h569 (1, 0) (l3 + (4 : Int32)).toNatClampNeg) (hI h569 (1, 0) (l3 + (5 : Int32)).toNatClampNeg) _ _ H) (fun v579 h578 H => ?_)
          refine WP.at 1609 rfl ?_
          refine wp_icmp_eq 1994 (by decide) dL_law_1609 (fun c580 => ?_) (fun c580 => ?_)
          · replace H := H.1 c580
            refine wp_iincN (7 : Int32) (by decide) rfl (Nat.le_of_ble_eq_true rfl) dL_law_1994 (ls' := fun v581 => [(3, xi v581), (0, xr ((1, 0) : xN)), (1, xr l1), (2, xr l2)]) (fun _ => rfl) (fun v581 e582 => ?_)
            replace H := H v581 e582
            refine WP.at 1997 rfl ?_
            refine wp_goto 18 (by decide) dL_law_1997 ?_
            exact WP.pick [1, 2, 3, 0] rfl (hB18 v581 (k) _ H)
          · replace H := H.2 c580
            refine wp_iconst (0 : Int32) (by decide) dL_law_1612 ?_
            exact wp_iret (Or.inl rfl) dL_law_1613 H
        · replace H := H.2.2.2.2.2.2.2.2.2.2.2.2.2.2.2.2.2.2.2.2.2.2.2.2.2.2.2.2.2.2.2.2.2.2.2.2.1 c0
          refine wp_aload_n 1 rfl rfl dL_law_1614 ?_
          refine wp_aload_n 0 rfl rfl dL_law_1615 ?_
          refine wp_iload_n 3 rfl rfl dL_law_1616 ?_
          refine wp_iconst (1 : Int32) (by decide) dL_law_1617 ?_
          refine wp_iadd dL_law_1618 ?_
          obtain ⟨q583, H⟩ := H
          refine wp_scr rfl q583 dL_law_1619 ?_
          refine wp_aload_n 0 rfl rfl dL_law_1620 ?_
          refine WP.at 1621 rfl ?_
          refine wp_iload_n 3 rfl rfl dL_law_1621 ?_
          refine wp_iconst (2 : Int32) (by decide) dL_law_1622 ?_
          refine wp_iadd dL_law_1623 ?_
          obtain ⟨q584, H⟩ := H
          refine wp_scr rfl q584 dL_law_1624 ?_
          refine wp_aload_n 0 rfl rfl dL_law_1625 ?_
          refine wp_iload_n 3 rfl rfl dL_law_1626 ?_
          refine wp_iconst (3 : Int32) (by decide) dL_law_1627 ?_
          refine wp_iadd dL_law_1628 ?_
          refine WP.at 1629 rfl ?_
          obtain ⟨q585, H⟩ := H
          refine wp_scr rfl q585 dL_law_1629 ?_
          refine wp_aload_n 0 rfl rfl dL_law_1630 ?_
          refine wp_iload_n 3 rfl rfl dL_law_1631 ?_
          refine wp_iconst (4 : Int32) (by decide) dL_law_1632 ?_
          refine wp_iadd dL_law_1633 ?_
          obtain ⟨q586, H⟩ := H
          refine wp_scr rfl q586 dL_law_1634 ?_
          refine wp_aload_n 0 rfl rfl dL_law_1635 ?_
          refine wp_iload_n 3 rfl rfl dL_law_1636 ?_
          refine WP.at 1637 rfl ?_
          refine wp_iconst (5 : Int32) (by decide) dL_law_1637 ?_
          refine wp_iadd dL_law_1638 ?_
          obtain ⟨q587, H⟩ := H
          refine wp_scr rfl q587 dL_law_1639 ?_
          refine WP.at 1640 rfl ?_
          obtain ⟨q588, H⟩ := H
          obtain ⟨q589, H⟩ := H
          refine wp_cVi (M2 := M_T_shift) coX10 l1 q589 [xi (hI h (1, 0) (l3 + (1 : Int32)).toNatClampNeg), xi (hI h (1, 0) (l3 + (2 : Int32)).toNatClampNeg), xi (hI h (1, 0) (l3 + (3 : Int32)).toNatClampNeg), xi (hI h (1, 0) (l3 + (4 : Int32)).toNatClampNeg), xi (hI h (1, 0) (l3 + (5 : Int32)).toNatClampNeg)] rfl lv_L_167 mo_T_shift (Nat.le_of_ble_eq_true rfl) ⟨(Nat.le_of_ble_eq_true rfl), (Nat.le_of_ble_eq_true rfl)⟩ (Nat.le_of_ble_eq_true rfl) q588 dL_law_1640 (t_T_shift l1 (hI h (1, 0) (l3 + (1 : Int32)).toNatClampNeg) (hI h (1, 0) (l3 + (2 : Int32)).toNatClampNeg) (hI h (1, 0) (l3 + (3 : Int32)).toNatClampNeg) (hI h (1, 0) (l3 + (4 : Int32)).toNatClampNeg) (hI h (1, 0) (l3 + (5 : Int32)).toNatClampNeg) _ _ H) (fun v591 h590 H => ?_)
          refine wp_aload_n 2 rfl rfl dL_law_1643 ?_
          refine wp_aload_n 0 rfl rfl dL_law_1644 ?_
          refine wp_iload_n 3 rfl rfl dL_law_1645 ?_
          refine wp_iconst (1 : Int32) (by decide) dL_law_1646 ?_
          refine WP.at 1647 rfl ?_
          refine wp_iadd dL_law_1647 ?_
          obtain ⟨q592, H⟩ := H
          refine wp_scr rfl q592 dL_law_1648 ?_
          refine wp_aload_n 0 rfl rfl dL_law_1649 ?_
          refine wp_iload_n 3 rfl rfl dL_law_1650 ?_
          refine wp_iconst (2 : Int32) (by decide) dL_law_1651 ?_
          refine wp_iadd dL_law_1652 ?_
          obtain ⟨q593, H⟩ := H
          refine wp_scr rfl q593 dL_law_1653 ?_
          refine wp_aload_n 0 rfl rfl dL_law_1654 ?_
          refine WP.at 1655 rfl ?_
          refine wp_iload_n 3 rfl rfl dL_law_1655 ?_
          refine wp_iconst (3 : Int32) (by decide) dL_law_1656 ?_
          refine wp_iadd dL_law_1657 ?_
          obtain ⟨q594, H⟩ := H
          refine wp_scr rfl q594 dL_law_1658 ?_
          refine wp_aload_n 0 rfl rfl dL_law_1659 ?_
          refine wp_iload_n 3 rfl rfl dL_law_1660 ?_
          refine wp_iconst (4 : Int32) (by decide) dL_law_1661 ?_
          refine wp_iadd dL_law_1662 ?_
          refine WP.at 1663 rfl ?_
          obtain ⟨q595, H⟩ := H
          refine wp_scr rfl q595 dL_law_1663 ?_
          refine wp_aload_n 0 rfl rfl dL_law_1664 ?_
          refine wp_iload_n 3 rfl rfl dL_law_1665 ?_
          refine wp_iconst (5 : Int32) (by decide) dL_law_1666 ?_
          refine wp_iadd dL_law_1667 ?_
          obtain ⟨q596, H⟩ := H
          refine wp_scr rfl q596 dL_law_1668 ?_
          refine WP.at 1669 rfl ?_
          obtain ⟨q597, H⟩ := H
          obtain ⟨q598, H⟩ := H
          refine wp_cVi (M2 := M_M_shift) coX11 l2 q598 [xi (hI h590 (1, 0) (l3 + (1 : Int32)).toNatClampNeg), xi (hI h590 (1, 0) (l3 + (2 : Int32)).toNatClampNeg), xi (hI h590 (1, 0) (l3 + (3 : Int32)).toNatClampNeg), xi (hI h590 (1, 0) (l3 + (4 : Int32)).toNatClampNeg), xi (hI h590 (1, 0) (l3 + (5 : Int32)).toNatClampNeg)] rfl lv_L_170 mo_M_shift (Nat.le_of_ble_eq_true rfl) ⟨(Nat.le_of_ble_eq_true rfl), (Nat.le_of_ble_eq_true rfl)⟩ (Nat.le_of_ble_eq_true rfl) q597 dL_law_1669 (t_M_shift l2 (hI h590 (1, 0) (l3 + (1 : Int32)).toNatClampNeg) (hI h590 (1, 0) (l3 + (2 : Int32)).toNatClampNeg) (hI h590 (1, 0) (l3 + (3 : Int32)).toNatClampNeg) (hI h590 (1, 0) (l3 + (4 : Int32)).toNatClampNeg) (hI h590 (1, 0) (l3 + (5 : Int32)).toNatClampNeg) _ _ H) (fun v600 h599 H => ?_)
          refine WP.at 1672 rfl ?_
          refine wp_icmp_eq 1994 (by decide) dL_law_1672 (fun c601 => ?_) (fun c601 => ?_)
          · replace H := H.1 c601
            refine wp_iincN (7 : Int32) (by decide) rfl (Nat.le_of_ble_eq_true rfl) dL_law_1994 (ls' := fun v602 => [(3, xi v602), (0, xr ((1, 0) : xN)), (1, xr l1), (2, xr l2)]) (fun _ => rfl) (fun v602 e603 => ?_)
            replace H := H v602 e603
            refine WP.at 1997 rfl ?_
            refine wp_goto 18 (by decide) dL_law_1997 ?_
            exact WP.pick [1, 2, 3, 0] rfl (hB18 v602 (k) _ H)
          · replace H := H.2 c601
            refine wp_iconst (0 : Int32) (by decide) dL_law_1675 ?_
            exact wp_iret (Or.inl rfl) dL_law_1676 H
        · replace H := H.2.2.2.2.2.2.2.2.2.2.2.2.2.2.2.2.2.2.2.2.2.2.2.2.2.2.2.2.2.2.2.2.2.2.2.2.2.1 c0
          refine wp_aload_n 1 rfl rfl dL_law_1677 ?_
          refine WP.at 1678 rfl ?_
          obtain ⟨q604, H⟩ := H
          obtain ⟨q605, H⟩ := H
          refine wp_cVi (M2 := M_T_came) coX10 l1 q605 [] rfl lv_L_171 mo_T_came (Nat.le_of_ble_eq_true rfl) ⟨(Nat.le_of_ble_eq_true rfl), (Nat.le_of_ble_eq_true rfl)⟩ (Nat.le_of_ble_eq_true rfl) q604 dL_law_1678 (t_T_came l1 _ _ H) (fun v607 h606 H => ?_)
          refine wp_aload_n 2 rfl rfl dL_law_1681 ?_
          refine WP.at 1682 rfl ?_
          obtain ⟨q608, H⟩ := H
          obtain ⟨q609, H⟩ := H
          refine wp_cVi (M2 := M_M_came) coX11 l2 q609 [] rfl lv_L_174 mo_M_came (Nat.le_of_ble_eq_true rfl) ⟨(Nat.le_of_ble_eq_true rfl), (Nat.le_of_ble_eq_true rfl)⟩ (Nat.le_of_ble_eq_true rfl) q608 dL_law_1682 (t_M_came l2 _ _ H) (fun v611 h610 H => ?_)
          refine WP.at 1685 rfl ?_
          refine wp_icmp_eq 1994 (by decide) dL_law_1685 (fun c612 => ?_) (fun c612 => ?_)
          · replace H := H.1 c612
            refine wp_iincN (7 : Int32) (by decide) rfl (Nat.le_of_ble_eq_true rfl) dL_law_1994 (ls' := fun v613 => [(3, xi v613), (0, xr ((1, 0) : xN)), (1, xr l1), (2, xr l2)]) (fun _ => rfl) (fun v613 e614 => ?_)
            replace H := H v613 e614
            refine WP.at 1997 rfl ?_
            refine wp_goto 18 (by decide) dL_law_1997 ?_
            exact WP.pick [1, 2, 3, 0] rfl (hB18 v613 (k) _ H)
          · replace H := H.2 c612
            refine wp_iconst (0 : Int32) (by decide) dL_law_1688 ?_
            exact wp_iret (Or.inl rfl) dL_law_1689 H
        · replace H := H.2.2.2.2.2.2.2.2.2.2.2.2.2.2.2.2.2.2.2.2.2.2.2.2.2.2.2.2.2.2.2.2.2.2.2.2.2.2.1 c0
          refine wp_aload_n 1 rfl rfl dL_law_1690 ?_
          refine wp_aload_n 0 rfl rfl dL_law_1691 ?_
          refine wp_iload_n 3 rfl rfl dL_law_1692 ?_
          refine wp_iconst (1 : Int32) (by decide) dL_law_1693 ?_
          refine wp_iadd dL_law_1694 ?_
          obtain ⟨q615, H⟩ := H
          refine wp_scr rfl q615 dL_law_1695 ?_
          refine wp_aload_n 0 rfl rfl dL_law_1696 ?_
          refine WP.at 1697 rfl ?_
          refine wp_iload_n 3 rfl rfl dL_law_1697 ?_
          refine wp_iconst (2 : Int32) (by decide) dL_law_1698 ?_
          refine wp_iadd dL_law_1699 ?_
          obtain ⟨q616, H⟩ := H
          refine wp_scr rfl q616 dL_law_1700 ?_
          refine WP.at 1701 rfl ?_
          obtain ⟨q617, H⟩ := H
          obtain ⟨q618, H⟩ := H
          refine wp_cVi (M2 := M_T_held) coX10 l1 q618 [xi (hI h (1, 0) (l3 + (1 : Int32)).toNatClampNeg), xi (hI h (1, 0) (l3 + (2 : Int32)).toNatClampNeg)] rfl lv_L_175 mo_T_held (Nat.le_of_ble_eq_true rfl) ⟨(Nat.le_of_ble_eq_true rfl), (Nat.le_of_ble_eq_true rfl)⟩ (Nat.le_of_ble_eq_true rfl) q617 dL_law_1701 (t_T_held l1 (hI h (1, 0) (l3 + (1 : Int32)).toNatClampNeg) (hI h (1, 0) (l3 + (2 : Int32)).toNatClampNeg) _ _ H) (fun v620 h619 H => ?_)
          refine wp_aload_n 2 rfl rfl dL_law_1704 ?_
          refine wp_aload_n 0 rfl rfl dL_law_1705 ?_
          refine wp_iload_n 3 rfl rfl dL_law_1706 ?_
          refine WP.at 1707 rfl ?_
          refine wp_iconst (1 : Int32) (by decide) dL_law_1707 ?_
          refine wp_iadd dL_law_1708 ?_
          obtain ⟨q621, H⟩ := H
          refine wp_scr rfl q621 dL_law_1709 ?_
          refine wp_aload_n 0 rfl rfl dL_law_1710 ?_
          refine wp_iload_n 3 rfl rfl dL_law_1711 ?_
          refine wp_iconst (2 : Int32) (by decide) dL_law_1712 ?_
          refine wp_iadd dL_law_1713 ?_
          obtain ⟨q622, H⟩ := H
          refine wp_scr rfl q622 dL_law_1714 ?_
          refine WP.at 1715 rfl ?_
          refine WP.at 1715 rfl ?_
          obtain ⟨q623, H⟩ := H
          obtain ⟨q624, H⟩ := H
          refine wp_cVi (M2 := M_M_held) coX11 l2 q624 [xi (hI h619 (1, 0) (l3 + (1 : Int32)).toNatClampNeg), xi (hI h619 (1, 0) (l3 + (2 : Int32)).toNatClampNeg)] rfl lv_L_178 mo_M_held (Nat.le_of_ble_eq_true rfl) ⟨(Nat.le_of_ble_eq_true rfl), (Nat.le_of_ble_eq_true rfl)⟩ (Nat.le_of_ble_eq_true rfl) q623 dL_law_1715 (t_M_held l2 (hI h619 (1, 0) (l3 + (1 : Int32)).toNatClampNeg) (hI h619 (1, 0) (l3 + (2 : Int32)).toNatClampNeg) _ _ H) (fun v626 h625 H => ?_)
          refine WP.at 1718 rfl ?_
          refine wp_icmp_eq 1994 (by decide) dL_law_1718 (fun c627 => ?_) (fun c627 => ?_)
          · replace H := H.1 c627
            refine wp_iincN (7 : Int32) (by decide) rfl (Nat.le_of_ble_eq_true rfl) dL_law_1994 (ls' := fun v628 => [(3, xi v628), (0, xr ((1, 0) : xN)), (1, xr l1), (2, xr l2)]) (fun _ => rfl) (fun v628 e629 => ?_)
            replace H := H v628 e629
            refine WP.at 1997 rfl ?_
            refine wp_goto 18 (by decide) dL_law_1997 ?_
            exact WP.pick [1, 2, 3, 0] rfl (hB18 v628 (k) _ H)
          · replace H := H.2 c627
            refine wp_iconst (0 : Int32) (by decide) dL_law_1721 ?_
            exact wp_iret (Or.inl rfl) dL_law_1722 H
        · replace H := H.2.2.2.2.2.2.2.2.2.2.2.2.2.2.2.2.2.2.2.2.2.2.2.2.2.2.2.2.2.2.2.2.2.2.2.2.2.2.2.1 c0
          refine wp_aload_n 1 rfl rfl dL_law_1723 ?_
          refine wp_aload_n 0 rfl rfl dL_law_1724 ?_
          refine wp_iload_n 3 rfl rfl dL_law_1725 ?_
          refine wp_iconst (1 : Int32) (by decide) dL_law_1726 ?_
          refine wp_iadd dL_law_1727 ?_
          obtain ⟨q630, H⟩ := H
          refine wp_scr rfl q630 dL_law_1728 ?_
          refine WP.at 1729 rfl ?_
          obtain ⟨q631, H⟩ := H
          obtain ⟨q632, H⟩ := H
          refine wp_cVi (M2 := M_T_cash) coX10 l1 q632 [xi (hI h (1, 0) (l3 + (1 : Int32)).toNatClampNeg)] rfl lv_L_179 mo_T_cash (Nat.le_of_ble_eq_true rfl) ⟨(Nat.le_of_ble_eq_true rfl), (Nat.le_of_ble_eq_true rfl)⟩ (Nat.le_of_ble_eq_true rfl) q631 dL_law_1729 (t_T_cash l1 (hI h (1, 0) (l3 + (1 : Int32)).toNatClampNeg) _ _ H) (fun v634 h633 H => ?_)
          refine WP.at 1732 rfl ?_
          refine wp_aload_n 2 rfl rfl dL_law_1732 ?_
          refine wp_aload_n 0 rfl rfl dL_law_1733 ?_
          refine wp_iload_n 3 rfl rfl dL_law_1734 ?_
          refine wp_iconst (1 : Int32) (by decide) dL_law_1735 ?_
          refine wp_iadd dL_law_1736 ?_
          obtain ⟨q635, H⟩ := H
          refine wp_scr rfl q635 dL_law_1737 ?_
          refine WP.at 1738 rfl ?_
          obtain ⟨q636, H⟩ := H
          obtain ⟨q637, H⟩ := H
          refine wp_cVi (M2 := M_M_cash) coX11 l2 q637 [xi (hI h633 (1, 0) (l3 + (1 : Int32)).toNatClampNeg)] rfl lv_L_182 mo_M_cash (Nat.le_of_ble_eq_true rfl) ⟨(Nat.le_of_ble_eq_true rfl), (Nat.le_of_ble_eq_true rfl)⟩ (Nat.le_of_ble_eq_true rfl) q636 dL_law_1738 (t_M_cash l2 (hI h633 (1, 0) (l3 + (1 : Int32)).toNatClampNeg) _ _ H) (fun v639 h638 H => ?_)
          refine WP.at 1741 rfl ?_
          refine wp_icmp_eq 1994 (by decide) dL_law_1741 (fun c640 => ?_) (fun c640 => ?_)
          · replace H := H.1 c640
            refine wp_iincN (7 : Int32) (by decide) rfl (Nat.le_of_ble_eq_true rfl) dL_law_1994 (ls' := fun v641 => [(3, xi v641), (0, xr ((1, 0) : xN)), (1, xr l1), (2, xr l2)]) (fun _ => rfl) (fun v641 e642 => ?_)
            replace H := H v641 e642
            refine WP.at 1997 rfl ?_
            refine wp_goto 18 (by decide) dL_law_1997 ?_
            exact WP.pick [1, 2, 3, 0] rfl (hB18 v641 (k) _ H)
          · replace H := H.2 c640
            refine wp_iconst (0 : Int32) (by decide) dL_law_1744 ?_
            exact wp_iret (Or.inl rfl) dL_law_1745 H
        · replace H := H.2.2.2.2.2.2.2.2.2.2.2.2.2.2.2.2.2.2.2.2.2.2.2.2.2.2.2.2.2.2.2.2.2.2.2.2.2.2.2.2.1 c0
          refine wp_aload_n 1 rfl rfl dL_law_1746 ?_
          refine wp_aload_n 0 rfl rfl dL_law_1747 ?_
          refine wp_iload_n 3 rfl rfl dL_law_1748 ?_
          refine wp_iconst (1 : Int32) (by decide) dL_law_1749 ?_
          refine wp_iadd dL_law_1750 ?_
          obtain ⟨q643, H⟩ := H
          refine wp_scr rfl q643 dL_law_1751 ?_
          refine wp_aload_n 0 rfl rfl dL_law_1752 ?_
          refine WP.at 1753 rfl ?_
          refine wp_iload_n 3 rfl rfl dL_law_1753 ?_
          refine wp_iconst (2 : Int32) (by decide) dL_law_1754 ?_
          refine wp_iadd dL_law_1755 ?_
          obtain ⟨q644, H⟩ := H
          refine wp_scr rfl q644 dL_law_1756 ?_
          refine WP.at 1757 rfl ?_
          obtain ⟨q645, H⟩ := H
          obtain ⟨q646, H⟩ := H
          refine wp_cVi (M2 := M_T_lap) coX10 l1 q646 [xi (hI h (1, 0) (l3 + (1 : Int32)).toNatClampNeg), xi (hI h (1, 0) (l3 + (2 : Int32)).toNatClampNeg)] rfl lv_L_183 mo_T_lap (Nat.le_of_ble_eq_true rfl) ⟨(Nat.le_of_ble_eq_true rfl), (Nat.le_of_ble_eq_true rfl)⟩ (Nat.le_of_ble_eq_true rfl) q645 dL_law_1757 (t_T_lap l1 (hI h (1, 0) (l3 + (1 : Int32)).toNatClampNeg) (hI h (1, 0) (l3 + (2 : Int32)).toNatClampNeg) _ _ H) (fun v648 h647 H => ?_)
          refine wp_aload_n 2 rfl rfl dL_law_1760 ?_
          refine wp_aload_n 0 rfl rfl dL_law_1761 ?_
          refine wp_iload_n 3 rfl rfl dL_law_1762 ?_
          refine WP.at 1763 rfl ?_
          refine wp_iconst (1 : Int32) (by decide) dL_law_1763 ?_
          refine wp_iadd dL_law_1764 ?_
          obtain ⟨q649, H⟩ := H
          refine wp_scr rfl q649 dL_law_1765 ?_
          refine wp_aload_n 0 rfl rfl dL_law_1766 ?_
          refine wp_iload_n 3 rfl rfl dL_law_1767 ?_
          refine wp_iconst (2 : Int32) (by decide) dL_law_1768 ?_
          refine wp_iadd dL_law_1769 ?_
          obtain ⟨q650, H⟩ := H
          refine wp_scr rfl q650 dL_law_1770 ?_
          refine WP.at 1771 rfl ?_
          refine WP.at 1771 rfl ?_
          obtain ⟨q651, H⟩ := H
          obtain ⟨q652, H⟩ := H
          refine wp_cVi (M2 := M_M_lap) coX11 l2 q652 [xi (hI h647 (1, 0) (l3 + (1 : Int32)).toNatClampNeg), xi (hI h647 (1, 0) (l3 + (2 : Int32)).toNatClampNeg)] rfl lv_L_186 mo_M_lap (Nat.le_of_ble_eq_true rfl) ⟨(Nat.le_of_ble_eq_true rfl), (Nat.le_of_ble_eq_true rfl)⟩ (Nat.le_of_ble_eq_true rfl) q651 dL_law_1771 (t_M_lap l2 (hI h647 (1, 0) (l3 + (1 : Int32)).toNatClampNeg) (hI h647 (1, 0) (l3 + (2 : Int32)).toNatClampNeg) _ _ H) (fun v654 h653 H => ?_)
          refine WP.at 1774 rfl ?_
          refine wp_icmp_eq 1994 (by decide) dL_law_1774 (fun c655 => ?_) (fun c655 => ?_)
          · replace H := H.1 c655
            refine wp_iincN (7 : Int32) (by decide) rfl (Nat.le_of_ble_eq_true rfl) dL_law_1994 (ls' := fun v656 => [(3, xi v656), (0, xr ((1, 0) : xN)), (1, xr l1), (2, xr l2)]) (fun _ => rfl) (fun v656 e657 => ?_)
            replace H := H v656 e657
            refine WP.at 1997 rfl ?_
            refine wp_goto 18 (by decide) dL_law_1997 ?_
            exact WP.pick [1, 2, 3, 0] rfl (hB18 v656 (k) _ H)
          · replace H := H.2 c655
            refine wp_iconst (0 : Int32) (by decide) dL_law_1777 ?_
            exact wp_iret (Or.inl rfl) dL_law_1778 H
        · replace H := H.2.2.2.2.2.2.2.2.2.2.2.2.2.2.2.2.2.2.2.2.2.2.2.2.2.2.2.2.2.2.2.2.2.2.2.2.2.2.2.2.2.1 c0
          refine wp_aload_n 1 rfl rfl dL_law_1779 ?_
          refine wp_aload_n 0 rfl rfl dL_law_1780 ?_
          refine wp_iload_n 3 rfl rfl dL_law_1781 ?_
          refine wp_iconst (1 : Int32) (by decide) dL_law_1782 ?_
          refine wp_iadd dL_law_1783 ?_
          obtain ⟨q658, H⟩ := H
          refine wp_scr rfl q658 dL_law_1784 ?_
          refine wp_aload_n 0 rfl rfl dL_law_1785 ?_
          refine WP.at 1786 rfl ?_
          refine wp_iload_n 3 rfl rfl dL_law_1786 ?_
          refine wp_iconst (2 : Int32) (by decide) dL_law_1787 ?_
          refine wp_iadd dL_law_1788 ?_
          obtain ⟨q659, H⟩ := H
          refine wp_scr rfl q659 dL_law_1789 ?_
          refine WP.at 1790 rfl ?_
          obtain ⟨q660, H⟩ := H
          obtain ⟨q661, H⟩ := H
          refine wp_cVi (M2 := M_T_lapAt) coX10 l1 q661 [xi (hI h (1, 0) (l3 + (1 : Int32)).toNatClampNeg), xi (hI h (1, 0) (l3 + (2 : Int32)).toNatClampNeg)] rfl lv_L_187 mo_T_lapAt (Nat.le_of_ble_eq_true rfl) ⟨(Nat.le_of_ble_eq_true rfl), (Nat.le_of_ble_eq_true rfl)⟩ (Nat.le_of_ble_eq_true rfl) q660 dL_law_1790 (t_T_lapAt l1 (hI h (1, 0) (l3 + (1 : Int32)).toNatClampNeg) (hI h (1, 0) (l3 + (2 : Int32)).toNatClampNeg) _ _ H) (fun v663 h662 H => ?_)
          refine wp_aload_n 2 rfl rfl dL_law_1793 ?_
          refine wp_aload_n 0 rfl rfl dL_law_1794 ?_
          refine wp_iload_n 3 rfl rfl dL_law_1795 ?_
          refine WP.at 1796 rfl ?_
          refine wp_iconst (1 : Int32) (by decide) dL_law_1796 ?_
          refine wp_iadd dL_law_1797 ?_
          obtain ⟨q664, H⟩ := H
          refine wp_scr rfl q664 dL_law_1798 ?_
          refine wp_aload_n 0 rfl rfl dL_law_1799 ?_
          refine wp_iload_n 3 rfl rfl dL_law_1800 ?_
          refine wp_iconst (2 : Int32) (by decide) dL_law_1801 ?_
          refine wp_iadd dL_law_1802 ?_
          obtain ⟨q665, H⟩ := H
          refine wp_scr rfl q665 dL_law_1803 ?_
          refine WP.at 1804 rfl ?_
          refine WP.at 1804 rfl ?_
          obtain ⟨q666, H⟩ := H
          obtain ⟨q667, H⟩ := H
          refine wp_cVi (M2 := M_M_lapAt) coX11 l2 q667 [xi (hI h662 (1, 0) (l3 + (1 : Int32)).toNatClampNeg), xi (hI h662 (1, 0) (l3 + (2 : Int32)).toNatClampNeg)] rfl lv_L_190 mo_M_lapAt (Nat.le_of_ble_eq_true rfl) ⟨(Nat.le_of_ble_eq_true rfl), (Nat.le_of_ble_eq_true rfl)⟩ (Nat.le_of_ble_eq_true rfl) q666 dL_law_1804 (t_M_lapAt l2 (hI h662 (1, 0) (l3 + (1 : Int32)).toNatClampNeg) (hI h662 (1, 0) (l3 + (2 : Int32)).toNatClampNeg) _ _ H) (fun v669 h668 H => ?_)
          refine WP.at 1807 rfl ?_
          refine wp_icmp_eq 1994 (by decide) dL_law_1807 (fun c670 => ?_) (fun c670 => ?_)
          · replace H := H.1 c670
            refine wp_iincN (7 : Int32) (by decide) rfl (Nat.le_of_ble_eq_true rfl) dL_law_1994 (ls' := fun v671 => [(3, xi v671), (0, xr ((1, 0) : xN)), (1, xr l1), (2, xr l2)]) (fun _ => rfl) (fun v671 e672 => ?_)
            replace H := H v671 e672
            refine WP.at 1997 rfl ?_
            refine wp_goto 18 (by decide) dL_law_1997 ?_
            exact WP.pick [1, 2, 3, 0] rfl (hB18 v671 (k) _ H)
          · replace H := H.2 c670
            refine wp_iconst (0 : Int32) (by decide) dL_law_1810 ?_
            exact wp_iret (Or.inl rfl) dL_law_1811 H
        · replace H := H.2.2.2.2.2.2.2.2.2.2.2.2.2.2.2.2.2.2.2.2.2.2.2.2.2.2.2.2.2.2.2.2.2.2.2.2.2.2.2.2.2.2.1 c0
          refine wp_aload_n 1 rfl rfl dL_law_1812 ?_
          refine wp_aload_n 0 rfl rfl dL_law_1813 ?_
          refine wp_iload_n 3 rfl rfl dL_law_1814 ?_
          refine wp_iconst (1 : Int32) (by decide) dL_law_1815 ?_
          refine wp_iadd dL_law_1816 ?_
          obtain ⟨q673, H⟩ := H
          refine wp_scr rfl q673 dL_law_1817 ?_
          refine wp_aload_n 0 rfl rfl dL_law_1818 ?_
          refine WP.at 1819 rfl ?_
          refine wp_iload_n 3 rfl rfl dL_law_1819 ?_
          refine wp_iconst (2 : Int32) (by decide) dL_law_1820 ?_
          refine wp_iadd dL_law_1821 ?_
          obtain ⟨q674, H⟩ := H
          refine wp_scr rfl q674 dL_law_1822 ?_
          refine WP.at 1823 rfl ?_
          obtain ⟨q675, H⟩ := H
          obtain ⟨q676, H⟩ := H
          refine wp_cVi (M2 := M_T_pace) coX10 l1 q676 [xi (hI h (1, 0) (l3 + (1 : Int32)).toNatClampNeg), xi (hI h (1, 0) (l3 + (2 : Int32)).toNatClampNeg)] rfl lv_L_191 mo_T_pace (Nat.le_of_ble_eq_true rfl) ⟨(Nat.le_of_ble_eq_true rfl), (Nat.le_of_ble_eq_true rfl)⟩ (Nat.le_of_ble_eq_true rfl) q675 dL_law_1823 (t_T_pace l1 (hI h (1, 0) (l3 + (1 : Int32)).toNatClampNeg) (hI h (1, 0) (l3 + (2 : Int32)).toNatClampNeg) _ _ H) (fun v678 h677 H => ?_)
          refine wp_aload_n 2 rfl rfl dL_law_1826 ?_
          refine wp_aload_n 0 rfl rfl dL_law_1827 ?_
          refine wp_iload_n 3 rfl rfl dL_law_1828 ?_
          refine WP.at 1829 rfl ?_
          refine wp_iconst (1 : Int32) (by decide) dL_law_1829 ?_
          refine wp_iadd dL_law_1830 ?_
          obtain ⟨q679, H⟩ := H
          refine wp_scr rfl q679 dL_law_1831 ?_
          refine wp_aload_n 0 rfl rfl dL_law_1832 ?_
          refine wp_iload_n 3 rfl rfl dL_law_1833 ?_
          refine wp_iconst (2 : Int32) (by decide) dL_law_1834 ?_
          refine wp_iadd dL_law_1835 ?_
          obtain ⟨q680, H⟩ := H
          refine wp_scr rfl q680 dL_law_1836 ?_
          refine WP.at 1837 rfl ?_
          refine WP.at 1837 rfl ?_
          obtain ⟨q681, H⟩ := H
          obtain ⟨q682, H⟩ := H
          refine wp_cVi (M2 := M_M_pace) coX11 l2 q682 [xi (hI h677 (1, 0) (l3 + (1 : Int32)).toNatClampNeg), xi (hI h677 (1, 0) (l3 + (2 : Int32)).toNatClampNeg)] rfl lv_L_194 mo_M_pace (Nat.le_of_ble_eq_true rfl) ⟨(Nat.le_of_ble_eq_true rfl), (Nat.le_of_ble_eq_true rfl)⟩ (Nat.le_of_ble_eq_true rfl) q681 dL_law_1837 (t_M_pace l2 (hI h677 (1, 0) (l3 + (1 : Int32)).toNatClampNeg) (hI h677 (1, 0) (l3 + (2 : Int32)).toNatClampNeg) _ _ H) (fun v684 h683 H => ?_)
          refine WP.at 1840 rfl ?_
          refine wp_icmp_eq 1994 (by decide) dL_law_1840 (fun c685 => ?_) (fun c685 => ?_)
          · replace H := H.1 c685
            refine wp_iincN (7 : Int32) (by decide) rfl (Nat.le_of_ble_eq_true rfl) dL_law_1994 (ls' := fun v686 => [(3, xi v686), (0, xr ((1, 0) : xN)), (1, xr l1), (2, xr l2)]) (fun _ => rfl) (fun v686 e687 => ?_)
            replace H := H v686 e687
            refine WP.at 1997 rfl ?_
            refine wp_goto 18 (by decide) dL_law_1997 ?_
            exact WP.pick [1, 2, 3, 0] rfl (hB18 v686 (k) _ H)
          · replace H := H.2 c685
            refine wp_iconst (0 : Int32) (by decide) dL_law_1843 ?_
            exact wp_iret (Or.inl rfl) dL_law_1844 H
        · replace H := H.2.2.2.2.2.2.2.2.2.2.2.2.2.2.2.2.2.2.2.2.2.2.2.2.2.2.2.2.2.2.2.2.2.2.2.2.2.2.2.2.2.2.2.1 c0
          refine wp_aload_n 1 rfl rfl dL_law_1845 ?_
          refine wp_aload_n 0 rfl rfl dL_law_1846 ?_
          refine wp_iload_n 3 rfl rfl dL_law_1847 ?_
          refine wp_iconst (1 : Int32) (by decide) dL_law_1848 ?_
          refine wp_iadd dL_law_1849 ?_
          obtain ⟨q688, H⟩ := H
          refine wp_scr rfl q688 dL_law_1850 ?_
          refine wp_aload_n 0 rfl rfl dL_law_1851 ?_
          refine WP.at 1852 rfl ?_
          refine wp_iload_n 3 rfl rfl dL_law_1852 ?_
          refine wp_iconst (2 : Int32) (by decide) dL_law_1853 ?_
          refine wp_iadd dL_law_1854 ?_
          obtain ⟨q689, H⟩ := H
          refine wp_scr rfl q689 dL_law_1855 ?_
          refine wp_aload_n 0 rfl rfl dL_law_1856 ?_
          refine wp_iload_n 3 rfl rfl dL_law_1857 ?_
          refine wp_iconst (3 : Int32) (by decide) dL_law_1858 ?_
          refine wp_iadd dL_law_1859 ?_
          refine WP.at 1860 rfl ?_
          obtain ⟨q690, H⟩ := H
          refine wp_scr rfl q690 dL_law_1860 ?_
          refine WP.at 1861 rfl ?_
          obtain ⟨q691, H⟩ := H
          obtain ⟨q692, H⟩ := H
          refine wp_cVi (M2 := M_T_remainder) coX10 l1 q692 [xi (hI h (1, 0) (l3 + (1 : Int32)).toNatClampNeg), xi (hI h (1, 0) (l3 + (2 : Int32)).toNatClampNeg), xi (hI h (1, 0) (l3 + (3 : Int32)).toNatClampNeg)] rfl lv_L_195 mo_T_remainder (Nat.le_of_ble_eq_true rfl) ⟨(Nat.le_of_ble_eq_true rfl), (Nat.le_of_ble_eq_true rfl)⟩ (Nat.le_of_ble_eq_true rfl) q691 dL_law_1861 (t_T_remainder l1 (hI h (1, 0) (l3 + (1 : Int32)).toNatClampNeg) (hI h (1, 0) (l3 + (2 : Int32)).toNatClampNeg) (hI h (1, 0) (l3 + (3 : Int32)).toNatClampNeg) _ _ H) (fun v694 h693 H => ?_)
          refine wp_aload_n 2 rfl rfl dL_law_1864 ?_
          refine wp_aload_n 0 rfl rfl dL_law_1865 ?_
          refine wp_iload_n 3 rfl rfl dL_law_1866 ?_
          refine wp_iconst (1 : Int32) (by decide) dL_law_1867 ?_
          refine wp_iadd dL_law_1868 ?_
          obtain ⟨q695, H⟩ := H
          refine wp_scr rfl q695 dL_law_1869 ?_
          refine WP.at 1870 rfl ?_
          refine wp_aload_n 0 rfl rfl dL_law_1870 ?_
          refine wp_iload_n 3 rfl rfl dL_law_1871 ?_
          refine wp_iconst (2 : Int32) (by decide) dL_law_1872 ?_
          refine wp_iadd dL_law_1873 ?_
          obtain ⟨q696, H⟩ := H
          refine wp_scr rfl q696 dL_law_1874 ?_
          refine wp_aload_n 0 rfl rfl dL_law_1875 ?_
          refine wp_iload_n 3 rfl rfl dL_law_1876 ?_
          refine wp_iconst (3 : Int32) (by decide) dL_law_1877 ?_
          refine WP.at 1878 rfl ?_
          refine wp_iadd dL_law_1878 ?_
          obtain ⟨q697, H⟩ := H
          refine wp_scr rfl q697 dL_law_1879 ?_
          refine WP.at 1880 rfl ?_
          obtain ⟨q698, H⟩ := H
          obtain ⟨q699, H⟩ := H
          refine wp_cVi (M2 := M_M_remainder) coX11 l2 q699 [xi (hI h693 (1, 0) (l3 + (1 : Int32)).toNatClampNeg), xi (hI h693 (1, 0) (l3 + (2 : Int32)).toNatClampNeg), xi (hI h693 (1, 0) (l3 + (3 : Int32)).toNatClampNeg)] rfl lv_L_198 mo_M_remainder (Nat.le_of_ble_eq_true rfl) ⟨(Nat.le_of_ble_eq_true rfl), (Nat.le_of_ble_eq_true rfl)⟩ (Nat.le_of_ble_eq_true rfl) q698 dL_law_1880 (t_M_remainder l2 (hI h693 (1, 0) (l3 + (1 : Int32)).toNatClampNeg) (hI h693 (1, 0) (l3 + (2 : Int32)).toNatClampNeg) (hI h693 (1, 0) (l3 + (3 : Int32)).toNatClampNeg) _ _ H) (fun v701 h700 H => ?_)
          refine WP.at 1883 rfl ?_
          refine wp_icmp_eq 1994 (by decide) dL_law_1883 (fun c702 => ?_) (fun c702 => ?_)
          · replace H := H.1 c702
            refine wp_iincN (7 : Int32) (by decide) rfl (Nat.le_of_ble_eq_true rfl) dL_law_1994 (ls' := fun v703 => [(3, xi v703), (0, xr ((1, 0) : xN)), (1, xr l1), (2, xr l2)]) (fun _ => rfl) (fun v703 e704 => ?_)
            replace H := H v703 e704
            refine WP.at 1997 rfl ?_
            refine wp_goto 18 (by decide) dL_law_1997 ?_
            exact WP.pick [1, 2, 3, 0] rfl (hB18 v703 (k) _ H)
          · replace H := H.2 c702
            refine wp_iconst (0 : Int32) (by decide) dL_law_1886 ?_
            exact wp_iret (Or.inl rfl) dL_law_1887 H
        · replace H := H.2.2.2.2.2.2.2.2.2.2.2.2.2.2.2.2.2.2.2.2.2.2.2.2.2.2.2.2.2.2.2.2.2.2.2.2.2.2.2.2.2.2.2.2.1 c0
          refine wp_aload_n 1 rfl rfl dL_law_1888 ?_
          refine wp_aload_n 0 rfl rfl dL_law_1889 ?_
          refine wp_iload_n 3 rfl rfl dL_law_1890 ?_
          refine wp_iconst (1 : Int32) (by decide) dL_law_1891 ?_
          refine wp_iadd dL_law_1892 ?_
          obtain ⟨q705, H⟩ := H
          refine wp_scr rfl q705 dL_law_1893 ?_
          refine wp_aload_n 0 rfl rfl dL_law_1894 ?_
          refine WP.at 1895 rfl ?_
          refine wp_iload_n 3 rfl rfl dL_law_1895 ?_
          refine wp_iconst (2 : Int32) (by decide) dL_law_1896 ?_
          refine wp_iadd dL_law_1897 ?_
          obtain ⟨q706, H⟩ := H
          refine wp_scr rfl q706 dL_law_1898 ?_
          refine WP.at 1899 rfl ?_
          obtain ⟨q707, H⟩ := H
          obtain ⟨q708, H⟩ := H
          refine wp_cVi (M2 := M_T_ask) coX10 l1 q708 [xi (hI h (1, 0) (l3 + (1 : Int32)).toNatClampNeg), xi (hI h (1, 0) (l3 + (2 : Int32)).toNatClampNeg)] rfl lv_L_199 mo_T_ask (Nat.le_of_ble_eq_true rfl) ⟨(Nat.le_of_ble_eq_true rfl), (Nat.le_of_ble_eq_true rfl)⟩ (Nat.le_of_ble_eq_true rfl) q707 dL_law_1899 (t_T_ask l1 (hI h (1, 0) (l3 + (1 : Int32)).toNatClampNeg) (hI h (1, 0) (l3 + (2 : Int32)).toNatClampNeg) _ _ H) (fun v710 h709 H => ?_)
          refine wp_aload_n 2 rfl rfl dL_law_1902 ?_
          refine wp_aload_n 0 rfl rfl dL_law_1903 ?_
          refine wp_iload_n 3 rfl rfl dL_law_1904 ?_
          refine WP.at 1905 rfl ?_
          refine wp_iconst (1 : Int32) (by decide) dL_law_1905 ?_
          refine wp_iadd dL_law_1906 ?_
          obtain ⟨q711, H⟩ := H
          refine wp_scr rfl q711 dL_law_1907 ?_
          refine wp_aload_n 0 rfl rfl dL_law_1908 ?_
          refine wp_iload_n 3 rfl rfl dL_law_1909 ?_
          refine wp_iconst (2 : Int32) (by decide) dL_law_1910 ?_
          refine wp_iadd dL_law_1911 ?_
          obtain ⟨q712, H⟩ := H
          refine wp_scr rfl q712 dL_law_1912 ?_
          refine WP.at 1913 rfl ?_
          refine WP.at 1913 rfl ?_
          obtain ⟨q713, H⟩ := H
          obtain ⟨q714, H⟩ := H
          refine wp_cVi (M2 := M_M_ask) coX11 l2 q714 [xi (hI h709 (1, 0) (l3 + (1 : Int32)).toNatClampNeg), xi (hI h709 (1, 0) (l3 + (2 : Int32)).toNatClampNeg)] rfl lv_L_202 mo_M_ask (Nat.le_of_ble_eq_true rfl) ⟨(Nat.le_of_ble_eq_true rfl), (Nat.le_of_ble_eq_true rfl)⟩ (Nat.le_of_ble_eq_true rfl) q713 dL_law_1913 (t_M_ask l2 (hI h709 (1, 0) (l3 + (1 : Int32)).toNatClampNeg) (hI h709 (1, 0) (l3 + (2 : Int32)).toNatClampNeg) _ _ H) (fun v716 h715 H => ?_)
          refine WP.at 1916 rfl ?_
          refine wp_icmp_eq 1994 (by decide) dL_law_1916 (fun c717 => ?_) (fun c717 => ?_)
          · replace H := H.1 c717
            refine wp_iincN (7 : Int32) (by decide) rfl (Nat.le_of_ble_eq_true rfl) dL_law_1994 (ls' := fun v718 => [(3, xi v718), (0, xr ((1, 0) : xN)), (1, xr l1), (2, xr l2)]) (fun _ => rfl) (fun v718 e719 => ?_)
            replace H := H v718 e719
            refine WP.at 1997 rfl ?_
            refine wp_goto 18 (by decide) dL_law_1997 ?_
            exact WP.pick [1, 2, 3, 0] rfl (hB18 v718 (k) _ H)
          · replace H := H.2 c717
            refine wp_iconst (0 : Int32) (by decide) dL_law_1919 ?_
            exact wp_iret (Or.inl rfl) dL_law_1920 H
        · replace H := H.2.2.2.2.2.2.2.2.2.2.2.2.2.2.2.2.2.2.2.2.2.2.2.2.2.2.2.2.2.2.2.2.2.2.2.2.2.2.2.2.2.2.2.2.2.1 c0
          refine wp_aload_n 1 rfl rfl dL_law_1921 ?_
          refine wp_aload_n 0 rfl rfl dL_law_1922 ?_
          refine wp_iload_n 3 rfl rfl dL_law_1923 ?_
          refine wp_iconst (1 : Int32) (by decide) dL_law_1924 ?_
          refine wp_iadd dL_law_1925 ?_
          obtain ⟨q720, H⟩ := H
          refine wp_scr rfl q720 dL_law_1926 ?_
          refine WP.at 1927 rfl ?_
          obtain ⟨q721, H⟩ := H
          obtain ⟨q722, H⟩ := H
          refine wp_cVi (M2 := M_T_trace) coX10 l1 q722 [xi (hI h (1, 0) (l3 + (1 : Int32)).toNatClampNeg)] rfl lv_L_203 mo_T_trace (Nat.le_of_ble_eq_true rfl) ⟨(Nat.le_of_ble_eq_true rfl), (Nat.le_of_ble_eq_true rfl)⟩ (Nat.le_of_ble_eq_true rfl) q721 dL_law_1927 (t_T_trace l1 (hI h (1, 0) (l3 + (1 : Int32)).toNatClampNeg) _ _ H) (fun v724 h723 H => ?_)
          refine WP.at 1930 rfl ?_
          refine wp_aload_n 2 rfl rfl dL_law_1930 ?_
          refine wp_aload_n 0 rfl rfl dL_law_1931 ?_
          refine wp_iload_n 3 rfl rfl dL_law_1932 ?_
          refine wp_iconst (1 : Int32) (by decide) dL_law_1933 ?_
          refine wp_iadd dL_law_1934 ?_
          obtain ⟨q725, H⟩ := H
          refine wp_scr rfl q725 dL_law_1935 ?_
          refine WP.at 1936 rfl ?_
          obtain ⟨q726, H⟩ := H
          obtain ⟨q727, H⟩ := H
          refine wp_cVi (M2 := M_M_trace) coX11 l2 q727 [xi (hI h723 (1, 0) (l3 + (1 : Int32)).toNatClampNeg)] rfl lv_L_206 mo_M_trace (Nat.le_of_ble_eq_true rfl) ⟨(Nat.le_of_ble_eq_true rfl), (Nat.le_of_ble_eq_true rfl)⟩ (Nat.le_of_ble_eq_true rfl) q726 dL_law_1936 (t_M_trace l2 (hI h723 (1, 0) (l3 + (1 : Int32)).toNatClampNeg) _ _ H) (fun v729 h728 H => ?_)
          refine WP.at 1939 rfl ?_
          refine wp_icmp_eq 1994 (by decide) dL_law_1939 (fun c730 => ?_) (fun c730 => ?_)
          · replace H := H.1 c730
            refine wp_iincN (7 : Int32) (by decide) rfl (Nat.le_of_ble_eq_true rfl) dL_law_1994 (ls' := fun v731 => [(3, xi v731), (0, xr ((1, 0) : xN)), (1, xr l1), (2, xr l2)]) (fun _ => rfl) (fun v731 e732 => ?_)
            replace H := H v731 e732
            refine WP.at 1997 rfl ?_
            refine wp_goto 18 (by decide) dL_law_1997 ?_
            exact WP.pick [1, 2, 3, 0] rfl (hB18 v731 (k) _ H)
          · replace H := H.2 c730
            refine wp_iconst (0 : Int32) (by decide) dL_law_1942 ?_
            exact wp_iret (Or.inl rfl) dL_law_1943 H
        · replace H := H.2.2.2.2.2.2.2.2.2.2.2.2.2.2.2.2.2.2.2.2.2.2.2.2.2.2.2.2.2.2.2.2.2.2.2.2.2.2.2.2.2.2.2.2.2.2.1 c0
          refine wp_aload_n 1 rfl rfl dL_law_1944 ?_
          refine WP.at 1945 rfl ?_
          obtain ⟨q733, H⟩ := H
          obtain ⟨q734, H⟩ := H
          refine wp_cVi (M2 := M_T_finding) coX10 l1 q734 [] rfl lv_L_207 mo_T_finding (Nat.le_of_ble_eq_true rfl) ⟨(Nat.le_of_ble_eq_true rfl), (Nat.le_of_ble_eq_true rfl)⟩ (Nat.le_of_ble_eq_true rfl) q733 dL_law_1945 (t_T_finding l1 _ _ H) (fun v736 h735 H => ?_)
          refine wp_aload_n 2 rfl rfl dL_law_1948 ?_
          refine WP.at 1949 rfl ?_
          obtain ⟨q737, H⟩ := H
          obtain ⟨q738, H⟩ := H
          refine wp_cVi (M2 := M_M_finding) coX11 l2 q738 [] rfl lv_L_210 mo_M_finding (Nat.le_of_ble_eq_true rfl) ⟨(Nat.le_of_ble_eq_true rfl), (Nat.le_of_ble_eq_true rfl)⟩ (Nat.le_of_ble_eq_true rfl) q737 dL_law_1949 (t_M_finding l2 _ _ H) (fun v740 h739 H => ?_)
          refine WP.at 1952 rfl ?_
          refine wp_icmp_eq 1994 (by decide) dL_law_1952 (fun c741 => ?_) (fun c741 => ?_)
          · replace H := H.1 c741
            refine wp_iincN (7 : Int32) (by decide) rfl (Nat.le_of_ble_eq_true rfl) dL_law_1994 (ls' := fun v742 => [(3, xi v742), (0, xr ((1, 0) : xN)), (1, xr l1), (2, xr l2)]) (fun _ => rfl) (fun v742 e743 => ?_)
            replace H := H v742 e743
            refine WP.at 1997 rfl ?_
            refine wp_goto 18 (by decide) dL_law_1997 ?_
            exact WP.pick [1, 2, 3, 0] rfl (hB18 v742 (k) _ H)
          · replace H := H.2 c741
            refine wp_iconst (0 : Int32) (by decide) dL_law_1955 ?_
            exact wp_iret (Or.inl rfl) dL_law_1956 H
        · replace H := H.2.2.2.2.2.2.2.2.2.2.2.2.2.2.2.2.2.2.2.2.2.2.2.2.2.2.2.2.2.2.2.2.2.2.2.2.2.2.2.2.2.2.2.2.2.2.2.1 c0
          refine wp_aload_n 1 rfl rfl dL_law_1957 ?_
          refine wp_aload_n 0 rfl rfl dL_law_1958 ?_
          refine wp_iload_n 3 rfl rfl dL_law_1959 ?_
          refine wp_iconst (1 : Int32) (by decide) dL_law_1960 ?_
          refine wp_iadd dL_law_1961 ?_
          obtain ⟨q744, H⟩ := H
          refine wp_scr rfl q744 dL_law_1962 ?_
          refine WP.at 1963 rfl ?_
          obtain ⟨q745, H⟩ := H
          obtain ⟨q746, H⟩ := H
          refine wp_cVi (M2 := M_T_count) coX10 l1 q746 [xi (hI h (1, 0) (l3 + (1 : Int32)).toNatClampNeg)] rfl lv_L_211 mo_T_count (Nat.le_of_ble_eq_true rfl) ⟨(Nat.le_of_ble_eq_true rfl), (Nat.le_of_ble_eq_true rfl)⟩ (Nat.le_of_ble_eq_true rfl) q745 dL_law_1963 (t_T_count l1 (hI h (1, 0) (l3 + (1 : Int32)).toNatClampNeg) _ _ H) (fun v748 h747 H => ?_)
          refine WP.at 1966 rfl ?_
          refine wp_aload_n 2 rfl rfl dL_law_1966 ?_
          refine wp_aload_n 0 rfl rfl dL_law_1967 ?_
          refine wp_iload_n 3 rfl rfl dL_law_1968 ?_
          refine wp_iconst (1 : Int32) (by decide) dL_law_1969 ?_
          refine wp_iadd dL_law_1970 ?_
          obtain ⟨q749, H⟩ := H
          refine wp_scr rfl q749 dL_law_1971 ?_
          refine WP.at 1972 rfl ?_
          obtain ⟨q750, H⟩ := H
          obtain ⟨q751, H⟩ := H
          refine wp_cVi (M2 := M_M_count) coX11 l2 q751 [xi (hI h747 (1, 0) (l3 + (1 : Int32)).toNatClampNeg)] rfl lv_L_214 mo_M_count (Nat.le_of_ble_eq_true rfl) ⟨(Nat.le_of_ble_eq_true rfl), (Nat.le_of_ble_eq_true rfl)⟩ (Nat.le_of_ble_eq_true rfl) q750 dL_law_1972 (t_M_count l2 (hI h747 (1, 0) (l3 + (1 : Int32)).toNatClampNeg) _ _ H) (fun v753 h752 H => ?_)
          refine WP.at 1975 rfl ?_
          refine wp_icmp_eq 1994 (by decide) dL_law_1975 (fun c754 => ?_) (fun c754 => ?_)
          · replace H := H.1 c754
            refine wp_iincN (7 : Int32) (by decide) rfl (Nat.le_of_ble_eq_true rfl) dL_law_1994 (ls' := fun v755 => [(3, xi v755), (0, xr ((1, 0) : xN)), (1, xr l1), (2, xr l2)]) (fun _ => rfl) (fun v755 e756 => ?_)
            replace H := H v755 e756
            refine WP.at 1997 rfl ?_
            refine wp_goto 18 (by decide) dL_law_1997 ?_
            exact WP.pick [1, 2, 3, 0] rfl (hB18 v755 (k) _ H)
          · replace H := H.2 c754
            refine wp_iconst (0 : Int32) (by decide) dL_law_1978 ?_
            exact wp_iret (Or.inl rfl) dL_law_1979 H
        · replace H := H.2.2.2.2.2.2.2.2.2.2.2.2.2.2.2.2.2.2.2.2.2.2.2.2.2.2.2.2.2.2.2.2.2.2.2.2.2.2.2.2.2.2.2.2.2.2.2.2.1 c0
          refine wp_aload_n 1 rfl rfl dL_law_1980 ?_
          refine WP.at 1981 rfl ?_
          obtain ⟨q757, H⟩ := H
          obtain ⟨q758, H⟩ := H
          refine wp_cVl (M2 := M_T_digest) coX10 l1 q758 [] rfl lv_L_215 mo_T_digest (Nat.le_of_ble_eq_true rfl) ⟨(Nat.le_of_ble_eq_true rfl), (Nat.le_of_ble_eq_true rfl)⟩ (Nat.le_of_ble_eq_true rfl) q757 dL_law_1981 (t_T_digest l1 _ _ H) (fun v760 h759 H => ?_)
          refine wp_aload_n 2 rfl rfl dL_law_1984 ?_
          refine WP.at 1985 rfl ?_
          obtain ⟨q761, H⟩ := H
          obtain ⟨q762, H⟩ := H
          refine wp_cVl (M2 := M_M_digest) coX11 l2 q762 [] rfl lv_L_219 mo_M_digest (Nat.le_of_ble_eq_true rfl) ⟨(Nat.le_of_ble_eq_true rfl), (Nat.le_of_ble_eq_true rfl)⟩ (Nat.le_of_ble_eq_true rfl) q761 dL_law_1985 (t_M_digest l2 _ _ H) (fun v764 h763 H => ?_)
          refine wp_lcmp dL_law_1988 ?_
          refine WP.at 1989 rfl ?_
          refine wp_if_eq 1994 (by decide) dL_law_1989 (fun c765 => ?_) (fun c765 => ?_)
          · replace H := H.1 c765
            refine wp_iincN (7 : Int32) (by decide) rfl (Nat.le_of_ble_eq_true rfl) dL_law_1994 (ls' := fun v766 => [(3, xi v766), (0, xr ((1, 0) : xN)), (1, xr l1), (2, xr l2)]) (fun _ => rfl) (fun v766 e767 => ?_)
            replace H := H v766 e767
            refine WP.at 1997 rfl ?_
            refine wp_goto 18 (by decide) dL_law_1997 ?_
            exact WP.pick [1, 2, 3, 0] rfl (hB18 v766 (k) _ H)
          · replace H := H.2 c765
            refine wp_iconst (0 : Int32) (by decide) dL_law_1992 ?_
            exact wp_iret (Or.inl rfl) dL_law_1993 H
      · intro c0
        replace H := H.2.2.2.2.2.2.2.2.2.2.2.2.2.2.2.2.2.2.2.2.2.2.2.2.2.2.2.2.2.2.2.2.2.2.2.2.2.2.2.2.2.2.2.2.2.2.2.2.2 c0
        refine wp_iincN (7 : Int32) (by decide) rfl (Nat.le_of_ble_eq_true rfl) dL_law_1994 (ls' := fun v768 => [(3, xi v768), (0, xr ((1, 0) : xN)), (1, xr l1), (2, xr l2)]) (fun _ => rfl) (fun v768 e769 => ?_)
        replace H := H v768 e769
        refine WP.at 1997 rfl ?_
        refine wp_goto 18 (by decide) dL_law_1997 ?_
        exact WP.pick [1, 2, 3, 0] rfl (hB18 v768 (k) _ H)
def p_L_law (h : xH) (Q : Int32 → xH → Prop) : Prop := (hS h ((11, 0) : xN) = 0) ∧ ∀ h2 : xH, h2 = nW h ((11, 0) : xN) 0 → p_T_init ((11, 0) : xN) h2 (fun h4 : xH => (hS h4 ((12, 0) : xN) = 0) ∧ ∀ h6 : xH, h6 = nW h4 ((12, 0) : xN) 0 → p_M_init ((12, 0) : xN) h6 (fun h8 : xH => (∃ f772, p_L_law_L18 ((11, 0) : xN) ((12, 0) : xN) (fun (k770 : Nat) (h771 : xH) => Q (1 : Int32) h771) Q f772 (0 : Int32) (233) h8)))
set_option maxRecDepth 100000 in
set_option maxHeartbeats 4000000 in
theorem t_L_law (h : xH) (Q : Int32 → xH → Prop) (H : p_L_law h Q) : WP M_L_law 0 [(0, xr ((1, 0) : xN))] [] h 0 (qi Q) := by
  unfold p_L_law at H
  obtain ⟨q1, H⟩ := H
  refine wp_new coX10 ((11, 0) : xN) rfl q1 dfX10 (Nat.le_of_ble_eq_true rfl) (Nat.le_of_ble_eq_true rfl) cl_L_7.1 cl_L_7.2.1 cl_L_7.2.2 dL_law_0 ?_
  refine wp_nh (fun h2 e3 => ?_)
  replace H := H h2 e3
  refine wp_dup rfl dL_law_3 ?_
  refine WP.at 4 rfl ?_
  refine wp_cI (M2 := M_T_init) ((11, 0) : xN) (Nat.le_of_ble_eq_true rfl) [] rfl lI_L_9 ⟨rfl, rfl⟩ mo_T_init (Nat.le_of_ble_eq_true rfl) ⟨(Nat.le_of_ble_eq_true rfl), (Nat.le_of_ble_eq_true rfl)⟩ (Nat.le_of_ble_eq_true rfl) (Nat.le_of_ble_eq_true rfl) dL_law_4 (t_T_init ((11, 0) : xN) _ _ H) (fun h4 H => ?_)
  refine wp_astore_n 1 rfl (Nat.le_of_ble_eq_true rfl) dL_law_7 (ls' := [(1, xr ((11, 0) : xN)), (0, xr ((1, 0) : xN))]) rfl ?_
  obtain ⟨q5, H⟩ := H
  refine wp_new coX11 ((12, 0) : xN) rfl q5 dfX11 (Nat.le_of_ble_eq_true rfl) (Nat.le_of_ble_eq_true rfl) cl_L_10.1 cl_L_10.2.1 cl_L_10.2.2 dL_law_8 ?_
  refine wp_nh (fun h6 e7 => ?_)
  replace H := H h6 e7
  refine wp_dup rfl dL_law_11 ?_
  refine WP.at 12 rfl ?_
  refine wp_cI (M2 := M_M_init) ((12, 0) : xN) (Nat.le_of_ble_eq_true rfl) [] rfl lI_L_12 ⟨rfl, rfl⟩ mo_M_init (Nat.le_of_ble_eq_true rfl) ⟨(Nat.le_of_ble_eq_true rfl), (Nat.le_of_ble_eq_true rfl)⟩ (Nat.le_of_ble_eq_true rfl) (Nat.le_of_ble_eq_true rfl) dL_law_12 (t_M_init ((12, 0) : xN) _ _ H) (fun h8 H => ?_)
  refine WP.at 15 rfl ?_
  refine wp_astore_n 2 rfl (Nat.le_of_ble_eq_true rfl) dL_law_15 (ls' := [(2, xr ((12, 0) : xN)), (1, xr ((11, 0) : xN)), (0, xr ((1, 0) : xN))]) rfl ?_
  refine wp_iconst (0 : Int32) (by decide) dL_law_16 ?_
  refine wp_istore_n 3 rfl (Nat.le_of_ble_eq_true rfl) dL_law_17 (ls' := [(3, xi (0 : Int32)), (2, xr ((12, 0) : xN)), (1, xr ((11, 0) : xN)), (0, xr ((1, 0) : xN))]) rfl ?_
  refine WP.at 18 rfl ?_
  obtain ⟨f772, H⟩ := H
  refine WP.pick [3, 2, 1, 0] rfl (t_L_law_L18 ((11, 0) : xN) ((12, 0) : xN) _ Q ?_ f772 (0 : Int32) (233) _ H)
  · intro k770 h771 H
    refine wp_iconst (1 : Int32) (by decide) dL_law_2000 ?_
    exact wp_iret (Or.inr rfl) dL_law_2001 H
