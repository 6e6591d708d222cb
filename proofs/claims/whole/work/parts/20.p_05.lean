def p_M_isThere (l0 : xN) (l1 : Int32) (h : xH) (Q : Int32 → xH → Prop) : Prop := p_M_in l1 (0 : Int32) (48 : Int32) h (fun (v2 : Int32) (h1 : xH) => ((v2 = 0 → Q (0 : Int32) h1) ∧ (¬ v2 = 0 → (kd l0.1 = (1, 10)) ∧ (kd (hR h1 l0 6).1 = (3, 0)) ∧ (vp_in l1 (hS h1 (hR h1 l0 6) - 1)) ∧ (((hI h1 (hR h1 l0 6) l1.toNatClampNeg) = 0 → Q (0 : Int32) h1) ∧ (¬ (hI h1 (hR h1 l0 6) l1.toNatClampNeg) = 0 → Q (1 : Int32) h1)))))
set_option maxRecDepth 100000 in
set_option maxHeartbeats 4000000 in
theorem t_M_isThere (l0 : xN) (l1 : Int32) (h : xH) (Q : Int32 → xH → Prop) (H : p_M_isThere l0 l1 h Q) : WP M_M_isThere 0 [(0, xr l0), (1, xi l1)] [] h 0 (qi Q) := by
  unfold p_M_isThere at H
  refine wp_iload_n 1 rfl rfl dX11_isThere_0 ?_
  refine wp_iconst (0 : Int32) (by decide) dX11_isThere_1 ?_
  refine wp_bipush (48 : Int32) (by decide) dX11_isThere_2 ?_
  refine WP.at 4 rfl ?_
  refine wp_cSi (M2 := M_M_in) [xi l1, xi (0 : Int32), xi (48 : Int32)] rfl ls_X11_172 mo_M_in (Nat.le_of_ble_eq_true rfl) ⟨(Nat.le_of_ble_eq_true rfl), (Nat.le_of_ble_eq_true rfl)⟩ (Nat.le_of_ble_eq_true rfl) (Nat.le_of_ble_eq_true rfl) dX11_isThere_4 (t_M_in l1 (0 : Int32) (48 : Int32) _ _ H) (fun v2 h1 H => ?_)
  refine WP.at 7 rfl ?_
  refine wp_if_eq 23 (by decide) dX11_isThere_7 (fun c3 => ?_) (fun c3 => ?_)
  · replace H := H.1 c3
    refine wp_iconst (0 : Int32) (by decide) dX11_isThere_23 ?_
    exact wp_iret (Or.inl rfl) dX11_isThere_24 H
  · replace H := H.2 c3
    refine wp_aload_n 0 rfl rfl dX11_isThere_10 ?_
    obtain ⟨q4, H⟩ := H
    refine wp_getr coX11 6 (Nat.le_of_ble_eq_true rfl) fl_X11_26 rfl q4 dX11_isThere_11 ?_
    refine wp_iload_n 1 rfl rfl dX11_isThere_14 ?_
    obtain ⟨q5, H⟩ := H
    obtain ⟨q6, H⟩ := H
    refine wp_baload q5 q6 dX11_isThere_15 ?_
    refine WP.at 16 rfl ?_
    refine wp_if_eq 23 (by decide) dX11_isThere_16 (fun c7 => ?_) (fun c7 => ?_)
    · replace H := H.1 c7
      refine wp_iconst (0 : Int32) (by decide) dX11_isThere_23 ?_
      exact wp_iret (Or.inl rfl) dX11_isThere_24 H
    · replace H := H.2 c7
      refine wp_iconst (1 : Int32) (by decide) dX11_isThere_19 ?_
      refine WP.at 20 rfl ?_
      refine wp_goto 24 (by decide) dX11_isThere_20 ?_
      exact wp_iret (Or.inr rfl) dX11_isThere_24 H
def p_M_raceOf (l0 : xN) (l1 : Int32) (h : xH) (Q : Int32 → xH → Prop) : Prop := ((¬ l1 = (48 : Int32) → Q (l1 / (4 : Int32)) h) ∧ (l1 = (48 : Int32) → (kd l0.1 = (1, 10)) ∧ Q (hI h l0 10) h))
set_option maxRecDepth 100000 in
set_option maxHeartbeats 4000000 in
theorem t_M_raceOf (l0 : xN) (l1 : Int32) (h : xH) (Q : Int32 → xH → Prop) (H : p_M_raceOf l0 l1 h Q) : WP M_M_raceOf 0 [(0, xr l0), (1, xi l1)] [] h 0 (qi Q) := by
  unfold p_M_raceOf at H
  refine wp_iload_n 1 rfl rfl dX11_raceOf_0 ?_
  refine wp_bipush (48 : Int32) (by decide) dX11_raceOf_1 ?_
  refine WP.at 3 rfl ?_
  refine wp_icmp_ne 13 (by decide) dX11_raceOf_3 (fun c1 => ?_) (fun c1 => ?_)
  · replace H := H.1 c1
    refine wp_iload_n 1 rfl rfl dX11_raceOf_13 ?_
    refine wp_iconst (4 : Int32) (by decide) dX11_raceOf_14 ?_
    refine wp_idiv (by decide) dX11_raceOf_15 ?_
    exact wp_iret trivial dX11_raceOf_16 H
  · replace H := H.2 c1
    refine wp_aload_n 0 rfl rfl dX11_raceOf_6 ?_
    obtain ⟨q2, H⟩ := H
    refine wp_geti coX11 10 (Nat.le_of_ble_eq_true rfl) fl_X11_176 rfl q2 dX11_raceOf_7 ?_
    refine WP.at 10 rfl ?_
    refine wp_goto 16 (by decide) dX11_raceOf_10 ?_
    exact wp_iret trivial dX11_raceOf_16 H
def p_M_barsRow_j165 (s0 : Int32) (h : xH) (Q : Int32 → xH → Prop) : Prop := ((s0 = 0 → Q (0 : Int32) h) ∧ (¬ s0 = 0 → Q (-4 : Int32) h))
set_option maxRecDepth 100000 in
set_option maxHeartbeats 4000000 in
theorem t_M_barsRow_j165 (s0 : Int32) (h : xH) (Q : Int32 → xH → Prop) (H : p_M_barsRow_j165 s0 h Q) : WP M_M_barsRow 165 [] [xi s0] h 0 (qi Q) := by
  unfold p_M_barsRow_j165 at H
  refine wp_istore (Nat.le_of_ble_eq_true rfl) dX11_barsRow_165 (ls' := [(8, xi s0)]) rfl ?_
  refine wp_iload rfl dX11_barsRow_167 ?_
  refine WP.at 169 rfl ?_
  refine wp_if_eq 177 (by decide) dX11_barsRow_169 (fun c13 => ?_) (fun c13 => ?_)
  · replace H := H.1 c13
    refine wp_iconst (0 : Int32) (by decide) dX11_barsRow_177 ?_
    exact wp_iret trivial dX11_barsRow_178 H
  · replace H := H.2 c13
    refine wp_bipush (-4 : Int32) (by decide) dX11_barsRow_172 ?_
    refine WP.at 174 rfl ?_
    refine wp_goto 178 (by decide) dX11_barsRow_174 ?_
    exact wp_iret trivial dX11_barsRow_178 H
def p_M_barsRow_j142 (l2 : Int32) (l3 : Int32) (l4 : Int32) (l5 : Int32) (h : xH) (Q : Int32 → xH → Prop) : Prop := ((¬ l5 = (3 : Int32) → p_M_barsRow_j165 (0 : Int32) h Q) ∧ (l5 = (3 : Int32) → ((l2 = l4 → p_M_barsRow_j165 (1 : Int32) h Q) ∧ (¬ l2 = l4 → ((¬ l3 = l4 → p_M_barsRow_j165 (0 : Int32) h Q) ∧ (l3 = l4 → p_M_barsRow_j165 (1 : Int32) h Q))))))
set_option maxRecDepth 100000 in
set_option maxHeartbeats 4000000 in
theorem t_M_barsRow_j142 (l2 : Int32) (l3 : Int32) (l4 : Int32) (l5 : Int32) (h : xH) (Q : Int32 → xH → Prop) (H : p_M_barsRow_j142 l2 l3 l4 l5 h Q) : WP M_M_barsRow 142 [(2, xi l2), (3, xi l3), (4, xi l4), (5, xi l5)] [] h 0 (qi Q) := by
  unfold p_M_barsRow_j142 at H
  refine wp_iload rfl dX11_barsRow_142 ?_
  refine wp_iconst (3 : Int32) (by decide) dX11_barsRow_144 ?_
  refine WP.at 145 rfl ?_
  refine wp_icmp_ne 164 (by decide) dX11_barsRow_145 (fun c14 => ?_) (fun c14 => ?_)
  · replace H := H.1 c14
    refine wp_iconst (0 : Int32) (by decide) dX11_barsRow_164 ?_
    refine WP.at 165 rfl ?_
    exact WP.pick [] rfl (t_M_barsRow_j165 (0 : Int32) _ _ H)
  · replace H := H.2 c14
    refine wp_iload_n 2 rfl rfl dX11_barsRow_148 ?_
    refine wp_iload rfl dX11_barsRow_149 ?_
    refine WP.at 151 rfl ?_
    refine wp_icmp_eq 160 (by decide) dX11_barsRow_151 (fun c15 => ?_) (fun c15 => ?_)
    · replace H := H.1 c15
      refine wp_iconst (1 : Int32) (by decide) dX11_barsRow_160 ?_
      refine WP.at 161 rfl ?_
      refine wp_goto 165 (by decide) dX11_barsRow_161 ?_
      exact WP.pick [] rfl (t_M_barsRow_j165 (1 : Int32) _ _ H)
    · replace H := H.2 c15
      refine wp_iload_n 3 rfl rfl dX11_barsRow_154 ?_
      refine wp_iload rfl dX11_barsRow_155 ?_
      refine WP.at 157 rfl ?_
      refine wp_icmp_ne 164 (by decide) dX11_barsRow_157 (fun c16 => ?_) (fun c16 => ?_)
      · replace H := H.1 c16
        refine wp_iconst (0 : Int32) (by decide) dX11_barsRow_164 ?_
        refine WP.at 165 rfl ?_
        exact WP.pick [] rfl (t_M_barsRow_j165 (0 : Int32) _ _ H)
      · replace H := H.2 c16
        refine wp_iconst (1 : Int32) (by decide) dX11_barsRow_160 ?_
        refine WP.at 161 rfl ?_
        refine wp_goto 165 (by decide) dX11_barsRow_161 ?_
        exact WP.pick [] rfl (t_M_barsRow_j165 (1 : Int32) _ _ H)
def p_M_barsRow_j137 (l2 : Int32) (l3 : Int32) (l4 : Int32) (l5 : Int32) (h : xH) (Q : Int32 → xH → Prop) : Prop := ((l2 = l3 → p_M_barsRow_j165 (1 : Int32) h Q) ∧ (¬ l2 = l3 → p_M_barsRow_j142 l2 l3 l4 l5 h Q))
set_option maxRecDepth 100000 in
set_option maxHeartbeats 4000000 in
theorem t_M_barsRow_j137 (l2 : Int32) (l3 : Int32) (l4 : Int32) (l5 : Int32) (h : xH) (Q : Int32 → xH → Prop) (H : p_M_barsRow_j137 l2 l3 l4 l5 h Q) : WP M_M_barsRow 137 [(2, xi l2), (3, xi l3), (4, xi l4), (5, xi l5)] [] h 0 (qi Q) := by
  unfold p_M_barsRow_j137 at H
  refine wp_iload_n 2 rfl rfl dX11_barsRow_137 ?_
  refine wp_iload_n 3 rfl rfl dX11_barsRow_138 ?_
  refine WP.at 139 rfl ?_
  refine wp_icmp_eq 160 (by decide) dX11_barsRow_139 (fun c12 => ?_) (fun c12 => ?_)
  · replace H := H.1 c12
    refine wp_iconst (1 : Int32) (by decide) dX11_barsRow_160 ?_
    refine WP.at 161 rfl ?_
    refine wp_goto 165 (by decide) dX11_barsRow_161 ?_
    exact WP.pick [] rfl (t_M_barsRow_j165 (1 : Int32) _ _ H)
  · replace H := H.2 c12
    exact WP.pick [0, 1, 2, 3] rfl (t_M_barsRow_j142 l2 l3 l4 l5 _ _ H)
def p_M_barsRow_j117 (l2 : Int32) (l3 : Int32) (l4 : Int32) (l5 : Int32) (l7 : Int32) (h : xH) (Q : Int32 → xH → Prop) : Prop := ((¬ l7 = 0 → ((l5 = (2 : Int32) → p_M_barsRow_j137 l2 l3 l4 l5 h Q) ∧ (¬ l5 = (2 : Int32) → ((¬ l5 = (3 : Int32) → p_M_barsRow_j142 l2 l3 l4 l5 h Q) ∧ (l5 = (3 : Int32) → p_M_barsRow_j137 l2 l3 l4 l5 h Q))))) ∧ (l7 = 0 → Q (-3 : Int32) h))
set_option maxRecDepth 100000 in
set_option maxHeartbeats 4000000 in
theorem t_M_barsRow_j117 (l2 : Int32) (l3 : Int32) (l4 : Int32) (l5 : Int32) (l7 : Int32) (h : xH) (Q : Int32 → xH → Prop) (H : p_M_barsRow_j117 l2 l3 l4 l5 l7 h Q) : WP M_M_barsRow 117 [(2, xi l2), (3, xi l3), (4, xi l4), (5, xi l5), (7, xi l7)] [] h 0 (qi Q) := by
  unfold p_M_barsRow_j117 at H
  refine wp_iload rfl dX11_barsRow_117 ?_
  refine WP.at 119 rfl ?_
  refine wp_if_ne 125 (by decide) dX11_barsRow_119 (fun c10 => ?_) (fun c10 => ?_)
  · replace H := H.1 c10
    refine wp_iload rfl dX11_barsRow_125 ?_
    refine wp_iconst (2 : Int32) (by decide) dX11_barsRow_127 ?_
    refine WP.at 128 rfl ?_
    refine wp_icmp_eq 137 (by decide) dX11_barsRow_128 (fun c11 => ?_) (fun c11 => ?_)
    · replace H := H.1 c11
      exact WP.pick [0, 1, 2, 3] rfl (t_M_barsRow_j137 l2 l3 l4 l5 _ _ H)
    · replace H := H.2 c11
      refine wp_iload rfl dX11_barsRow_131 ?_
      refine wp_iconst (3 : Int32) (by decide) dX11_barsRow_133 ?_
      refine WP.at 134 rfl ?_
      refine wp_icmp_ne 142 (by decide) dX11_barsRow_134 (fun c17 => ?_) (fun c17 => ?_)
      · replace H := H.1 c17
        exact WP.pick [0, 1, 2, 3] rfl (t_M_barsRow_j142 l2 l3 l4 l5 _ _ H)
      · replace H := H.2 c17
        exact WP.pick [0, 1, 2, 3] rfl (t_M_barsRow_j137 l2 l3 l4 l5 _ _ H)
  · replace H := H.2 c10
    refine wp_bipush (-3 : Int32) (by decide) dX11_barsRow_122 ?_
    exact wp_iret trivial dX11_barsRow_124 H
def p_M_barsRow_j33 (l2 : Int32) (l3 : Int32) (l4 : Int32) (l5 : Int32) (l7 : Int32) (h : xH) (Q : Int32 → xH → Prop) : Prop := ((l7 = 0 → p_M_barsRow_j117 l2 l3 l4 l5 (0 : Int32) h Q) ∧ (¬ l7 = 0 → ((¬ l3 = 0 → p_M_barsRow_j117 l2 l3 l4 l5 (0 : Int32) h Q) ∧ (l3 = 0 → ((¬ l4 = 0 → p_M_barsRow_j117 l2 l3 l4 l5 (0 : Int32) h Q) ∧ (l4 = 0 → p_M_barsRow_j117 l2 l3 l4 l5 (1 : Int32) h Q))))))
set_option maxRecDepth 100000 in
set_option maxHeartbeats 4000000 in
theorem t_M_barsRow_j33 (l2 : Int32) (l3 : Int32) (l4 : Int32) (l5 : Int32) (l7 : Int32) (h : xH) (Q : Int32 → xH → Prop) (H : p_M_barsRow_j33 l2 l3 l4 l5 l7 h Q) : WP M_M_barsRow 33 [(2, xi l2), (3, xi l3), (4, xi l4), (5, xi l5), (7, xi l7)] [] h 0 (qi Q) := by
  unfold p_M_barsRow_j33 at H
  refine wp_iload rfl dX11_barsRow_33 ?_
  refine WP.at 35 rfl ?_
  refine wp_if_eq 51 (by decide) dX11_barsRow_35 (fun c9 => ?_) (fun c9 => ?_)
  · replace H := H.1 c9
    refine wp_iconst (0 : Int32) (by decide) dX11_barsRow_51 ?_
    refine wp_istore (Nat.le_of_ble_eq_true rfl) dX11_barsRow_52 (ls' := [(7, xi (0 : Int32)), (2, xi l2), (3, xi l3), (4, xi l4), (5, xi l5)]) rfl ?_
    refine WP.at 54 rfl ?_
    refine wp_goto 117 (by decide) dX11_barsRow_54 ?_
    exact WP.pick [1, 2, 3, 4, 0] rfl (t_M_barsRow_j117 l2 l3 l4 l5 (0 : Int32) _ _ H)
  · replace H := H.2 c9
    refine wp_iload_n 3 rfl rfl dX11_barsRow_38 ?_
    refine WP.at 39 rfl ?_
    refine wp_if_ne 51 (by decide) dX11_barsRow_39 (fun c18 => ?_) (fun c18 => ?_)
    · replace H := H.1 c18
      refine wp_iconst (0 : Int32) (by decide) dX11_barsRow_51 ?_
      refine wp_istore (Nat.le_of_ble_eq_true rfl) dX11_barsRow_52 (ls' := [(7, xi (0 : Int32)), (2, xi l2), (3, xi l3), (4, xi l4), (5, xi l5)]) rfl ?_
      refine WP.at 54 rfl ?_
      refine wp_goto 117 (by decide) dX11_barsRow_54 ?_
      exact WP.pick [1, 2, 3, 4, 0] rfl (t_M_barsRow_j117 l2 l3 l4 l5 (0 : Int32) _ _ H)
    · replace H := H.2 c18
      refine wp_iload rfl dX11_barsRow_42 ?_
      refine WP.at 44 rfl ?_
      refine wp_if_ne 51 (by decide) dX11_barsRow_44 (fun c19 => ?_) (fun c19 => ?_)
      · replace H := H.1 c19
        refine wp_iconst (0 : Int32) (by decide) dX11_barsRow_51 ?_
        refine wp_istore (Nat.le_of_ble_eq_true rfl) dX11_barsRow_52 (ls' := [(7, xi (0 : Int32)), (2, xi l2), (3, xi l3), (4, xi l4), (5, xi l5)]) rfl ?_
        refine WP.at 54 rfl ?_
        refine wp_goto 117 (by decide) dX11_barsRow_54 ?_
        exact WP.pick [1, 2, 3, 4, 0] rfl (t_M_barsRow_j117 l2 l3 l4 l5 (0 : Int32) _ _ H)
      · replace H := H.2 c19
        refine wp_iconst (1 : Int32) (by decide) dX11_barsRow_47 ?_
        refine WP.at 48 rfl ?_
        refine wp_goto 52 (by decide) dX11_barsRow_48 ?_
        refine wp_istore (Nat.le_of_ble_eq_true rfl) dX11_barsRow_52 (ls' := [(7, xi (1 : Int32)), (2, xi l2), (3, xi l3), (4, xi l4), (5, xi l5)]) rfl ?_
        refine WP.at 54 rfl ?_
        refine wp_goto 117 (by decide) dX11_barsRow_54 ?_
        exact WP.pick [1, 2, 3, 4, 0] rfl (t_M_barsRow_j117 l2 l3 l4 l5 (1 : Int32) _ _ H)
def p_M_barsRow_j78 (s0 : Int32) (s1 : xN) (l0 : xN) (l2 : Int32) (l3 : Int32) (l4 : Int32) (l5 : Int32) (l6 : Int32) (h : xH) (Q : Int32 → xH → Prop) : Prop := (kd s1.1 = (1, 10)) ∧ p_M_isRunner s1 s0 l3 h (fun (v25 : Int32) (h24 : xH) => ((v25 = 0 → p_M_barsRow_j117 l2 l3 l4 l5 (0 : Int32) h24 Q) ∧ (¬ v25 = 0 → ((¬ l5 = (3 : Int32) → ((¬ l4 = 0 → p_M_barsRow_j117 l2 l3 l4 l5 (0 : Int32) h24 Q) ∧ (l4 = 0 → p_M_barsRow_j117 l2 l3 l4 l5 (1 : Int32) h24 Q))) ∧ (l5 = (3 : Int32) → (kd l0.1 = (1, 10)) ∧ p_M_isRunner l0 l6 l4 h24 (fun (v31 : Int32) (h30 : xH) => ((v31 = 0 → p_M_barsRow_j117 l2 l3 l4 l5 (0 : Int32) h30 Q) ∧ (¬ v31 = 0 → p_M_barsRow_j117 l2 l3 l4 l5 (1 : Int32) h30 Q))))))))
set_option maxRecDepth 100000 in
set_option maxHeartbeats 4000000 in
theorem t_M_barsRow_j78 (s0 : Int32) (s1 : xN) (l0 : xN) (l2 : Int32) (l3 : Int32) (l4 : Int32) (l5 : Int32) (l6 : Int32) (h : xH) (Q : Int32 → xH → Prop) (H : p_M_barsRow_j78 s0 s1 l0 l2 l3 l4 l5 l6 h Q) : WP M_M_barsRow 78 [(0, xr l0), (2, xi l2), (3, xi l3), (4, xi l4), (5, xi l5), (6, xi l6)] [xi s0, xr s1] h 0 (qi Q) := by
  unfold p_M_barsRow_j78 at H
  refine wp_iload_n 3 rfl rfl dX11_barsRow_78 ?_
  refine WP.at 79 rfl ?_
  obtain ⟨q23, H⟩ := H
  refine wp_cVi (M2 := M_M_isRunner) coX11 s1 q23 [xi s0, xi l3] rfl lv_X11_194 mo_M_isRunner (Nat.le_of_ble_eq_true rfl) ⟨(Nat.le_of_ble_eq_true rfl), (Nat.le_of_ble_eq_true rfl)⟩ (Nat.le_of_ble_eq_true rfl) (Nat.le_of_ble_eq_true rfl) dX11_barsRow_79 (t_M_isRunner s1 s0 l3 _ _ H) (fun v25 h24 H => ?_)
  refine WP.at 82 rfl ?_
  refine wp_if_eq 114 (by decide) dX11_barsRow_82 (fun c26 => ?_) (fun c26 => ?_)
  · replace H := H.1 c26
    refine wp_iconst (0 : Int32) (by decide) dX11_barsRow_114 ?_
    refine wp_istore (Nat.le_of_ble_eq_true rfl) dX11_barsRow_115 (ls' := [(7, xi (0 : Int32)), (0, xr l0), (2, xi l2), (3, xi l3), (4, xi l4), (5, xi l5), (6, xi l6)]) rfl ?_
    refine WP.at 117 rfl ?_
    exact WP.pick [2, 3, 4, 5, 0] rfl (t_M_barsRow_j117 l2 l3 l4 l5 (0 : Int32) _ _ H)
  · replace H := H.2 c26
    refine wp_iload rfl dX11_barsRow_85 ?_
    refine wp_iconst (3 : Int32) (by decide) dX11_barsRow_87 ?_
    refine WP.at 88 rfl ?_
    refine wp_icmp_ne 105 (by decide) dX11_barsRow_88 (fun c27 => ?_) (fun c27 => ?_)
    · replace H := H.1 c27
      refine wp_iload rfl dX11_barsRow_105 ?_
      refine WP.at 107 rfl ?_
      refine wp_if_ne 114 (by decide) dX11_barsRow_107 (fun c28 => ?_) (fun c28 => ?_)
      · replace H := H.1 c28
        refine wp_iconst (0 : Int32) (by decide) dX11_barsRow_114 ?_
        refine wp_istore (Nat.le_of_ble_eq_true rfl) dX11_barsRow_115 (ls' := [(7, xi (0 : Int32)), (0, xr l0), (2, xi l2), (3, xi l3), (4, xi l4), (5, xi l5), (6, xi l6)]) rfl ?_
        refine WP.at 117 rfl ?_
        exact WP.pick [2, 3, 4, 5, 0] rfl (t_M_barsRow_j117 l2 l3 l4 l5 (0 : Int32) _ _ H)
      · replace H := H.2 c28
        refine wp_iconst (1 : Int32) (by decide) dX11_barsRow_110 ?_
        refine WP.at 111 rfl ?_
        refine wp_goto 115 (by decide) dX11_barsRow_111 ?_
        refine wp_istore (Nat.le_of_ble_eq_true rfl) dX11_barsRow_115 (ls' := [(7, xi (1 : Int32)), (0, xr l0), (2, xi l2), (3, xi l3), (4, xi l4), (5, xi l5), (6, xi l6)]) rfl ?_
        refine WP.at 117 rfl ?_
        exact WP.pick [2, 3, 4, 5, 0] rfl (t_M_barsRow_j117 l2 l3 l4 l5 (1 : Int32) _ _ H)
    · replace H := H.2 c27
      refine wp_aload_n 0 rfl rfl dX11_barsRow_91 ?_
      refine wp_iload rfl dX11_barsRow_92 ?_
      refine wp_iload rfl dX11_barsRow_94 ?_
      refine WP.at 96 rfl ?_
      obtain ⟨q29, H⟩ := H
      refine wp_cVi (M2 := M_M_isRunner) coX11 l0 q29 [xi l6, xi l4] rfl lv_X11_194 mo_M_isRunner (Nat.le_of_ble_eq_true rfl) ⟨(Nat.le_of_ble_eq_true rfl), (Nat.le_of_ble_eq_true rfl)⟩ (Nat.le_of_ble_eq_true rfl) (Nat.le_of_ble_eq_true rfl) dX11_barsRow_96 (t_M_isRunner l0 l6 l4 _ _ H) (fun v31 h30 H => ?_)
      refine WP.at 99 rfl ?_
      refine wp_if_eq 114 (by decide) dX11_barsRow_99 (fun c32 => ?_) (fun c32 => ?_)
      · replace H := H.1 c32
        refine wp_iconst (0 : Int32) (by decide) dX11_barsRow_114 ?_
        refine wp_istore (Nat.le_of_ble_eq_true rfl) dX11_barsRow_115 (ls' := [(7, xi (0 : Int32)), (0, xr l0), (2, xi l2), (3, xi l3), (4, xi l4), (5, xi l5), (6, xi l6)]) rfl ?_
        refine WP.at 117 rfl ?_
        exact WP.pick [2, 3, 4, 5, 0] rfl (t_M_barsRow_j117 l2 l3 l4 l5 (0 : Int32) _ _ H)
      · replace H := H.2 c32
        refine WP.at 102 rfl ?_
        refine wp_goto 110 (by decide) dX11_barsRow_102 ?_
        refine wp_iconst (1 : Int32) (by decide) dX11_barsRow_110 ?_
        refine WP.at 111 rfl ?_
        refine wp_goto 115 (by decide) dX11_barsRow_111 ?_
        refine wp_istore (Nat.le_of_ble_eq_true rfl) dX11_barsRow_115 (ls' := [(7, xi (1 : Int32)), (0, xr l0), (2, xi l2), (3, xi l3), (4, xi l4), (5, xi l5), (6, xi l6)]) rfl ?_
        refine WP.at 117 rfl ?_
        exact WP.pick [2, 3, 4, 5, 0] rfl (t_M_barsRow_j117 l2 l3 l4 l5 (1 : Int32) _ _ H)
def p_M_barsRow (l0 : xN) (l1 : Int32) (l2 : Int32) (l3 : Int32) (l4 : Int32) (h : xH) (Q : Int32 → xH → Prop) : Prop := p_M_kindOf l1 h (fun (v2 : Int32) (h1 : xH) => (kd l0.1 = (1, 10)) ∧ p_M_raceOf l0 l1 h1 (fun (v5 : Int32) (h4 : xH) => p_M_isRunner l0 v5 l2 h4 (fun (v7 : Int32) (h6 : xH) => ((v2 = 0 → p_M_barsRow_j33 l2 l3 l4 v2 v7 h6 Q) ∧ (¬ v2 = 0 → ((¬ v2 = (1 : Int32) → ((v7 = 0 → p_M_barsRow_j117 l2 l3 l4 v2 (0 : Int32) h6 Q) ∧ (¬ v7 = 0 → ((¬ v2 = (4 : Int32) → p_M_barsRow_j78 v5 l0 l0 l2 l3 l4 v2 v5 h6 Q) ∧ (v2 = (4 : Int32) → p_M_barsRow_j78 (hI h6 l0 11) l0 l0 l2 l3 l4 v2 v5 h6 Q))))) ∧ (v2 = (1 : Int32) → p_M_barsRow_j33 l2 l3 l4 v2 v7 h6 Q)))))))
set_option maxRecDepth 100000 in
set_option maxHeartbeats 4000000 in
theorem t_M_barsRow (l0 : xN) (l1 : Int32) (l2 : Int32) (l3 : Int32) (l4 : Int32) (h : xH) (Q : Int32 → xH → Prop) (H : p_M_barsRow l0 l1 l2 l3 l4 h Q) : WP M_M_barsRow 0 [(0, xr l0), (1, xi l1), (2, xi l2), (3, xi l3), (4, xi l4)] [] h 0 (qi Q) := by
  unfold p_M_barsRow at H
  refine wp_iload_n 1 rfl rfl dX11_barsRow_0 ?_
  refine WP.at 1 rfl ?_
  refine wp_cSi (M2 := M_M_kindOf) [xi l1] rfl ls_X11_218 mo_M_kindOf (Nat.le_of_ble_eq_true rfl) ⟨(Nat.le_of_ble_eq_true rfl), (Nat.le_of_ble_eq_true rfl)⟩ (Nat.le_of_ble_eq_true rfl) (Nat.le_of_ble_eq_true rfl) dX11_barsRow_1 (t_M_kindOf l1 _ _ H) (fun v2 h1 H => ?_)
  refine wp_istore (Nat.le_of_ble_eq_true rfl) dX11_barsRow_4 (ls' := [(5, xi v2), (0, xr l0), (1, xi l1), (2, xi l2), (3, xi l3), (4, xi l4)]) rfl ?_
  refine wp_aload_n 0 rfl rfl dX11_barsRow_6 ?_
  refine wp_iload_n 1 rfl rfl dX11_barsRow_7 ?_
  refine WP.at 8 rfl ?_
  obtain ⟨q3, H⟩ := H
  refine wp_cVi (M2 := M_M_raceOf) coX11 l0 q3 [xi l1] rfl lv_X11_278 mo_M_raceOf (Nat.le_of_ble_eq_true rfl) ⟨(Nat.le_of_ble_eq_true rfl), (Nat.le_of_ble_eq_true rfl)⟩ (Nat.le_of_ble_eq_true rfl) (Nat.le_of_ble_eq_true rfl) dX11_barsRow_8 (t_M_raceOf l0 l1 _ _ H) (fun v5 h4 H => ?_)
  refine wp_istore (Nat.le_of_ble_eq_true rfl) dX11_barsRow_11 (ls' := [(6, xi v5), (5, xi v2), (0, xr l0), (1, xi l1), (2, xi l2), (3, xi l3), (4, xi l4)]) rfl ?_
  refine WP.at 13 rfl ?_
  refine wp_aload_n 0 rfl rfl dX11_barsRow_13 ?_
  refine wp_iload rfl dX11_barsRow_14 ?_
  refine wp_iload_n 2 rfl rfl dX11_barsRow_16 ?_
  refine WP.at 17 rfl ?_
  refine wp_cVi (M2 := M_M_isRunner) coX11 l0 q3 [xi v5, xi l2] rfl lv_X11_194 mo_M_isRunner (Nat.le_of_ble_eq_true rfl) ⟨(Nat.le_of_ble_eq_true rfl), (Nat.le_of_ble_eq_true rfl)⟩ (Nat.le_of_ble_eq_true rfl) (Nat.le_of_ble_eq_true rfl) dX11_barsRow_17 (t_M_isRunner l0 v5 l2 _ _ H) (fun v7 h6 H => ?_)
  refine wp_istore (Nat.le_of_ble_eq_true rfl) dX11_barsRow_20 (ls' := [(7, xi v7), (6, xi v5), (5, xi v2), (0, xr l0), (1, xi l1), (2, xi l2), (3, xi l3), (4, xi l4)]) rfl ?_
  refine wp_iload rfl dX11_barsRow_22 ?_
  refine WP.at 24 rfl ?_
  refine wp_if_eq 33 (by decide) dX11_barsRow_24 (fun c8 => ?_) (fun c8 => ?_)
  · replace H := H.1 c8
    exact WP.pick [5, 6, 7, 2, 0] rfl (t_M_barsRow_j33 l2 l3 l4 v2 v7 _ _ H)
  · replace H := H.2 c8
    refine wp_iload rfl dX11_barsRow_27 ?_
    refine wp_iconst (1 : Int32) (by decide) dX11_barsRow_29 ?_
    refine WP.at 30 rfl ?_
    refine wp_icmp_ne 57 (by decide) dX11_barsRow_30 (fun c20 => ?_) (fun c20 => ?_)
    · replace H := H.1 c20
      refine wp_iload rfl dX11_barsRow_57 ?_
      refine WP.at 59 rfl ?_
      refine wp_if_eq 114 (by decide) dX11_barsRow_59 (fun c21 => ?_) (fun c21 => ?_)
      · replace H := H.1 c21
        refine wp_iconst (0 : Int32) (by decide) dX11_barsRow_114 ?_
        refine wp_istore (Nat.le_of_ble_eq_true rfl) dX11_barsRow_115 (ls' := [(7, xi (0 : Int32)), (6, xi v5), (5, xi v2), (0, xr l0), (1, xi l1), (2, xi l2), (3, xi l3), (4, xi l4)]) rfl ?_
        refine WP.at 117 rfl ?_
        exact WP.pick [5, 6, 7, 2, 0] rfl (t_M_barsRow_j117 l2 l3 l4 v2 (0 : Int32) _ _ H)
      · replace H := H.2 c21
        refine wp_aload_n 0 rfl rfl dX11_barsRow_62 ?_
        refine wp_iload rfl dX11_barsRow_63 ?_
        refine wp_iconst (4 : Int32) (by decide) dX11_barsRow_65 ?_
        refine WP.at 66 rfl ?_
        refine wp_icmp_ne 76 (by decide) dX11_barsRow_66 (fun c22 => ?_) (fun c22 => ?_)
        · replace H := H.1 c22
          refine wp_iload rfl dX11_barsRow_76 ?_
          refine WP.at 78 rfl ?_
          exact WP.pick [3, 5, 6, 7, 2, 1] rfl (t_M_barsRow_j78 v5 l0 l0 l2 l3 l4 v2 v5 _ _ H)
        · replace H := H.2 c22
          refine wp_aload_n 0 rfl rfl dX11_barsRow_69 ?_
          refine wp_geti coX11 11 (Nat.le_of_ble_eq_true rfl) fl_X11_191 rfl q3 dX11_barsRow_70 ?_
          refine WP.at 73 rfl ?_
          refine wp_goto 78 (by decide) dX11_barsRow_73 ?_
          exact WP.pick [3, 5, 6, 7, 2, 1] rfl (t_M_barsRow_j78 (hI h6 l0 11) l0 l0 l2 l3 l4 v2 v5 _ _ H)
    · replace H := H.2 c20
      exact WP.pick [5, 6, 7, 2, 0] rfl (t_M_barsRow_j33 l2 l3 l4 v2 v7 _ _ H)
def p_M_isGone (l0 : xN) (l1 : Int32) (l2 : Int32) (h : xH) (Q : Int32 → xH → Prop) : Prop := ((l2 ≤ 0 → Q (0 : Int32) h) ∧ (¬ l2 ≤ 0 → (kd l0.1 = (1, 10)) ∧ (kd (hR h l0 4).1 = (3, 0)) ∧ (vp_in (((13 : Int32) * l1) + l2) (hS h (hR h l0 4) - 1)) ∧ (((hI h (hR h l0 4) (((13 : Int32) * l1) + l2).toNatClampNeg) = 0 → Q (0 : Int32) h) ∧ (¬ (hI h (hR h l0 4) (((13 : Int32) * l1) + l2).toNatClampNeg) = 0 → Q (1 : Int32) h))))
set_option maxRecDepth 100000 in
set_option maxHeartbeats 4000000 in
theorem t_M_isGone (l0 : xN) (l1 : Int32) (l2 : Int32) (h : xH) (Q : Int32 → xH → Prop) (H : p_M_isGone l0 l1 l2 h Q) : WP M_M_isGone 0 [(0, xr l0), (1, xi l1), (2, xi l2)] [] h 0 (qi Q) := by
  unfold p_M_isGone at H
  refine wp_iload_n 2 rfl rfl dX11_isGone_0 ?_
  refine WP.at 1 rfl ?_
  refine wp_if_le 22 (by decide) dX11_isGone_1 (fun c1 => ?_) (fun c1 => ?_)
  · replace H := H.1 c1
    refine wp_iconst (0 : Int32) (by decide) dX11_isGone_22 ?_
    exact wp_iret (Or.inl rfl) dX11_isGone_23 H
  · replace H := H.2 c1
    refine wp_aload_n 0 rfl rfl dX11_isGone_4 ?_
    obtain ⟨q2, H⟩ := H
    refine wp_getr coX11 4 (Nat.le_of_ble_eq_true rfl) fl_X11_19 rfl q2 dX11_isGone_5 ?_
    refine wp_bipush (13 : Int32) (by decide) dX11_isGone_8 ?_
    refine wp_iload_n 1 rfl rfl dX11_isGone_10 ?_
    refine wp_imul dX11_isGone_11 ?_
    refine wp_iload_n 2 rfl rfl dX11_isGone_12 ?_
    refine wp_iadd dX11_isGone_13 ?_
    refine WP.at 14 rfl ?_
    obtain ⟨q3, H⟩ := H
    obtain ⟨q4, H⟩ := H
    refine wp_baload q3 q4 dX11_isGone_14 ?_
    refine WP.at 15 rfl ?_
    refine wp_if_eq 22 (by decide) dX11_isGone_15 (fun c5 => ?_) (fun c5 => ?_)
    · replace H := H.1 c5
      refine wp_iconst (0 : Int32) (by decide) dX11_isGone_22 ?_
      exact wp_iret (Or.inl rfl) dX11_isGone_23 H
    · replace H := H.2 c5
      refine wp_iconst (1 : Int32) (by decide) dX11_isGone_18 ?_
      refine WP.at 19 rfl ?_
      refine wp_goto 23 (by decide) dX11_isGone_19 ?_
      exact wp_iret (Or.inr rfl) dX11_isGone_23 H
def p_M_sell_j229 (s0 : Int32) (s1 : Int32) (s2 : xN) (l0 : xN) (l1 : Int32) (l2 : Int32) (l5 : Int32) (l6 : Int32) (l11 : Int32) (h : xH) (Q : Int32 → xH → Prop) : Prop := (kd s2.1 = (2, 0)) ∧ (vp_in s1 (hS h s2 - 1)) ∧ ∀ h53 : xH, h53 = sI h s2 s1.toNatClampNeg s0 → (kd l0.1 = (1, 10)) ∧ (kd (hR h53 l0 27).1 = (2, 0)) ∧ (vp_in l11 (hS h53 (hR h53 l0 27) - 1)) ∧ ∀ h58 : xH, h58 = sI h53 (hR h53 l0 27) l11.toNatClampNeg l5 → (kd (hR h58 l0 28).1 = (2, 0)) ∧ (vp_in l11 (hS h58 (hR h58 l0 28) - 1)) ∧ ∀ h62 : xH, h62 = sI h58 (hR h58 l0 28) l11.toNatClampNeg l6 → (kd (hR h62 l0 29).1 = (2, 0)) ∧ (vp_in l11 (hS h62 (hR h62 l0 29) - 1)) ∧ ∀ h66 : xH, h66 = sI h62 (hR h62 l0 29) l11.toNatClampNeg (0 : Int32) → (kd (hR h66 l0 30).1 = (2, 0)) ∧ (vp_in l11 (hS h66 (hR h66 l0 30) - 1)) ∧ ∀ h70 : xH, h70 = sI h66 (hR h66 l0 30) l11.toNatClampNeg l1 → ∀ h72 : xH, h72 = sI h70 l0 23 ((hI h70 l0 23) + (1 : Int32)) → (kd (hR h72 l0 12).1 = (2, 0)) ∧ (vp_in l2 (hS h72 (hR h72 l0 12) - 1)) ∧ p_M_stake l0 l11 h72 (fun (v77 : Int32) (h76 : xH) => (vp_in l2 (hS h76 (hR h72 l0 12) - 1)) ∧ ∀ h79 : xH, h79 = sI h76 (hR h72 l0 12) l2.toNatClampNeg ((hI h72 (hR h72 l0 12) l2.toNatClampNeg) + v77) → Q l11 h79)
set_option maxRecDepth 100000 in
set_option maxHeartbeats 4000000 in
theorem t_M_sell_j229 (s0 : Int32) (s1 : Int32) (s2 : xN) (l0 : xN) (l1 : Int32) (l2 : Int32) (l5 : Int32) (l6 : Int32) (l11 : Int32) (h : xH) (Q : Int32 → xH → Prop) (H : p_M_sell_j229 s0 s1 s2 l0 l1 l2 l5 l6 l11 h Q) : WP M_M_sell 229 [(0, xr l0), (1, xi l1), (2, xi l2), (5, xi l5), (6, xi l6), (11, xi l11)] [xi s0, xi s1, xr s2] h 0 (qi Q) := by
  unfold p_M_sell_j229 at H
  obtain ⟨q51, H⟩ := H
  obtain ⟨q52, H⟩ := H
  refine wp_iastore q51 q52 dX11_sell_229 ?_
  refine wp_nh (fun h53 e54 => ?_)
  replace H := H h53 e54
  refine wp_aload_n 0 rfl rfl dX11_sell_230 ?_
  obtain ⟨q55, H⟩ := H
  refine wp_getr coX11 27 (Nat.le_of_ble_eq_true rfl) fl_X11_77 rfl q55 dX11_sell_231 ?_
  refine wp_iload rfl dX11_sell_234 ?_
  refine wp_iload rfl dX11_sell_236 ?_
  obtain ⟨q56, H⟩ := H
  obtain ⟨q57, H⟩ := H
  refine wp_iastore q56 q57 dX11_sell_238 ?_
  refine wp_nh (fun h58 e59 => ?_)
  replace H := H h58 e59
  refine wp_aload_n 0 rfl rfl dX11_sell_239 ?_
  refine WP.at 240 rfl ?_
  refine wp_getr coX11 28 (Nat.le_of_ble_eq_true rfl) fl_X11_80 rfl q55 dX11_sell_240 ?_
  refine wp_iload rfl dX11_sell_243 ?_
  refine wp_iload rfl dX11_sell_245 ?_
  obtain ⟨q60, H⟩ := H
  obtain ⟨q61, H⟩ := H
  refine wp_iastore q60 q61 dX11_sell_247 ?_
  refine wp_nh (fun h62 e63 => ?_)
  replace H := H h62 e63
  refine wp_aload_n 0 rfl rfl dX11_sell_248 ?_
  refine wp_getr coX11 29 (Nat.le_of_ble_eq_true rfl) fl_X11_83 rfl q55 dX11_sell_249 ?_
  refine wp_iload rfl dX11_sell_252 ?_
  refine wp_iconst (0 : Int32) (by decide) dX11_sell_254 ?_
  refine WP.at 255 rfl ?_
  obtain ⟨q64, H⟩ := H
  obtain ⟨q65, H⟩ := H
  refine wp_iastore q64 q65 dX11_sell_255 ?_
  refine wp_nh (fun h66 e67 => ?_)
  replace H := H h66 e67
  refine wp_aload_n 0 rfl rfl dX11_sell_256 ?_
  refine wp_getr coX11 30 (Nat.le_of_ble_eq_true rfl) fl_X11_86 rfl q55 dX11_sell_257 ?_
  refine wp_iload rfl dX11_sell_260 ?_
  refine wp_iload_n 1 rfl rfl dX11_sell_262 ?_
  obtain ⟨q68, H⟩ := H
  obtain ⟨q69, H⟩ := H
  refine wp_iastore q68 q69 dX11_sell_263 ?_
  refine wp_nh (fun h70 e71 => ?_)
  replace H := H h70 e71
  refine wp_aload_n 0 rfl rfl dX11_sell_264 ?_
  refine wp_dup rfl dX11_sell_265 ?_
  refine WP.at 266 rfl ?_
  refine wp_geti coX11 23 (Nat.le_of_ble_eq_true rfl) fl_X11_205 rfl q55 dX11_sell_266 ?_
  refine wp_iconst (1 : Int32) (by decide) dX11_sell_269 ?_
  refine wp_iadd dX11_sell_270 ?_
  refine wp_puti coX11 23 (Nat.le_of_ble_eq_true rfl) fl_X11_205 rfl rfl ⟨rfl, rfl⟩ q55 dX11_sell_271 ?_
  refine wp_nh (fun h72 e73 => ?_)
  replace H := H h72 e73
  refine wp_aload_n 0 rfl rfl dX11_sell_274 ?_
  refine wp_getr coX11 12 (Nat.le_of_ble_eq_true rfl) fl_X11_38 rfl q55 dX11_sell_275 ?_
  refine wp_iload_n 2 rfl rfl dX11_sell_278 ?_
  refine wp_dup2 rfl rfl dX11_sell_279 ?_
  refine WP.at 280 rfl ?_
  obtain ⟨q74, H⟩ := H
  obtain ⟨q75, H⟩ := H
  refine wp_iaload q74 q75 dX11_sell_280 ?_
  refine wp_aload_n 0 rfl rfl dX11_sell_281 ?_
  refine wp_iload rfl dX11_sell_282 ?_
  refine WP.at 284 rfl ?_
  refine wp_cVi (M2 := M_M_stake) coX11 l0 q55 [xi l11] rfl lv_X11_201 mo_M_stake (Nat.le_of_ble_eq_true rfl) ⟨(Nat.le_of_ble_eq_true rfl), (Nat.le_of_ble_eq_true rfl)⟩ (Nat.le_of_ble_eq_true rfl) (Nat.le_of_ble_eq_true rfl) dX11_sell_284 (t_M_stake l0 l11 _ _ H) (fun v77 h76 H => ?_)
  refine wp_iadd dX11_sell_287 ?_
  obtain ⟨q78, H⟩ := H
  refine wp_iastore q74 q78 dX11_sell_288 ?_
  refine wp_nh (fun h79 e80 => ?_)
  replace H := H h79 e80
  refine wp_iload rfl dX11_sell_289 ?_
  exact wp_iret trivial dX11_sell_291 H
def p_M_sell_j211 (s0 : Int32) (s1 : Int32) (s2 : xN) (l0 : xN) (l1 : Int32) (l2 : Int32) (l3 : Int32) (l4 : Int32) (l5 : Int32) (l6 : Int32) (l10 : Int32) (l11 : Int32) (h : xH) (Q : Int32 → xH → Prop) : Prop := (kd s2.1 = (2, 0)) ∧ (vp_in s1 (hS h s2 - 1)) ∧ ∀ h47 : xH, h47 = sI h s2 s1.toNatClampNeg s0 → (kd l0.1 = (1, 10)) ∧ ((l10 = 0 → p_M_sell_j229 l4 l11 (hR h47 l0 26) l0 l1 l2 l5 l6 l11 h47 Q) ∧ (¬ l10 = 0 → p_M_sell_j229 l3 l11 (hR h47 l0 26) l0 l1 l2 l5 l6 l11 h47 Q))
set_option maxRecDepth 100000 in
set_option maxHeartbeats 4000000 in
theorem t_M_sell_j211 (s0 : Int32) (s1 : Int32) (s2 : xN) (l0 : xN) (l1 : Int32) (l2 : Int32) (l3 : Int32) (l4 : Int32) (l5 : Int32) (l6 : Int32) (l10 : Int32) (l11 : Int32) (h : xH) (Q : Int32 → xH → Prop) (H : p_M_sell_j211 s0 s1 s2 l0 l1 l2 l3 l4 l5 l6 l10 l11 h Q) : WP M_M_sell 211 [(0, xr l0), (1, xi l1), (2, xi l2), (3, xi l3), (4, xi l4), (5, xi l5), (6, xi l6), (10, xi l10), (11, xi l11)] [xi s0, xi s1, xr s2] h 0 (qi Q) := by
  unfold p_M_sell_j211 at H
  obtain ⟨q45, H⟩ := H
  obtain ⟨q46, H⟩ := H
  refine wp_iastore q45 q46 dX11_sell_211 ?_
  refine wp_nh (fun h47 e48 => ?_)
  replace H := H h47 e48
  refine wp_aload_n 0 rfl rfl dX11_sell_212 ?_
  obtain ⟨q49, H⟩ := H
  refine wp_getr coX11 26 (Nat.le_of_ble_eq_true rfl) fl_X11_74 rfl q49 dX11_sell_213 ?_
  refine wp_iload rfl dX11_sell_216 ?_
  refine wp_iload rfl dX11_sell_218 ?_
  refine WP.at 220 rfl ?_
  refine wp_if_eq 227 (by decide) dX11_sell_220 (fun c50 => ?_) (fun c50 => ?_)
  · replace H := H.1 c50
    refine wp_iload rfl dX11_sell_227 ?_
    refine WP.at 229 rfl ?_
    exact WP.pick [0, 1, 2, 5, 6, 8] rfl (t_M_sell_j229 l4 l11 (hR h47 l0 26) l0 l1 l2 l5 l6 l11 _ _ H)
  · replace H := H.2 c50
    refine wp_iload_n 3 rfl rfl dX11_sell_223 ?_
    refine WP.at 224 rfl ?_
    refine wp_goto 229 (by decide) dX11_sell_224 ?_
    exact WP.pick [0, 1, 2, 5, 6, 8] rfl (t_M_sell_j229 l3 l11 (hR h47 l0 26) l0 l1 l2 l5 l6 l11 _ _ H)
def p_M_sell_j178 (s0 : Int32) (l0 : xN) (l1 : Int32) (l2 : Int32) (l3 : Int32) (l4 : Int32) (l5 : Int32) (l6 : Int32) (h : xH) (Q : Int32 → xH → Prop) : Prop := (kd l0.1 = (1, 10)) ∧ ∀ v38 : Int32, v38 = hI h l0 23 → (kd (hR h l0 24).1 = (2, 0)) ∧ (vp_in v38 (hS h (hR h l0 24) - 1)) ∧ ∀ h42 : xH, h42 = sI h (hR h l0 24) v38.toNatClampNeg l2 → ((s0 = 0 → p_M_sell_j211 l3 v38 (hR h42 l0 25) l0 l1 l2 l3 l4 l5 l6 s0 v38 h42 Q) ∧ (¬ s0 = 0 → p_M_sell_j211 l4 v38 (hR h42 l0 25) l0 l1 l2 l3 l4 l5 l6 s0 v38 h42 Q))
set_option maxRecDepth 100000 in
set_option maxHeartbeats 4000000 in
theorem t_M_sell_j178 (s0 : Int32) (l0 : xN) (l1 : Int32) (l2 : Int32) (l3 : Int32) (l4 : Int32) (l5 : Int32) (l6 : Int32) (h : xH) (Q : Int32 → xH → Prop) (H : p_M_sell_j178 s0 l0 l1 l2 l3 l4 l5 l6 h Q) : WP M_M_sell 178 [(0, xr l0), (1, xi l1), (2, xi l2), (3, xi l3), (4, xi l4), (5, xi l5), (6, xi l6)] [xi s0] h 0 (qi Q) := by
  unfold p_M_sell_j178 at H
  refine wp_istore (Nat.le_of_ble_eq_true rfl) dX11_sell_178 (ls' := [(10, xi s0), (0, xr l0), (1, xi l1), (2, xi l2), (3, xi l3), (4, xi l4), (5, xi l5), (6, xi l6)]) rfl ?_
  refine wp_aload_n 0 rfl rfl dX11_sell_180 ?_
  obtain ⟨q37, H⟩ := H
  refine wp_geti coX11 23 (Nat.le_of_ble_eq_true rfl) fl_X11_205 rfl q37 dX11_sell_181 ?_
  refine wp_nm (fun v38 e39 => ?_)
  replace H := H v38 e39
  refine wp_istore (Nat.le_of_ble_eq_true rfl) dX11_sell_184 (ls' := [(11, xi v38), (10, xi s0), (0, xr l0), (1, xi l1), (2, xi l2), (3, xi l3), (4, xi l4), (5, xi l5), (6, xi l6)]) rfl ?_
  refine wp_aload_n 0 rfl rfl dX11_sell_186 ?_
  refine wp_getr coX11 24 (Nat.le_of_ble_eq_true rfl) fl_X11_68 rfl q37 dX11_sell_187 ?_
  refine wp_iload rfl dX11_sell_190 ?_
  refine WP.at 192 rfl ?_
  refine wp_iload_n 2 rfl rfl dX11_sell_192 ?_
  obtain ⟨q40, H⟩ := H
  obtain ⟨q41, H⟩ := H
  refine wp_iastore q40 q41 dX11_sell_193 ?_
  refine wp_nh (fun h42 e43 => ?_)
  replace H := H h42 e43
  refine wp_aload_n 0 rfl rfl dX11_sell_194 ?_
  refine wp_getr coX11 25 (Nat.le_of_ble_eq_true rfl) fl_X11_71 rfl q37 dX11_sell_195 ?_
  refine wp_iload rfl dX11_sell_198 ?_
  refine wp_iload rfl dX11_sell_200 ?_
  refine WP.at 202 rfl ?_
  refine wp_if_eq 210 (by decide) dX11_sell_202 (fun c44 => ?_) (fun c44 => ?_)
  · replace H := H.1 c44
    refine wp_iload_n 3 rfl rfl dX11_sell_210 ?_
    refine WP.at 211 rfl ?_
    exact WP.pick [2, 3, 4, 5, 6, 7, 8, 1, 0] rfl (t_M_sell_j211 l3 v38 (hR h42 l0 25) l0 l1 l2 l3 l4 l5 l6 s0 v38 _ _ H)
  · replace H := H.2 c44
    refine wp_iload rfl dX11_sell_205 ?_
    refine WP.at 207 rfl ?_
    refine wp_goto 211 (by decide) dX11_sell_207 ?_
    exact WP.pick [2, 3, 4, 5, 6, 7, 8, 1, 0] rfl (t_M_sell_j211 l4 v38 (hR h42 l0 25) l0 l1 l2 l3 l4 l5 l6 s0 v38 _ _ H)
def p_M_sell_j86 (s0 : Int32) (l0 : xN) (l1 : Int32) (l2 : Int32) (l3 : Int32) (l4 : Int32) (l5 : Int32) (l6 : Int32) (l8 : Int32) (h : xH) (Q : Int32 → xH → Prop) : Prop := (kd l0.1 = (1, 10)) ∧ p_M_isGone l0 l8 l3 h (fun (v20 : Int32) (h19 : xH) => ((¬ v20 = 0 → Q (-5 : Int32) h19) ∧ (v20 = 0 → p_M_isGone l0 s0 l4 h19 (fun (v23 : Int32) (h22 : xH) => ((¬ v23 = 0 → Q (-5 : Int32) h22) ∧ (v23 = 0 → p_M_isGone l0 l8 l5 h22 (fun (v26 : Int32) (h25 : xH) => ((v26 = 0 → (kd (hR h25 l0 1).1 = (2, 0)) ∧ (vp_in l8 (hS h25 (hR h25 l0 1) - 1)) ∧ ((¬ (hI h25 (hR h25 l0 1) l8.toNatClampNeg) = 0 → Q (-6 : Int32) h25) ∧ ((hI h25 (hR h25 l0 1) l8.toNatClampNeg) = 0 → (vp_in s0 (hS h25 (hR h25 l0 1) - 1)) ∧ (((hI h25 (hR h25 l0 1) s0.toNatClampNeg) = 0 → ((¬ (hI h25 l0 23) = (200 : Int32) → p_M_kindOf l2 h25 (fun (v35 : Int32) (h34 : xH) => ((¬ v35 = (2 : Int32) → p_M_sell_j178 (0 : Int32) l0 l1 l2 l3 l4 l5 l6 h34 Q) ∧ (v35 = (2 : Int32) → ((l3 ≤ l4 → p_M_sell_j178 (0 : Int32) l0 l1 l2 l3 l4 l5 l6 h34 Q) ∧ (¬ l3 ≤ l4 → p_M_sell_j178 (1 : Int32) l0 l1 l2 l3 l4 l5 l6 h34 Q)))))) ∧ ((hI h25 l0 23) = (200 : Int32) → Q (-7 : Int32) h25))) ∧ (¬ (hI h25 (hR h25 l0 1) s0.toNatClampNeg) = 0 → Q (-6 : Int32) h25))))) ∧ (¬ v26 = 0 → Q (-5 : Int32) h25)))))))))
set_option maxRecDepth 100000 in
set_option maxHeartbeats 4000000 in
theorem t_M_sell_j86 (s0 : Int32) (l0 : xN) (l1 : Int32) (l2 : Int32) (l3 : Int32) (l4 : Int32) (l5 : Int32) (l6 : Int32) (l8 : Int32) (h : xH) (Q : Int32 → xH → Prop) (H : p_M_sell_j86 s0 l0 l1 l2 l3 l4 l5 l6 l8 h Q) : WP M_M_sell 86 [(0, xr l0), (1, xi l1), (2, xi l2), (3, xi l3), (4, xi l4), (5, xi l5), (6, xi l6), (8, xi l8)] [xi s0] h 0 (qi Q) := by
  unfold p_M_sell_j86 at H
  refine wp_istore (Nat.le_of_ble_eq_true rfl) dX11_sell_86 (ls' := [(9, xi s0), (0, xr l0), (1, xi l1), (2, xi l2), (3, xi l3), (4, xi l4), (5, xi l5), (6, xi l6), (8, xi l8)]) rfl ?_
  refine wp_aload_n 0 rfl rfl dX11_sell_88 ?_
  refine wp_iload rfl dX11_sell_89 ?_
  refine wp_iload_n 3 rfl rfl dX11_sell_91 ?_
  refine WP.at 92 rfl ?_
  obtain ⟨q18, H⟩ := H
  refine wp_cVi (M2 := M_M_isGone) coX11 l0 q18 [xi l8, xi l3] rfl lv_X11_288 mo_M_isGone (Nat.le_of_ble_eq_true rfl) ⟨(Nat.le_of_ble_eq_true rfl), (Nat.le_of_ble_eq_true rfl)⟩ (Nat.le_of_ble_eq_true rfl) (Nat.le_of_ble_eq_true rfl) dX11_sell_92 (t_M_isGone l0 l8 l3 _ _ H) (fun v20 h19 H => ?_)
  refine WP.at 95 rfl ?_
  refine wp_if_ne 120 (by decide) dX11_sell_95 (fun c21 => ?_) (fun c21 => ?_)
  · replace H := H.1 c21
    refine wp_bipush (-5 : Int32) (by decide) dX11_sell_120 ?_
    exact wp_iret trivial dX11_sell_122 H
  · replace H := H.2 c21
    refine wp_aload_n 0 rfl rfl dX11_sell_98 ?_
    refine wp_iload rfl dX11_sell_99 ?_
    refine wp_iload rfl dX11_sell_101 ?_
    refine WP.at 103 rfl ?_
    refine wp_cVi (M2 := M_M_isGone) coX11 l0 q18 [xi s0, xi l4] rfl lv_X11_288 mo_M_isGone (Nat.le_of_ble_eq_true rfl) ⟨(Nat.le_of_ble_eq_true rfl), (Nat.le_of_ble_eq_true rfl)⟩ (Nat.le_of_ble_eq_true rfl) (Nat.le_of_ble_eq_true rfl) dX11_sell_103 (t_M_isGone l0 s0 l4 _ _ H) (fun v23 h22 H => ?_)
    refine WP.at 106 rfl ?_
    refine wp_if_ne 120 (by decide) dX11_sell_106 (fun c24 => ?_) (fun c24 => ?_)
    · replace H := H.1 c24
      refine wp_bipush (-5 : Int32) (by decide) dX11_sell_120 ?_
      exact wp_iret trivial dX11_sell_122 H
    · replace H := H.2 c24
      refine wp_aload_n 0 rfl rfl dX11_sell_109 ?_
      refine wp_iload rfl dX11_sell_110 ?_
      refine wp_iload rfl dX11_sell_112 ?_
      refine WP.at 114 rfl ?_
      refine wp_cVi (M2 := M_M_isGone) coX11 l0 q18 [xi l8, xi l5] rfl lv_X11_288 mo_M_isGone (Nat.le_of_ble_eq_true rfl) ⟨(Nat.le_of_ble_eq_true rfl), (Nat.le_of_ble_eq_true rfl)⟩ (Nat.le_of_ble_eq_true rfl) (Nat.le_of_ble_eq_true rfl) dX11_sell_114 (t_M_isGone l0 l8 l5 _ _ H) (fun v26 h25 H => ?_)
      refine WP.at 117 rfl ?_
      refine wp_if_eq 123 (by decide) dX11_sell_117 (fun c27 => ?_) (fun c27 => ?_)
      · replace H := H.1 c27
        refine wp_aload_n 0 rfl rfl dX11_sell_123 ?_
        refine wp_getr coX11 1 (Nat.le_of_ble_eq_true rfl) fl_X11_7 rfl q18 dX11_sell_124 ?_
        refine wp_iload rfl dX11_sell_127 ?_
        obtain ⟨q28, H⟩ := H
        obtain ⟨q29, H⟩ := H
        refine wp_iaload q28 q29 dX11_sell_129 ?_
        refine WP.at 130 rfl ?_
        refine wp_if_ne 143 (by decide) dX11_sell_130 (fun c30 => ?_) (fun c30 => ?_)
        · replace H := H.1 c30
          refine wp_bipush (-6 : Int32) (by decide) dX11_sell_143 ?_
          exact wp_iret trivial dX11_sell_145 H
        · replace H := H.2 c30
          refine wp_aload_n 0 rfl rfl dX11_sell_133 ?_
          refine wp_getr coX11 1 (Nat.le_of_ble_eq_true rfl) fl_X11_7 rfl q18 dX11_sell_134 ?_
          refine wp_iload rfl dX11_sell_137 ?_
          obtain ⟨q31, H⟩ := H
          refine wp_iaload q28 q31 dX11_sell_139 ?_
          refine WP.at 140 rfl ?_
          refine wp_if_eq 146 (by decide) dX11_sell_140 (fun c32 => ?_) (fun c32 => ?_)
          · replace H := H.1 c32
            refine wp_aload_n 0 rfl rfl dX11_sell_146 ?_
            refine wp_geti coX11 23 (Nat.le_of_ble_eq_true rfl) fl_X11_205 rfl q18 dX11_sell_147 ?_
            refine wp_sipush (200 : Int32) (by decide) dX11_sell_150 ?_
            refine WP.at 153 rfl ?_
            refine wp_icmp_ne 159 (by decide) dX11_sell_153 (fun c33 => ?_) (fun c33 => ?_)
            · replace H := H.1 c33
              refine wp_iload_n 2 rfl rfl dX11_sell_159 ?_
              refine WP.at 160 rfl ?_
              refine wp_cSi (M2 := M_M_kindOf) [xi l2] rfl ls_X11_218 mo_M_kindOf (Nat.le_of_ble_eq_true rfl) ⟨(Nat.le_of_ble_eq_true rfl), (Nat.le_of_ble_eq_true rfl)⟩ (Nat.le_of_ble_eq_true rfl) (Nat.le_of_ble_eq_true rfl) dX11_sell_160 (t_M_kindOf l2 _ _ H) (fun v35 h34 H => ?_)
              refine wp_iconst (2 : Int32) (by decide) dX11_sell_163 ?_
              refine WP.at 164 rfl ?_
              refine wp_icmp_ne 177 (by decide) dX11_sell_164 (fun c36 => ?_) (fun c36 => ?_)
              · replace H := H.1 c36
                refine wp_iconst (0 : Int32) (by decide) dX11_sell_177 ?_
                refine WP.at 178 rfl ?_
                exact WP.pick [1, 2, 3, 4, 5, 6, 7] rfl (t_M_sell_j178 (0 : Int32) l0 l1 l2 l3 l4 l5 l6 _ _ H)
              · replace H := H.2 c36
                refine wp_iload rfl dX11_sell_167 ?_
                refine wp_iload_n 3 rfl rfl dX11_sell_169 ?_
                refine WP.at 170 rfl ?_
                refine wp_icmp_ge 177 (by decide) dX11_sell_170 (fun c81 => ?_) (fun c81 => ?_)
                · replace H := H.1 c81
                  refine wp_iconst (0 : Int32) (by decide) dX11_sell_177 ?_
                  refine WP.at 178 rfl ?_
                  exact WP.pick [1, 2, 3, 4, 5, 6, 7] rfl (t_M_sell_j178 (0 : Int32) l0 l1 l2 l3 l4 l5 l6 _ _ H)
                · replace H := H.2 c81
                  refine wp_iconst (1 : Int32) (by decide) dX11_sell_173 ?_
                  refine WP.at 174 rfl ?_
                  refine wp_goto 178 (by decide) dX11_sell_174 ?_
                  exact WP.pick [1, 2, 3, 4, 5, 6, 7] rfl (t_M_sell_j178 (1 : Int32) l0 l1 l2 l3 l4 l5 l6 _ _ H)
            · replace H := H.2 c33
              refine wp_bipush (-7 : Int32) (by decide) dX11_sell_156 ?_
              exact wp_iret trivial dX11_sell_158 H
          · replace H := H.2 c32
            refine wp_bipush (-6 : Int32) (by decide) dX11_sell_143 ?_
            exact wp_iret trivial dX11_sell_145 H
      · replace H := H.2 c27
        refine wp_bipush (-5 : Int32) (by decide) dX11_sell_120 ?_
        exact wp_iret trivial dX11_sell_122 H
def p_M_sell (l0 : xN) (l1 : Int32) (l2 : Int32) (l3 : Int32) (l4 : Int32) (l5 : Int32) (l6 : Int32) (h : xH) (Q : Int32 → xH → Prop) : Prop := p_M_in l1 (0 : Int32) (5 : Int32) h (fun (v2 : Int32) (h1 : xH) => ((v2 = 0 → Q (-2 : Int32) h1) ∧ (¬ v2 = 0 → (kd l0.1 = (1, 10)) ∧ p_M_isThere l0 l2 h1 (fun (v6 : Int32) (h5 : xH) => ((¬ v6 = 0 → p_M_barsRow l0 l2 l3 l4 l5 h5 (fun (v9 : Int32) (h8 : xH) => p_M_in l6 (1 : Int32) (1000 : Int32) h8 (fun (v11 : Int32) (h10 : xH) => ((v11 = 0 → Q (-3 : Int32) h10) ∧ (¬ v11 = 0 → ((¬ v9 = (-3 : Int32) → ((¬ v9 = (-4 : Int32) → p_M_raceOf l0 l2 h10 (fun (v16 : Int32) (h15 : xH) => ((¬ l2 = (48 : Int32) → p_M_sell_j86 v16 l0 l1 l2 l3 l4 l5 l6 v16 h15 Q) ∧ (l2 = (48 : Int32) → p_M_sell_j86 (hI h15 l0 11) l0 l1 l2 l3 l4 l5 l6 v16 h15 Q)))) ∧ (v9 = (-4 : Int32) → Q (-4 : Int32) h10))) ∧ (v9 = (-3 : Int32) → Q (-3 : Int32) h10))))))) ∧ (v6 = 0 → Q (-2 : Int32) h5))))))
set_option maxRecDepth 100000 in
set_option maxHeartbeats 4000000 in
theorem t_M_sell (l0 : xN) (l1 : Int32) (l2 : Int32) (l3 : Int32) (l4 : Int32) (l5 : Int32) (l6 : Int32) (h : xH) (Q : Int32 → xH → Prop) (H : p_M_sell l0 l1 l2 l3 l4 l5 l6 h Q) : WP M_M_sell 0 [(0, xr l0), (1, xi l1), (2, xi l2), (3, xi l3), (4, xi l4), (5, xi l5), (6, xi l6)] [] h 0 (qi Q) := by
  unfold p_M_sell at H
  refine wp_iload_n 1 rfl rfl dX11_sell_0 ?_
  refine wp_iconst (0 : Int32) (by decide) dX11_sell_1 ?_
  refine wp_iconst (5 : Int32) (by decide) dX11_sell_2 ?_
  refine WP.at 3 rfl ?_
  refine wp_cSi (M2 := M_M_in) [xi l1, xi (0 : Int32), xi (5 : Int32)] rfl ls_X11_172 mo_M_in (Nat.le_of_ble_eq_true rfl) ⟨(Nat.le_of_ble_eq_true rfl), (Nat.le_of_ble_eq_true rfl)⟩ (Nat.le_of_ble_eq_true rfl) (Nat.le_of_ble_eq_true rfl) dX11_sell_3 (t_M_in l1 (0 : Int32) (5 : Int32) _ _ H) (fun v2 h1 H => ?_)
  refine WP.at 6 rfl ?_
  refine wp_if_eq 17 (by decide) dX11_sell_6 (fun c3 => ?_) (fun c3 => ?_)
  · replace H := H.1 c3
    refine wp_bipush (-2 : Int32) (by decide) dX11_sell_17 ?_
    exact wp_iret trivial dX11_sell_19 H
  · replace H := H.2 c3
    refine wp_aload_n 0 rfl rfl dX11_sell_9 ?_
    refine wp_iload_n 2 rfl rfl dX11_sell_10 ?_
    refine WP.at 11 rfl ?_
    obtain ⟨q4, H⟩ := H
    refine wp_cVi (M2 := M_M_isThere) coX11 l0 q4 [xi l2] rfl lv_X11_281 mo_M_isThere (Nat.le_of_ble_eq_true rfl) ⟨(Nat.le_of_ble_eq_true rfl), (Nat.le_of_ble_eq_true rfl)⟩ (Nat.le_of_ble_eq_true rfl) (Nat.le_of_ble_eq_true rfl) dX11_sell_11 (t_M_isThere l0 l2 _ _ H) (fun v6 h5 H => ?_)
    refine WP.at 14 rfl ?_
    refine wp_if_ne 20 (by decide) dX11_sell_14 (fun c7 => ?_) (fun c7 => ?_)
    · replace H := H.1 c7
      refine wp_aload_n 0 rfl rfl dX11_sell_20 ?_
      refine wp_iload_n 2 rfl rfl dX11_sell_21 ?_
      refine wp_iload_n 3 rfl rfl dX11_sell_22 ?_
      refine wp_iload rfl dX11_sell_23 ?_
      refine wp_iload rfl dX11_sell_25 ?_
      refine WP.at 27 rfl ?_
      refine wp_cVi (M2 := M_M_barsRow) coX11 l0 q4 [xi l2, xi l3, xi l4, xi l5] rfl lv_X11_284 mo_M_barsRow (Nat.le_of_ble_eq_true rfl) ⟨(Nat.le_of_ble_eq_true rfl), (Nat.le_of_ble_eq_true rfl)⟩ (Nat.le_of_ble_eq_true rfl) (Nat.le_of_ble_eq_true rfl) dX11_sell_27 (t_M_barsRow l0 l2 l3 l4 l5 _ _ H) (fun v9 h8 H => ?_)
      refine wp_istore (Nat.le_of_ble_eq_true rfl) dX11_sell_30 (ls' := [(7, xi v9), (0, xr l0), (1, xi l1), (2, xi l2), (3, xi l3), (4, xi l4), (5, xi l5), (6, xi l6)]) rfl ?_
      refine WP.at 32 rfl ?_
      refine wp_iload rfl dX11_sell_32 ?_
      refine wp_iconst (1 : Int32) (by decide) dX11_sell_34 ?_
      refine wp_sipush (1000 : Int32) (by decide) dX11_sell_35 ?_
      refine WP.at 38 rfl ?_
      refine wp_cSi (M2 := M_M_in) [xi l6, xi (1 : Int32), xi (1000 : Int32)] rfl ls_X11_172 mo_M_in (Nat.le_of_ble_eq_true rfl) ⟨(Nat.le_of_ble_eq_true rfl), (Nat.le_of_ble_eq_true rfl)⟩ (Nat.le_of_ble_eq_true rfl) (Nat.le_of_ble_eq_true rfl) dX11_sell_38 (t_M_in l6 (1 : Int32) (1000 : Int32) _ _ H) (fun v11 h10 H => ?_)
      refine WP.at 41 rfl ?_
      refine wp_if_eq 51 (by decide) dX11_sell_41 (fun c12 => ?_) (fun c12 => ?_)
      · replace H := H.1 c12
        refine wp_bipush (-3 : Int32) (by decide) dX11_sell_51 ?_
        exact wp_iret trivial dX11_sell_53 H
      · replace H := H.2 c12
        refine wp_iload rfl dX11_sell_44 ?_
        refine wp_bipush (-3 : Int32) (by decide) dX11_sell_46 ?_
        refine WP.at 48 rfl ?_
        refine wp_icmp_ne 54 (by decide) dX11_sell_48 (fun c13 => ?_) (fun c13 => ?_)
        · replace H := H.1 c13
          refine wp_iload rfl dX11_sell_54 ?_
          refine wp_bipush (-4 : Int32) (by decide) dX11_sell_56 ?_
          refine WP.at 58 rfl ?_
          refine wp_icmp_ne 64 (by decide) dX11_sell_58 (fun c14 => ?_) (fun c14 => ?_)
          · replace H := H.1 c14
            refine wp_aload_n 0 rfl rfl dX11_sell_64 ?_
            refine wp_iload_n 2 rfl rfl dX11_sell_65 ?_
            refine WP.at 66 rfl ?_
            refine wp_cVi (M2 := M_M_raceOf) coX11 l0 q4 [xi l2] rfl lv_X11_278 mo_M_raceOf (Nat.le_of_ble_eq_true rfl) ⟨(Nat.le_of_ble_eq_true rfl), (Nat.le_of_ble_eq_true rfl)⟩ (Nat.le_of_ble_eq_true rfl) (Nat.le_of_ble_eq_true rfl) dX11_sell_66 (t_M_raceOf l0 l2 _ _ H) (fun v16 h15 H => ?_)
            refine wp_istore (Nat.le_of_ble_eq_true rfl) dX11_sell_69 (ls' := [(8, xi v16), (7, xi v9), (0, xr l0), (1, xi l1), (2, xi l2), (3, xi l3), (4, xi l4), (5, xi l5), (6, xi l6)]) rfl ?_
            refine wp_iload_n 2 rfl rfl dX11_sell_71 ?_
            refine wp_bipush (48 : Int32) (by decide) dX11_sell_72 ?_
            refine WP.at 74 rfl ?_
            refine wp_icmp_ne 84 (by decide) dX11_sell_74 (fun c17 => ?_) (fun c17 => ?_)
            · replace H := H.1 c17
              refine wp_iload rfl dX11_sell_84 ?_
              refine WP.at 86 rfl ?_
              exact WP.pick [2, 3, 4, 5, 6, 7, 8, 0] rfl (t_M_sell_j86 v16 l0 l1 l2 l3 l4 l5 l6 v16 _ _ H)
            · replace H := H.2 c17
              refine wp_aload_n 0 rfl rfl dX11_sell_77 ?_
              refine wp_geti coX11 11 (Nat.le_of_ble_eq_true rfl) fl_X11_191 rfl q4 dX11_sell_78 ?_
              refine WP.at 81 rfl ?_
              refine wp_goto 86 (by decide) dX11_sell_81 ?_
              exact WP.pick [2, 3, 4, 5, 6, 7, 8, 0] rfl (t_M_sell_j86 (hI h15 l0 11) l0 l1 l2 l3 l4 l5 l6 v16 _ _ H)
          · replace H := H.2 c14
            refine wp_bipush (-4 : Int32) (by decide) dX11_sell_61 ?_
            exact wp_iret trivial dX11_sell_63 H
        · replace H := H.2 c13
          refine wp_bipush (-3 : Int32) (by decide) dX11_sell_51 ?_
          exact wp_iret trivial dX11_sell_53 H
    · replace H := H.2 c7
      refine wp_bipush (-2 : Int32) (by decide) dX11_sell_17 ?_
      exact wp_iret trivial dX11_sell_19 H
def p_T_findTicket (l0 : xN) (l1 : Int32) (h : xH) (Q : xN → xH → Prop) : Prop := ((l1 < 0 → Q ((0, 0) : xN) h) ∧ (¬ l1 < 0 → (kd l0.1 = (1, 9)) ∧ ((l1 < (hI h l0 11) → (kd (hR h l0 2).1 = (5, 8)) ∧ (vp_in l1 (hS h (hR h l0 2) - 1)) ∧ Q (hR h (hR h l0 2) l1.toNatClampNeg) h) ∧ (¬ l1 < (hI h l0 11) → Q ((0, 0) : xN) h))))
set_option maxRecDepth 100000 in
set_option maxHeartbeats 4000000 in
theorem t_T_findTicket (l0 : xN) (l1 : Int32) (h : xH) (Q : xN → xH → Prop) (H : p_T_findTicket l0 l1 h Q) : WP M_T_findTicket 0 [(0, xr l0), (1, xi l1)] [] h 0 (qr Q) := by
  unfold p_T_findTicket at H
  refine wp_iload_n 1 rfl rfl dX10_findTicket_0 ?_
  refine WP.at 1 rfl ?_
  refine wp_if_lt 12 (by decide) dX10_findTicket_1 (fun c1 => ?_) (fun c1 => ?_)
  · replace H := H.1 c1
    refine wp_null dX10_findTicket_12 ?_
    refine WP.at 13 rfl ?_
    refine wp_goto 22 (by decide) dX10_findTicket_13 ?_
    exact wp_aret trivial dX10_findTicket_22 H
  · replace H := H.2 c1
    refine wp_iload_n 1 rfl rfl dX10_findTicket_4 ?_
    refine wp_aload_n 0 rfl rfl dX10_findTicket_5 ?_
    obtain ⟨q2, H⟩ := H
    refine wp_geti coX10 11 (Nat.le_of_ble_eq_true rfl) fl_X10_104 rfl q2 dX10_findTicket_6 ?_
    refine WP.at 9 rfl ?_
    refine wp_icmp_lt 16 (by decide) dX10_findTicket_9 (fun c3 => ?_) (fun c3 => ?_)
    · replace H := H.1 c3
      refine wp_aload_n 0 rfl rfl dX10_findTicket_16 ?_
      refine wp_getr coX10 2 (Nat.le_of_ble_eq_true rfl) fl_X10_23 rfl q2 dX10_findTicket_17 ?_
      refine wp_iload_n 1 rfl rfl dX10_findTicket_20 ?_
      obtain ⟨q4, H⟩ := H
      obtain ⟨q5, H⟩ := H
      refine wp_aaload q4 q5 dX10_findTicket_21 ?_
      exact wp_aret trivial dX10_findTicket_22 H
    · replace H := H.2 c3
      refine wp_null dX10_findTicket_12 ?_
      refine WP.at 13 rfl ?_
      refine wp_goto 22 (by decide) dX10_findTicket_13 ?_
      exact wp_aret trivial dX10_findTicket_22 H
def p_T_cancel (l0 : xN) (l1 : Int32) (h : xH) (Q : Int32 → xH → Prop) : Prop := (kd l0.1 = (1, 9)) ∧ p_T_findTicket l0 l1 h (fun (v3 : xN) (h2 : xH) => ((¬ v3.1 = 0 → (kd v3.1 = (1, 8)) ∧ ((¬ (hI h2 v3 6) = 0 → Q (-6 : Int32) h2) ∧ ((hI h2 v3 6) = 0 → (kd (hR h2 v3 0).1 = (1, 3)) ∧ (kd (hR h2 (hR h2 v3 0) 2).1 = (1, 4)) ∧ (((hI h2 (hR h2 (hR h2 v3 0) 2) 7) = 0 → p_Ti_stake v3 h2 (fun (v11 : Int32) (h10 : xH) => p_Ti_end v3 (1 : Int32) (1 : Int32) v11 h10 (fun h12 : xH => p_Ti_stake v3 h12 (fun (v14 : Int32) (h13 : xH) => Q v14 h13)))) ∧ (¬ (hI h2 (hR h2 (hR h2 v3 0) 2) 7) = 0 → Q (-6 : Int32) h2))))) ∧ (v3.1 = 0 → Q (-2 : Int32) h2)))
set_option maxRecDepth 100000 in
set_option maxHeartbeats 4000000 in
theorem t_T_cancel (l0 : xN) (l1 : Int32) (h : xH) (Q : Int32 → xH → Prop) (H : p_T_cancel l0 l1 h Q) : WP M_T_cancel 0 [(0, xr l0), (1, xi l1)] [] h 0 (qi Q) := by
  unfold p_T_cancel at H
  refine wp_aload_n 0 rfl rfl dX10_cancel_0 ?_
  refine wp_iload_n 1 rfl rfl dX10_cancel_1 ?_
  refine WP.at 2 rfl ?_
  obtain ⟨q1, H⟩ := H
  refine wp_cVr (M2 := M_T_findTicket) coX10 l0 q1 [xi l1] rfl lv_X10_187 mo_T_findTicket (Nat.le_of_ble_eq_true rfl) ⟨(Nat.le_of_ble_eq_true rfl), (Nat.le_of_ble_eq_true rfl)⟩ (Nat.le_of_ble_eq_true rfl) (Nat.le_of_ble_eq_true rfl) dX10_cancel_2 (t_T_findTicket l0 l1 _ _ H) (fun v3 h2 H => ?_)
  refine wp_astore_n 2 rfl (Nat.le_of_ble_eq_true rfl) dX10_cancel_5 (ls' := [(2, xr v3), (0, xr l0), (1, xi l1)]) rfl ?_
  refine wp_aload_n 2 rfl rfl dX10_cancel_6 ?_
  refine WP.at 7 rfl ?_
  refine wp_ifnonnull 13 (by decide) dX10_cancel_7 (fun c4 => ?_) (fun c4 => ?_)
  · replace H := H.1 c4
    refine wp_aload_n 2 rfl rfl dX10_cancel_13 ?_
    obtain ⟨q5, H⟩ := H
    refine wp_geti coX9 6 (Nat.le_of_ble_eq_true rfl) fl_X10_107 rfl q5 dX10_cancel_14 ?_
    refine WP.at 17 rfl ?_
    refine wp_if_ne 33 (by decide) dX10_cancel_17 (fun c6 => ?_) (fun c6 => ?_)
    · replace H := H.1 c6
      refine wp_bipush (-6 : Int32) (by decide) dX10_cancel_33 ?_
      exact wp_iret trivial dX10_cancel_35 H
    · replace H := H.2 c6
      refine wp_aload_n 2 rfl rfl dX10_cancel_20 ?_
      refine wp_getr coX9 0 (Nat.le_of_ble_eq_true rfl) fl_X10_191 rfl q5 dX10_cancel_21 ?_
      obtain ⟨q7, H⟩ := H
      refine wp_getr coX4 2 (Nat.le_of_ble_eq_true rfl) fl_X10_173 rfl q7 dX10_cancel_24 ?_
      obtain ⟨q8, H⟩ := H
      refine wp_geti coX5 7 (Nat.le_of_ble_eq_true rfl) fl_X10_88 rfl q8 dX10_cancel_27 ?_
      refine WP.at 30 rfl ?_
      refine wp_if_eq 36 (by decide) dX10_cancel_30 (fun c9 => ?_) (fun c9 => ?_)
      · replace H := H.1 c9
        refine wp_aload_n 2 rfl rfl dX10_cancel_36 ?_
        refine wp_iconst (1 : Int32) (by decide) dX10_cancel_37 ?_
        refine wp_iconst (1 : Int32) (by decide) dX10_cancel_38 ?_
        refine wp_aload_n 2 rfl rfl dX10_cancel_39 ?_
        refine WP.at 40 rfl ?_
        refine wp_cVi (M2 := M_Ti_stake) coX9 v3 q5 [] rfl lv_X10_195 mo_Ti_stake (Nat.le_of_ble_eq_true rfl) ⟨(Nat.le_of_ble_eq_true rfl), (Nat.le_of_ble_eq_true rfl)⟩ (Nat.le_of_ble_eq_true rfl) (Nat.le_of_ble_eq_true rfl) dX10_cancel_40 (t_Ti_stake v3 _ _ H) (fun v11 h10 H => ?_)
        refine WP.at 43 rfl ?_
        refine wp_cVv (M2 := M_Ti_end) coX9 v3 q5 [xi (1 : Int32), xi (1 : Int32), xi v11] rfl lv_X10_199 mo_Ti_end (Nat.le_of_ble_eq_true rfl) ⟨(Nat.le_of_ble_eq_true rfl), (Nat.le_of_ble_eq_true rfl)⟩ (Nat.le_of_ble_eq_true rfl) (Nat.le_of_ble_eq_true rfl) dX10_cancel_43 (t_Ti_end v3 (1 : Int32) (1 : Int32) v11 _ _ H) (fun h12 H => ?_)
        refine wp_aload_n 2 rfl rfl dX10_cancel_46 ?_
        refine WP.at 47 rfl ?_
        refine WP.at 47 rfl ?_
        refine wp_cVi (M2 := M_Ti_stake) coX9 v3 q5 [] rfl lv_X10_195 mo_Ti_stake (Nat.le_of_ble_eq_true rfl) ⟨(Nat.le_of_ble_eq_true rfl), (Nat.le_of_ble_eq_true rfl)⟩ (Nat.le_of_ble_eq_true rfl) (Nat.le_of_ble_eq_true rfl) dX10_cancel_47 (t_Ti_stake v3 _ _ H) (fun v14 h13 H => ?_)
        exact wp_iret trivial dX10_cancel_50 H
      · replace H := H.2 c9
        refine wp_bipush (-6 : Int32) (by decide) dX10_cancel_33 ?_
        exact wp_iret trivial dX10_cancel_35 H
  · replace H := H.2 c4
    refine wp_bipush (-2 : Int32) (by decide) dX10_cancel_10 ?_
    exact wp_iret trivial dX10_cancel_12 H
def p_M_isTicket (l0 : xN) (l1 : Int32) (h : xH) (Q : Int32 → xH → Prop) : Prop := (kd l0.1 = (1, 10)) ∧ p_M_in l1 (0 : Int32) ((hI h l0 23) - (1 : Int32)) h (fun (v3 : Int32) (h2 : xH) => (v3 = 0 ∨ v3 = 1) ∧ Q v3 h2)
set_option maxRecDepth 100000 in
set_option maxHeartbeats 4000000 in
theorem t_M_isTicket (l0 : xN) (l1 : Int32) (h : xH) (Q : Int32 → xH → Prop) (H : p_M_isTicket l0 l1 h Q) : WP M_M_isTicket 0 [(0, xr l0), (1, xi l1)] [] h 0 (qi Q) := by
  unfold p_M_isTicket at H
  refine wp_iload_n 1 rfl rfl dX11_isTicket_0 ?_
  refine wp_iconst (0 : Int32) (by decide) dX11_isTicket_1 ?_
  refine wp_aload_n 0 rfl rfl dX11_isTicket_2 ?_
  obtain ⟨q1, H⟩ := H
  refine wp_geti coX11 23 (Nat.le_of_ble_eq_true rfl) fl_X11_205 rfl q1 dX11_isTicket_3 ?_
  refine wp_iconst (1 : Int32) (by decide) dX11_isTicket_6 ?_
  refine wp_isub dX11_isTicket_7 ?_
  refine WP.at 8 rfl ?_
  refine wp_cSi (M2 := M_M_in) [xi l1, xi (0 : Int32), xi ((hI h l0 23) - (1 : Int32))] rfl ls_X11_172 mo_M_in (Nat.le_of_ble_eq_true rfl) ⟨(Nat.le_of_ble_eq_true rfl), (Nat.le_of_ble_eq_true rfl)⟩ (Nat.le_of_ble_eq_true rfl) (Nat.le_of_ble_eq_true rfl) dX11_isTicket_8 (t_M_in l1 (0 : Int32) ((hI h l0 23) - (1 : Int32)) _ _ H) (fun v3 h2 H => ?_)
  refine WP.at 11 rfl ?_
  obtain ⟨q4, H⟩ := H
  exact wp_iret q4 dX11_isTicket_11 H
def p_M_cancel (l0 : xN) (l1 : Int32) (h : xH) (Q : Int32 → xH → Prop) : Prop := (kd l0.1 = (1, 10)) ∧ p_M_isTicket l0 l1 h (fun (v3 : Int32) (h2 : xH) => ((¬ v3 = 0 → (kd (hR h2 l0 29).1 = (2, 0)) ∧ (vp_in l1 (hS h2 (hR h2 l0 29) - 1)) ∧ ((¬ (hI h2 (hR h2 l0 29) l1.toNatClampNeg) = 0 → Q (-6 : Int32) h2) ∧ ((hI h2 (hR h2 l0 29) l1.toNatClampNeg) = 0 → (kd (hR h2 l0 24).1 = (2, 0)) ∧ (vp_in l1 (hS h2 (hR h2 l0 24) - 1)) ∧ p_M_raceOf l0 (hI h2 (hR h2 l0 24) l1.toNatClampNeg) h2 (fun (v11 : Int32) (h10 : xH) => (kd (hR h2 l0 1).1 = (2, 0)) ∧ (vp_in v11 (hS h10 (hR h2 l0 1) - 1)) ∧ (((hI h10 (hR h2 l0 1) v11.toNatClampNeg) = 0 → (kd (hR h10 l0 29).1 = (2, 0)) ∧ (vp_in l1 (hS h10 (hR h10 l0 29) - 1)) ∧ ∀ h17 : xH, h17 = sI h10 (hR h10 l0 29) l1.toNatClampNeg (1 : Int32) → (kd (hR h17 l0 24).1 = (2, 0)) ∧ (vp_in l1 (hS h17 (hR h17 l0 24) - 1)) ∧ (kd (hR h17 l0 13).1 = (2, 0)) ∧ (vp_in (hI h17 (hR h17 l0 24) l1.toNatClampNeg) (hS h17 (hR h17 l0 13) - 1)) ∧ p_M_stake l0 l1 h17 (fun (v24 : Int32) (h23 : xH) => (vp_in (hI h17 (hR h17 l0 24) l1.toNatClampNeg) (hS h23 (hR h17 l0 13) - 1)) ∧ ∀ h26 : xH, h26 = sI h23 (hR h17 l0 13) (hI h17 (hR h17 l0 24) l1.toNatClampNeg).toNatClampNeg ((hI h17 (hR h17 l0 13) (hI h17 (hR h17 l0 24) l1.toNatClampNeg).toNatClampNeg) + v24) → p_M_stake l0 l1 h26 (fun (v29 : Int32) (h28 : xH) => Q v29 h28))) ∧ (¬ (hI h10 (hR h2 l0 1) v11.toNatClampNeg) = 0 → Q (-6 : Int32) h10)))))) ∧ (v3 = 0 → Q (-2 : Int32) h2)))
set_option maxRecDepth 100000 in
set_option maxHeartbeats 4000000 in
theorem t_M_cancel (l0 : xN) (l1 : Int32) (h : xH) (Q : Int32 → xH → Prop) (H : p_M_cancel l0 l1 h Q) : WP M_M_cancel 0 [(0, xr l0), (1, xi l1)] [] h 0 (qi Q) := by
  unfold p_M_cancel at H
  refine wp_aload_n 0 rfl rfl dX11_cancel_0 ?_
  refine wp_iload_n 1 rfl rfl dX11_cancel_1 ?_
  refine WP.at 2 rfl ?_
  obtain ⟨q1, H⟩ := H
  refine wp_cVi (M2 := M_M_isTicket) coX11 l0 q1 [xi l1] rfl lv_X11_291 mo_M_isTicket (Nat.le_of_ble_eq_true rfl) ⟨(Nat.le_of_ble_eq_true rfl), (Nat.le_of_ble_eq_true rfl)⟩ (Nat.le_of_ble_eq_true rfl) (Nat.le_of_ble_eq_true rfl) dX11_cancel_2 (t_M_isTicket l0 l1 _ _ H) (fun v3 h2 H => ?_)
  refine WP.at 5 rfl ?_
  refine wp_if_ne 11 (by decide) dX11_cancel_5 (fun c4 => ?_) (fun c4 => ?_)
  · replace H := H.1 c4
    refine wp_aload_n 0 rfl rfl dX11_cancel_11 ?_
    refine wp_getr coX11 29 (Nat.le_of_ble_eq_true rfl) fl_X11_83 rfl q1 dX11_cancel_12 ?_
    refine wp_iload_n 1 rfl rfl dX11_cancel_15 ?_
    obtain ⟨q5, H⟩ := H
    obtain ⟨q6, H⟩ := H
    refine wp_iaload q5 q6 dX11_cancel_16 ?_
    refine WP.at 17 rfl ?_
    refine wp_if_ne 38 (by decide) dX11_cancel_17 (fun c7 => ?_) (fun c7 => ?_)
    · replace H := H.1 c7
      refine wp_bipush (-6 : Int32) (by decide) dX11_cancel_38 ?_
      exact wp_iret trivial dX11_cancel_40 H
    · replace H := H.2 c7
      refine wp_aload_n 0 rfl rfl dX11_cancel_20 ?_
      refine wp_getr coX11 1 (Nat.le_of_ble_eq_true rfl) fl_X11_7 rfl q1 dX11_cancel_21 ?_
      refine wp_aload_n 0 rfl rfl dX11_cancel_24 ?_
      refine wp_aload_n 0 rfl rfl dX11_cancel_25 ?_
      refine wp_getr coX11 24 (Nat.le_of_ble_eq_true rfl) fl_X11_68 rfl q1 dX11_cancel_26 ?_
      refine wp_iload_n 1 rfl rfl dX11_cancel_29 ?_
      obtain ⟨q8, H⟩ := H
      obtain ⟨q9, H⟩ := H
      refine wp_iaload q8 q9 dX11_cancel_30 ?_
      refine WP.at 31 rfl ?_
      refine WP.at 31 rfl ?_
      refine wp_cVi (M2 := M_M_raceOf) coX11 l0 q1 [xi (hI h2 (hR h2 l0 24) l1.toNatClampNeg)] rfl lv_X11_278 mo_M_raceOf (Nat.le_of_ble_eq_true rfl) ⟨(Nat.le_of_ble_eq_true rfl), (Nat.le_of_ble_eq_true rfl)⟩ (Nat.le_of_ble_eq_true rfl) (Nat.le_of_ble_eq_true rfl) dX11_cancel_31 (t_M_raceOf l0 (hI h2 (hR h2 l0 24) l1.toNatClampNeg) _ _ H) (fun v11 h10 H => ?_)
      obtain ⟨q12, H⟩ := H
      obtain ⟨q13, H⟩ := H
      refine wp_iaload q12 q13 dX11_cancel_34 ?_
      refine WP.at 35 rfl ?_
      refine wp_if_eq 41 (by decide) dX11_cancel_35 (fun c14 => ?_) (fun c14 => ?_)
      · replace H := H.1 c14
        refine wp_aload_n 0 rfl rfl dX11_cancel_41 ?_
        refine wp_getr coX11 29 (Nat.le_of_ble_eq_true rfl) fl_X11_83 rfl q1 dX11_cancel_42 ?_
        refine wp_iload_n 1 rfl rfl dX11_cancel_45 ?_
        refine wp_iconst (1 : Int32) (by decide) dX11_cancel_46 ?_
        obtain ⟨q15, H⟩ := H
        obtain ⟨q16, H⟩ := H
        refine wp_iastore q15 q16 dX11_cancel_47 ?_
        refine wp_nh (fun h17 e18 => ?_)
        replace H := H h17 e18
        refine wp_aload_n 0 rfl rfl dX11_cancel_48 ?_
        refine wp_getr coX11 13 (Nat.le_of_ble_eq_true rfl) fl_X11_41 rfl q1 dX11_cancel_49 ?_
        refine WP.at 52 rfl ?_
        refine wp_aload_n 0 rfl rfl dX11_cancel_52 ?_
        refine wp_getr coX11 24 (Nat.le_of_ble_eq_true rfl) fl_X11_68 rfl q1 dX11_cancel_53 ?_
        refine wp_iload_n 1 rfl rfl dX11_cancel_56 ?_
        obtain ⟨q19, H⟩ := H
        obtain ⟨q20, H⟩ := H
        refine wp_iaload q19 q20 dX11_cancel_57 ?_
        refine wp_dup2 rfl rfl dX11_cancel_58 ?_
        obtain ⟨q21, H⟩ := H
        obtain ⟨q22, H⟩ := H
        refine wp_iaload q21 q22 dX11_cancel_59 ?_
        refine wp_aload_n 0 rfl rfl dX11_cancel_60 ?_
        refine wp_iload_n 1 rfl rfl dX11_cancel_61 ?_
        refine WP.at 62 rfl ?_
        refine WP.at 62 rfl ?_
        refine wp_cVi (M2 := M_M_stake) coX11 l0 q1 [xi l1] rfl lv_X11_201 mo_M_stake (Nat.le_of_ble_eq_true rfl) ⟨(Nat.le_of_ble_eq_true rfl), (Nat.le_of_ble_eq_true rfl)⟩ (Nat.le_of_ble_eq_true rfl) (Nat.le_of_ble_eq_true rfl) dX11_cancel_62 (t_M_stake l0 l1 _ _ H) (fun v24 h23 H => ?_)
        refine wp_iadd dX11_cancel_65 ?_
        obtain ⟨q25, H⟩ := H
        refine wp_iastore q21 q25 dX11_cancel_66 ?_
        refine wp_nh (fun h26 e27 => ?_)
        replace H := H h26 e27
        refine wp_aload_n 0 rfl rfl dX11_cancel_67 ?_
        refine wp_iload_n 1 rfl rfl dX11_cancel_68 ?_
        refine WP.at 69 rfl ?_
        refine wp_cVi (M2 := M_M_stake) coX11 l0 q1 [xi l1] rfl lv_X11_201 mo_M_stake (Nat.le_of_ble_eq_true rfl) ⟨(Nat.le_of_ble_eq_true rfl), (Nat.le_of_ble_eq_true rfl)⟩ (Nat.le_of_ble_eq_true rfl) (Nat.le_of_ble_eq_true rfl) dX11_cancel_69 (t_M_stake l0 l1 _ _ H) (fun v29 h28 H => ?_)
        exact wp_iret trivial dX11_cancel_72 H
      · replace H := H.2 c14
        refine wp_bipush (-6 : Int32) (by decide) dX11_cancel_38 ?_
        exact wp_iret trivial dX11_cancel_40 H
  · replace H := H.2 c4
    refine wp_bipush (-2 : Int32) (by decide) dX11_cancel_8 ?_
    exact wp_iret trivial dX11_cancel_10 H
def p_Ti_isPayable (l0 : xN) (h : xH) (Q : Int32 → xH → Prop) : Prop := (kd l0.1 = (1, 8)) ∧ ((¬ (hI h l0 6) = 0 → Q (0 : Int32) h) ∧ ((hI h l0 6) = 0 → (kd (hR h l0 0).1 = (1, 3)) ∧ p_Po_isSettled (hR h l0 0) h (fun (v5 : Int32) (h4 : xH) => ((v5 = 0 → Q (0 : Int32) h4) ∧ (¬ v5 = 0 → Q (1 : Int32) h4)))))
set_option maxRecDepth 100000 in
set_option maxHeartbeats 4000000 in
theorem t_Ti_isPayable (l0 : xN) (h : xH) (Q : Int32 → xH → Prop) (H : p_Ti_isPayable l0 h Q) : WP M_Ti_isPayable 0 [(0, xr l0)] [] h 0 (qi Q) := by
  unfold p_Ti_isPayable at H
  refine wp_aload_n 0 rfl rfl dX9_isPayable_0 ?_
  obtain ⟨q1, H⟩ := H
  refine wp_geti coX9 6 (Nat.le_of_ble_eq_true rfl) fl_X9_9 rfl q1 dX9_isPayable_1 ?_
  refine WP.at 4 rfl ?_
  refine wp_if_ne 21 (by decide) dX9_isPayable_4 (fun c2 => ?_) (fun c2 => ?_)
  · replace H := H.1 c2
    refine wp_iconst (0 : Int32) (by decide) dX9_isPayable_21 ?_
    exact wp_iret (Or.inl rfl) dX9_isPayable_22 H
  · replace H := H.2 c2
    refine wp_aload_n 0 rfl rfl dX9_isPayable_7 ?_
    refine wp_getr coX9 0 (Nat.le_of_ble_eq_true rfl) fl_X9_15 rfl q1 dX9_isPayable_8 ?_
    refine WP.at 11 rfl ?_
    obtain ⟨q3, H⟩ := H
    refine wp_cVi (M2 := M_Po_isSettled) coX4 (hR h l0 0) q3 [] rfl lv_X9_61 mo_Po_isSettled (Nat.le_of_ble_eq_true rfl) ⟨(Nat.le_of_ble_eq_true rfl), (Nat.le_of_ble_eq_true rfl)⟩ (Nat.le_of_ble_eq_true rfl) (Nat.le_of_ble_eq_true rfl) dX9_isPayable_11 (t_Po_isSettled (hR h l0 0) _ _ H) (fun v5 h4 H => ?_)
    refine WP.at 14 rfl ?_
    refine wp_if_eq 21 (by decide) dX9_isPayable_14 (fun c6 => ?_) (fun c6 => ?_)
    · replace H := H.1 c6
      refine wp_iconst (0 : Int32) (by decide) dX9_isPayable_21 ?_
      exact wp_iret (Or.inl rfl) dX9_isPayable_22 H
    · replace H := H.2 c6
      refine wp_iconst (1 : Int32) (by decide) dX9_isPayable_17 ?_
      refine WP.at 18 rfl ?_
      refine wp_goto 22 (by decide) dX9_isPayable_18 ?_
      exact wp_iret (Or.inr rfl) dX9_isPayable_22 H
def p_Ti_due_j30 (s0 : Int32) (l0 : xN) (h : xH) (Q : Int32 → xH → Prop) : Prop := ((s0 = 0 → Q (0 : Int32) h) ∧ (¬ s0 = 0 → (kd l0.1 = (1, 8)) ∧ (kd (hR h l0 0).1 = (1, 3)) ∧ p_Ti_line l0 h (fun (v10 : Int32) (h9 : xH) => (kd (hR h (hR h l0 0) 7).1 = (2, 0)) ∧ (vp_in v10 (hS h9 (hR h (hR h l0 0) 7) - 1)) ∧ Q ((hI h l0 2) * (hI h9 (hR h (hR h l0 0) 7) v10.toNatClampNeg)) h9)))
set_option maxRecDepth 100000 in
set_option maxHeartbeats 4000000 in
theorem t_Ti_due_j30 (s0 : Int32) (l0 : xN) (h : xH) (Q : Int32 → xH → Prop) (H : p_Ti_due_j30 s0 l0 h Q) : WP M_Ti_due 30 [(0, xr l0)] [xi s0] h 0 (qi Q) := by
  unfold p_Ti_due_j30 at H
  refine wp_istore_n 1 rfl (Nat.le_of_ble_eq_true rfl) dX9_due_30 (ls' := [(1, xi s0), (0, xr l0)]) rfl ?_
  refine wp_iload_n 1 rfl rfl dX9_due_31 ?_
  refine WP.at 32 rfl ?_
  refine wp_if_eq 55 (by decide) dX9_due_32 (fun c6 => ?_) (fun c6 => ?_)
  · replace H := H.1 c6
    refine wp_iconst (0 : Int32) (by decide) dX9_due_55 ?_
    exact wp_iret trivial dX9_due_56 H
  · replace H := H.2 c6
    refine wp_aload_n 0 rfl rfl dX9_due_35 ?_
    obtain ⟨q7, H⟩ := H
    refine wp_geti coX9 2 (Nat.le_of_ble_eq_true rfl) fl_X9_22 rfl q7 dX9_due_36 ?_
    refine wp_aload_n 0 rfl rfl dX9_due_39 ?_
    refine wp_getr coX9 0 (Nat.le_of_ble_eq_true rfl) fl_X9_15 rfl q7 dX9_due_40 ?_
    obtain ⟨q8, H⟩ := H
    refine wp_getr coX4 7 (Nat.le_of_ble_eq_true rfl) fl_X9_65 rfl q8 dX9_due_43 ?_
    refine wp_aload_n 0 rfl rfl dX9_due_46 ?_
    refine WP.at 47 rfl ?_
    refine wp_cVi (M2 := M_Ti_line) coX9 l0 q7 [] rfl lv_X9_39 mo_Ti_line (Nat.le_of_ble_eq_true rfl) ⟨(Nat.le_of_ble_eq_true rfl), (Nat.le_of_ble_eq_true rfl)⟩ (Nat.le_of_ble_eq_true rfl) (Nat.le_of_ble_eq_true rfl) dX9_due_47 (t_Ti_line l0 _ _ H) (fun v10 h9 H => ?_)
    refine WP.at 50 rfl ?_
    obtain ⟨q11, H⟩ := H
    obtain ⟨q12, H⟩ := H
    refine wp_iaload q11 q12 dX9_due_50 ?_
    refine wp_imul dX9_due_51 ?_
    refine WP.at 52 rfl ?_
    refine wp_goto 56 (by decide) dX9_due_52 ?_
    exact wp_iret trivial dX9_due_56 H
def p_Ti_due (l0 : xN) (h : xH) (Q : Int32 → xH → Prop) : Prop := (kd l0.1 = (1, 8)) ∧ (kd (hR h l0 0).1 = (1, 3)) ∧ p_Po_isSettled (hR h l0 0) h (fun (v4 : Int32) (h3 : xH) => ((v4 = 0 → p_Ti_due_j30 (0 : Int32) l0 h3 Q) ∧ (¬ v4 = 0 → (((hI h3 l0 6) = 0 → p_Ti_due_j30 (1 : Int32) l0 h3 Q) ∧ (¬ (hI h3 l0 6) = 0 → ((¬ (hI h3 l0 6) = (3 : Int32) → p_Ti_due_j30 (0 : Int32) l0 h3 Q) ∧ ((hI h3 l0 6) = (3 : Int32) → p_Ti_due_j30 (1 : Int32) l0 h3 Q)))))))
set_option maxRecDepth 100000 in
set_option maxHeartbeats 4000000 in
theorem t_Ti_due (l0 : xN) (h : xH) (Q : Int32 → xH → Prop) (H : p_Ti_due l0 h Q) : WP M_Ti_due 0 [(0, xr l0)] [] h 0 (qi Q) := by
  unfold p_Ti_due at H
  refine wp_aload_n 0 rfl rfl dX9_due_0 ?_
  obtain ⟨q1, H⟩ := H
  refine wp_getr coX9 0 (Nat.le_of_ble_eq_true rfl) fl_X9_15 rfl q1 dX9_due_1 ?_
  refine WP.at 4 rfl ?_
  obtain ⟨q2, H⟩ := H
  refine wp_cVi (M2 := M_Po_isSettled) coX4 (hR h l0 0) q2 [] rfl lv_X9_61 mo_Po_isSettled (Nat.le_of_ble_eq_true rfl) ⟨(Nat.le_of_ble_eq_true rfl), (Nat.le_of_ble_eq_true rfl)⟩ (Nat.le_of_ble_eq_true rfl) (Nat.le_of_ble_eq_true rfl) dX9_due_4 (t_Po_isSettled (hR h l0 0) _ _ H) (fun v4 h3 H => ?_)
  refine WP.at 7 rfl ?_
  refine wp_if_eq 29 (by decide) dX9_due_7 (fun c5 => ?_) (fun c5 => ?_)
  · replace H := H.1 c5
    refine wp_iconst (0 : Int32) (by decide) dX9_due_29 ?_
    refine WP.at 30 rfl ?_
    exact WP.pick [0] rfl (t_Ti_due_j30 (0 : Int32) l0 _ _ H)
  · replace H := H.2 c5
    refine wp_aload_n 0 rfl rfl dX9_due_10 ?_
    refine wp_geti coX9 6 (Nat.le_of_ble_eq_true rfl) fl_X9_9 rfl q1 dX9_due_11 ?_
    refine WP.at 14 rfl ?_
    refine wp_if_eq 25 (by decide) dX9_due_14 (fun c13 => ?_) (fun c13 => ?_)
    · replace H := H.1 c13
      refine wp_iconst (1 : Int32) (by decide) dX9_due_25 ?_
      refine WP.at 26 rfl ?_
      refine wp_goto 30 (by decide) dX9_due_26 ?_
      exact WP.pick [0] rfl (t_Ti_due_j30 (1 : Int32) l0 _ _ H)
    · replace H := H.2 c13
      refine wp_aload_n 0 rfl rfl dX9_due_17 ?_
      refine wp_geti coX9 6 (Nat.le_of_ble_eq_true rfl) fl_X9_9 rfl q1 dX9_due_18 ?_
      refine wp_iconst (3 : Int32) (by decide) dX9_due_21 ?_
      refine WP.at 22 rfl ?_
      refine wp_icmp_ne 29 (by decide) dX9_due_22 (fun c14 => ?_) (fun c14 => ?_)
      · replace H := H.1 c14
        refine wp_iconst (0 : Int32) (by decide) dX9_due_29 ?_
        refine WP.at 30 rfl ?_
        exact WP.pick [0] rfl (t_Ti_due_j30 (0 : Int32) l0 _ _ H)
      · replace H := H.2 c14
        refine wp_iconst (1 : Int32) (by decide) dX9_due_25 ?_
        refine WP.at 26 rfl ?_
        refine wp_goto 30 (by decide) dX9_due_26 ?_
        exact WP.pick [0] rfl (t_Ti_due_j30 (1 : Int32) l0 _ _ H)
def p_T_payOut (l0 : xN) (h : xH) (Q : Int32 → xH → Prop) : Prop := (kd l0.1 = (1, 8)) ∧ p_Ti_due l0 h (fun (v3 : Int32) (h2 : xH) => p_Ti_end l0 (3 : Int32) (9 : Int32) v3 h2 (fun h4 : xH => Q v3 h4))
set_option maxRecDepth 100000 in
set_option maxHeartbeats 4000000 in
theorem t_T_payOut (l0 : xN) (h : xH) (Q : Int32 → xH → Prop) (H : p_T_payOut l0 h Q) : WP M_T_payOut 0 [(0, xr l0)] [] h 0 (qi Q) := by
  unfold p_T_payOut at H
  refine wp_aload_n 0 rfl rfl dX10_payOut_0 ?_
  refine WP.at 1 rfl ?_
  obtain ⟨q1, H⟩ := H
  refine wp_cVi (M2 := M_Ti_due) coX9 l0 q1 [] rfl lv_X10_227 mo_Ti_due (Nat.le_of_ble_eq_true rfl) ⟨(Nat.le_of_ble_eq_true rfl), (Nat.le_of_ble_eq_true rfl)⟩ (Nat.le_of_ble_eq_true rfl) (Nat.le_of_ble_eq_true rfl) dX10_payOut_1 (t_Ti_due l0 _ _ H) (fun v3 h2 H => ?_)
  refine wp_istore_n 1 rfl (Nat.le_of_ble_eq_true rfl) dX10_payOut_4 (ls' := [(1, xi v3), (0, xr l0)]) rfl ?_
  refine wp_aload_n 0 rfl rfl dX10_payOut_5 ?_
  refine wp_iconst (3 : Int32) (by decide) dX10_payOut_6 ?_
  refine wp_bipush (9 : Int32) (by decide) dX10_payOut_7 ?_
  refine wp_iload_n 1 rfl rfl dX10_payOut_9 ?_
  refine WP.at 10 rfl ?_
  refine WP.at 10 rfl ?_
  refine wp_cVv (M2 := M_Ti_end) coX9 l0 q1 [xi (3 : Int32), xi (9 : Int32), xi v3] rfl lv_X10_199 mo_Ti_end (Nat.le_of_ble_eq_true rfl) ⟨(Nat.le_of_ble_eq_true rfl), (Nat.le_of_ble_eq_true rfl)⟩ (Nat.le_of_ble_eq_true rfl) (Nat.le_of_ble_eq_true rfl) dX10_payOut_10 (t_Ti_end l0 (3 : Int32) (9 : Int32) v3 _ _ H) (fun h4 H => ?_)
  refine wp_iload_n 1 rfl rfl dX10_payOut_13 ?_
  exact wp_iret trivial dX10_payOut_14 H
def p_T_pay (l0 : xN) (l1 : Int32) (h : xH) (Q : Int32 → xH → Prop) : Prop := (kd l0.1 = (1, 9)) ∧ p_T_findTicket l0 l1 h (fun (v3 : xN) (h2 : xH) => ((¬ v3.1 = 0 → (kd v3.1 = (1, 8)) ∧ p_Ti_isPayable v3 h2 (fun (v7 : Int32) (h6 : xH) => ((v7 = 0 → Q (-6 : Int32) h6) ∧ (¬ v7 = 0 → p_T_payOut v3 h6 (fun (v10 : Int32) (h9 : xH) => Q v10 h9))))) ∧ (v3.1 = 0 → Q (-2 : Int32) h2)))
set_option maxRecDepth 100000 in
set_option maxHeartbeats 4000000 in
theorem t_T_pay (l0 : xN) (l1 : Int32) (h : xH) (Q : Int32 → xH → Prop) (H : p_T_pay l0 l1 h Q) : WP M_T_pay 0 [(0, xr l0), (1, xi l1)] [] h 0 (qi Q) := by
  unfold p_T_pay at H
  refine wp_aload_n 0 rfl rfl dX10_pay_0 ?_
  refine wp_iload_n 1 rfl rfl dX10_pay_1 ?_
  refine WP.at 2 rfl ?_
  obtain ⟨q1, H⟩ := H
  refine wp_cVr (M2 := M_T_findTicket) coX10 l0 q1 [xi l1] rfl lv_X10_187 mo_T_findTicket (Nat.le_of_ble_eq_true rfl) ⟨(Nat.le_of_ble_eq_true rfl), (Nat.le_of_ble_eq_true rfl)⟩ (Nat.le_of_ble_eq_true rfl) (Nat.le_of_ble_eq_true rfl) dX10_pay_2 (t_T_findTicket l0 l1 _ _ H) (fun v3 h2 H => ?_)
  refine wp_astore_n 2 rfl (Nat.le_of_ble_eq_true rfl) dX10_pay_5 (ls' := [(2, xr v3), (0, xr l0), (1, xi l1)]) rfl ?_
  refine wp_aload_n 2 rfl rfl dX10_pay_6 ?_
  refine WP.at 7 rfl ?_
  refine wp_ifnonnull 13 (by decide) dX10_pay_7 (fun c4 => ?_) (fun c4 => ?_)
  · replace H := H.1 c4
    refine wp_aload_n 2 rfl rfl dX10_pay_13 ?_
    refine WP.at 14 rfl ?_
    obtain ⟨q5, H⟩ := H
    refine wp_cVi (M2 := M_Ti_isPayable) coX9 v3 q5 [] rfl lv_X10_202 mo_Ti_isPayable (Nat.le_of_ble_eq_true rfl) ⟨(Nat.le_of_ble_eq_true rfl), (Nat.le_of_ble_eq_true rfl)⟩ (Nat.le_of_ble_eq_true rfl) (Nat.le_of_ble_eq_true rfl) dX10_pay_14 (t_Ti_isPayable v3 _ _ H) (fun v7 h6 H => ?_)
    refine WP.at 17 rfl ?_
    refine wp_if_eq 27 (by decide) dX10_pay_17 (fun c8 => ?_) (fun c8 => ?_)
    · replace H := H.1 c8
      refine wp_bipush (-6 : Int32) (by decide) dX10_pay_27 ?_
      exact wp_iret trivial dX10_pay_29 H
    · replace H := H.2 c8
      refine wp_aload_n 2 rfl rfl dX10_pay_20 ?_
      refine WP.at 21 rfl ?_
      refine wp_cSi (M2 := M_T_payOut) [xr v3] rfl ls_X10_205 mo_T_payOut (Nat.le_of_ble_eq_true rfl) ⟨(Nat.le_of_ble_eq_true rfl), (Nat.le_of_ble_eq_true rfl)⟩ (Nat.le_of_ble_eq_true rfl) (Nat.le_of_ble_eq_true rfl) dX10_pay_21 (t_T_payOut v3 _ _ H) (fun v10 h9 H => ?_)
      refine WP.at 24 rfl ?_
      refine wp_goto 29 (by decide) dX10_pay_24 ?_
      exact wp_iret trivial dX10_pay_29 H
  · replace H := H.2 c4
    refine wp_bipush (-2 : Int32) (by decide) dX10_pay_10 ?_
    exact wp_iret trivial dX10_pay_12 H
def p_M_mayPay (l0 : xN) (l1 : Int32) (h : xH) (Q : Int32 → xH → Prop) : Prop := (kd l0.1 = (1, 10)) ∧ (kd (hR h l0 29).1 = (2, 0)) ∧ (vp_in l1 (hS h (hR h l0 29) - 1)) ∧ ((¬ (hI h (hR h l0 29) l1.toNatClampNeg) = 0 → Q (0 : Int32) h) ∧ ((hI h (hR h l0 29) l1.toNatClampNeg) = 0 → (kd (hR h l0 24).1 = (2, 0)) ∧ (vp_in l1 (hS h (hR h l0 24) - 1)) ∧ (kd (hR h l0 9).1 = (3, 0)) ∧ (vp_in (hI h (hR h l0 24) l1.toNatClampNeg) (hS h (hR h l0 9) - 1)) ∧ (((hI h (hR h l0 9) (hI h (hR h l0 24) l1.toNatClampNeg).toNatClampNeg) = 0 → Q (0 : Int32) h) ∧ (¬ (hI h (hR h l0 9) (hI h (hR h l0 24) l1.toNatClampNeg).toNatClampNeg) = 0 → Q (1 : Int32) h))))
set_option maxRecDepth 100000 in
set_option maxHeartbeats 4000000 in
theorem t_M_mayPay (l0 : xN) (l1 : Int32) (h : xH) (Q : Int32 → xH → Prop) (H : p_M_mayPay l0 l1 h Q) : WP M_M_mayPay 0 [(0, xr l0), (1, xi l1)] [] h 0 (qi Q) := by
  unfold p_M_mayPay at H
  refine wp_aload_n 0 rfl rfl dX11_mayPay_0 ?_
  obtain ⟨q1, H⟩ := H
  refine wp_getr coX11 29 (Nat.le_of_ble_eq_true rfl) fl_X11_83 rfl q1 dX11_mayPay_1 ?_
  refine wp_iload_n 1 rfl rfl dX11_mayPay_4 ?_
  obtain ⟨q2, H⟩ := H
  obtain ⟨q3, H⟩ := H
  refine wp_iaload q2 q3 dX11_mayPay_5 ?_
  refine WP.at 6 rfl ?_
  refine wp_if_ne 27 (by decide) dX11_mayPay_6 (fun c4 => ?_) (fun c4 => ?_)
  · replace H := H.1 c4
    refine wp_iconst (0 : Int32) (by decide) dX11_mayPay_27 ?_
    exact wp_iret (Or.inl rfl) dX11_mayPay_28 H
  · replace H := H.2 c4
    refine wp_aload_n 0 rfl rfl dX11_mayPay_9 ?_
    refine wp_getr coX11 9 (Nat.le_of_ble_eq_true rfl) fl_X11_35 rfl q1 dX11_mayPay_10 ?_
    refine wp_aload_n 0 rfl rfl dX11_mayPay_13 ?_
    refine wp_getr coX11 24 (Nat.le_of_ble_eq_true rfl) fl_X11_68 rfl q1 dX11_mayPay_14 ?_
    refine wp_iload_n 1 rfl rfl dX11_mayPay_17 ?_
    obtain ⟨q5, H⟩ := H
    obtain ⟨q6, H⟩ := H
    refine wp_iaload q5 q6 dX11_mayPay_18 ?_
    obtain ⟨q7, H⟩ := H
    obtain ⟨q8, H⟩ := H
    refine wp_baload q7 q8 dX11_mayPay_19 ?_
    refine WP.at 20 rfl ?_
    refine WP.at 20 rfl ?_
    refine wp_if_eq 27 (by decide) dX11_mayPay_20 (fun c9 => ?_) (fun c9 => ?_)
    · replace H := H.1 c9
      refine wp_iconst (0 : Int32) (by decide) dX11_mayPay_27 ?_
      exact wp_iret (Or.inl rfl) dX11_mayPay_28 H
    · replace H := H.2 c9
      refine wp_iconst (1 : Int32) (by decide) dX11_mayPay_23 ?_
      refine WP.at 24 rfl ?_
      refine wp_goto 28 (by decide) dX11_mayPay_24 ?_
      exact wp_iret (Or.inr rfl) dX11_mayPay_28 H
def p_M_dueTo (l0 : xN) (l1 : Int32) (h : xH) (Q : Int32 → xH → Prop) : Prop := (kd l0.1 = (1, 10)) ∧ (kd (hR h l0 32).1 = (3, 0)) ∧ (vp_in l1 (hS h (hR h l0 32) - 1)) ∧ (((hI h (hR h l0 32) l1.toNatClampNeg) = 0 → Q (0 : Int32) h) ∧ (¬ (hI h (hR h l0 32) l1.toNatClampNeg) = 0 → (kd (hR h l0 31).1 = (2, 0)) ∧ (vp_in l1 (hS h (hR h l0 31) - 1)) ∧ (kd (hR h l0 28).1 = (2, 0)) ∧ (vp_in l1 (hS h (hR h l0 28) - 1)) ∧ Q ((hI h (hR h l0 31) l1.toNatClampNeg) * (hI h (hR h l0 28) l1.toNatClampNeg)) h))
set_option maxRecDepth 100000 in
set_option maxHeartbeats 4000000 in
theorem t_M_dueTo (l0 : xN) (l1 : Int32) (h : xH) (Q : Int32 → xH → Prop) (H : p_M_dueTo l0 l1 h Q) : WP M_M_dueTo 0 [(0, xr l0), (1, xi l1)] [] h 0 (qi Q) := by
  unfold p_M_dueTo at H
  refine wp_aload_n 0 rfl rfl dX11_dueTo_0 ?_
  obtain ⟨q1, H⟩ := H
  refine wp_getr coX11 32 (Nat.le_of_ble_eq_true rfl) fl_X11_92 rfl q1 dX11_dueTo_1 ?_
  refine wp_iload_n 1 rfl rfl dX11_dueTo_4 ?_
  obtain ⟨q2, H⟩ := H
  obtain ⟨q3, H⟩ := H
  refine wp_baload q2 q3 dX11_dueTo_5 ?_
  refine WP.at 6 rfl ?_
  refine wp_if_eq 25 (by decide) dX11_dueTo_6 (fun c4 => ?_) (fun c4 => ?_)
  · replace H := H.1 c4
    refine wp_iconst (0 : Int32) (by decide) dX11_dueTo_25 ?_
    exact wp_iret trivial dX11_dueTo_26 H
  · replace H := H.2 c4
    refine wp_aload_n 0 rfl rfl dX11_dueTo_9 ?_
    refine wp_getr coX11 31 (Nat.le_of_ble_eq_true rfl) fl_X11_89 rfl q1 dX11_dueTo_10 ?_
    refine wp_iload_n 1 rfl rfl dX11_dueTo_13 ?_
    obtain ⟨q5, H⟩ := H
    obtain ⟨q6, H⟩ := H
    refine wp_iaload q5 q6 dX11_dueTo_14 ?_
    refine wp_aload_n 0 rfl rfl dX11_dueTo_15 ?_
    refine wp_getr coX11 28 (Nat.le_of_ble_eq_true rfl) fl_X11_80 rfl q1 dX11_dueTo_16 ?_
    refine wp_iload_n 1 rfl rfl dX11_dueTo_19 ?_
    refine WP.at 20 rfl ?_
    obtain ⟨q7, H⟩ := H
    obtain ⟨q8, H⟩ := H
    refine wp_iaload q7 q8 dX11_dueTo_20 ?_
    refine wp_imul dX11_dueTo_21 ?_
    refine WP.at 22 rfl ?_
    refine wp_goto 26 (by decide) dX11_dueTo_22 ?_
    exact wp_iret trivial dX11_dueTo_26 H
def p_M_payOne (l0 : xN) (l1 : Int32) (h : xH) (Q : Int32 → xH → Prop) : Prop := (kd l0.1 = (1, 10)) ∧ (kd (hR h l0 29).1 = (2, 0)) ∧ (vp_in l1 (hS h (hR h l0 29) - 1)) ∧ ∀ h4 : xH, h4 = sI h (hR h l0 29) l1.toNatClampNeg (3 : Int32) → (kd (hR h4 l0 24).1 = (2, 0)) ∧ (vp_in l1 (hS h4 (hR h4 l0 24) - 1)) ∧ (kd (hR h4 l0 21).1 = (2, 0)) ∧ (vp_in (hI h4 (hR h4 l0 24) l1.toNatClampNeg) (hS h4 (hR h4 l0 21) - 1)) ∧ p_M_dueTo l0 l1 h4 (fun (v11 : Int32) (h10 : xH) => (vp_in (hI h4 (hR h4 l0 24) l1.toNatClampNeg) (hS h10 (hR h4 l0 21) - 1)) ∧ ∀ h13 : xH, h13 = sI h10 (hR h4 l0 21) (hI h4 (hR h4 l0 24) l1.toNatClampNeg).toNatClampNeg ((hI h4 (hR h4 l0 21) (hI h4 (hR h4 l0 24) l1.toNatClampNeg).toNatClampNeg) + v11) → p_M_dueTo l0 l1 h13 (fun (v16 : Int32) (h15 : xH) => Q v16 h15))
set_option maxRecDepth 100000 in
set_option maxHeartbeats 4000000 in
theorem t_M_payOne (l0 : xN) (l1 : Int32) (h : xH) (Q : Int32 → xH → Prop) (H : p_M_payOne l0 l1 h Q) : WP M_M_payOne 0 [(0, xr l0), (1, xi l1)] [] h 0 (qi Q) := by
  unfold p_M_payOne at H
  refine wp_aload_n 0 rfl rfl dX11_payOne_0 ?_
  obtain ⟨q1, H⟩ := H
  refine wp_getr coX11 29 (Nat.le_of_ble_eq_true rfl) fl_X11_83 rfl q1 dX11_payOne_1 ?_
  refine wp_iload_n 1 rfl rfl dX11_payOne_4 ?_
  refine wp_iconst (3 : Int32) (by decide) dX11_payOne_5 ?_
  obtain ⟨q2, H⟩ := H
  obtain ⟨q3, H⟩ := H
  refine wp_iastore q2 q3 dX11_payOne_6 ?_
  refine wp_nh (fun h4 e5 => ?_)
  replace H := H h4 e5
  refine wp_aload_n 0 rfl rfl dX11_payOne_7 ?_
  refine wp_getr coX11 21 (Nat.le_of_ble_eq_true rfl) fl_X11_65 rfl q1 dX11_payOne_8 ?_
  refine WP.at 11 rfl ?_
  refine wp_aload_n 0 rfl rfl dX11_payOne_11 ?_
  refine wp_getr coX11 24 (Nat.le_of_ble_eq_true rfl) fl_X11_68 rfl q1 dX11_payOne_12 ?_
  refine wp_iload_n 1 rfl rfl dX11_payOne_15 ?_
  obtain ⟨q6, H⟩ := H
  obtain ⟨q7, H⟩ := H
  refine wp_iaload q6 q7 dX11_payOne_16 ?_
  refine wp_dup2 rfl rfl dX11_payOne_17 ?_
  obtain ⟨q8, H⟩ := H
  obtain ⟨q9, H⟩ := H
  refine wp_iaload q8 q9 dX11_payOne_18 ?_
  refine wp_aload_n 0 rfl rfl dX11_payOne_19 ?_
  refine wp_iload_n 1 rfl rfl dX11_payOne_20 ?_
  refine WP.at 21 rfl ?_
  refine WP.at 21 rfl ?_
  refine wp_cVi (M2 := M_M_dueTo) coX11 l0 q1 [xi l1] rfl lv_X11_294 mo_M_dueTo (Nat.le_of_ble_eq_true rfl) ⟨(Nat.le_of_ble_eq_true rfl), (Nat.le_of_ble_eq_true rfl)⟩ (Nat.le_of_ble_eq_true rfl) (Nat.le_of_ble_eq_true rfl) dX11_payOne_21 (t_M_dueTo l0 l1 _ _ H) (fun v11 h10 H => ?_)
  refine wp_iadd dX11_payOne_24 ?_
  obtain ⟨q12, H⟩ := H
  refine wp_iastore q8 q12 dX11_payOne_25 ?_
  refine wp_nh (fun h13 e14 => ?_)
  replace H := H h13 e14
  refine wp_aload_n 0 rfl rfl dX11_payOne_26 ?_
  refine wp_iload_n 1 rfl rfl dX11_payOne_27 ?_
  refine WP.at 28 rfl ?_
  refine wp_cVi (M2 := M_M_dueTo) coX11 l0 q1 [xi l1] rfl lv_X11_294 mo_M_dueTo (Nat.le_of_ble_eq_true rfl) ⟨(Nat.le_of_ble_eq_true rfl), (Nat.le_of_ble_eq_true rfl)⟩ (Nat.le_of_ble_eq_true rfl) (Nat.le_of_ble_eq_true rfl) dX11_payOne_28 (t_M_dueTo l0 l1 _ _ H) (fun v16 h15 H => ?_)
  exact wp_iret trivial dX11_payOne_31 H
def p_M_pay (l0 : xN) (l1 : Int32) (h : xH) (Q : Int32 → xH → Prop) : Prop := (kd l0.1 = (1, 10)) ∧ p_M_isTicket l0 l1 h (fun (v3 : Int32) (h2 : xH) => ((¬ v3 = 0 → p_M_mayPay l0 l1 h2 (fun (v6 : Int32) (h5 : xH) => ((v6 = 0 → Q (-6 : Int32) h5) ∧ (¬ v6 = 0 → p_M_payOne l0 l1 h5 (fun (v9 : Int32) (h8 : xH) => Q v9 h8))))) ∧ (v3 = 0 → Q (-2 : Int32) h2)))
set_option maxRecDepth 100000 in
set_option maxHeartbeats 4000000 in
theorem t_M_pay (l0 : xN) (l1 : Int32) (h : xH) (Q : Int32 → xH → Prop) (H : p_M_pay l0 l1 h Q) : WP M_M_pay 0 [(0, xr l0), (1, xi l1)] [] h 0 (qi Q) := by
  unfold p_M_pay at H
  refine wp_aload_n 0 rfl rfl dX11_pay_0 ?_
  refine wp_iload_n 1 rfl rfl dX11_pay_1 ?_
  refine WP.at 2 rfl ?_
  obtain ⟨q1, H⟩ := H
  refine wp_cVi (M2 := M_M_isTicket) coX11 l0 q1 [xi l1] rfl lv_X11_291 mo_M_isTicket (Nat.le_of_ble_eq_true rfl) ⟨(Nat.le_of_ble_eq_true rfl), (Nat.le_of_ble_eq_true rfl)⟩ (Nat.le_of_ble_eq_true rfl) (Nat.le_of_ble_eq_true rfl) dX11_pay_2 (t_M_isTicket l0 l1 _ _ H) (fun v3 h2 H => ?_)
  refine WP.at 5 rfl ?_
  refine wp_if_ne 13 (by decide) dX11_pay_5 (fun c4 => ?_) (fun c4 => ?_)
  · replace H := H.1 c4
    refine wp_aload_n 0 rfl rfl dX11_pay_13 ?_
    refine wp_iload_n 1 rfl rfl dX11_pay_14 ?_
    refine WP.at 15 rfl ?_
    refine wp_cVi (M2 := M_M_mayPay) coX11 l0 q1 [xi l1] rfl lv_X11_297 mo_M_mayPay (Nat.le_of_ble_eq_true rfl) ⟨(Nat.le_of_ble_eq_true rfl), (Nat.le_of_ble_eq_true rfl)⟩ (Nat.le_of_ble_eq_true rfl) (Nat.le_of_ble_eq_true rfl) dX11_pay_15 (t_M_mayPay l0 l1 _ _ H) (fun v6 h5 H => ?_)
    refine WP.at 18 rfl ?_
    refine wp_if_eq 29 (by decide) dX11_pay_18 (fun c7 => ?_) (fun c7 => ?_)
    · replace H := H.1 c7
      refine wp_bipush (-6 : Int32) (by decide) dX11_pay_29 ?_
      exact wp_iret trivial dX11_pay_31 H
    · replace H := H.2 c7
      refine wp_aload_n 0 rfl rfl dX11_pay_21 ?_
      refine wp_iload_n 1 rfl rfl dX11_pay_22 ?_
      refine WP.at 23 rfl ?_
      refine wp_cVi (M2 := M_M_payOne) coX11 l0 q1 [xi l1] rfl lv_X11_300 mo_M_payOne (Nat.le_of_ble_eq_true rfl) ⟨(Nat.le_of_ble_eq_true rfl), (Nat.le_of_ble_eq_true rfl)⟩ (Nat.le_of_ble_eq_true rfl) (Nat.le_of_ble_eq_true rfl) dX11_pay_23 (t_M_payOne l0 l1 _ _ H) (fun v9 h8 H => ?_)
      refine WP.at 26 rfl ?_
      refine wp_goto 31 (by decide) dX11_pay_26 ?_
      exact wp_iret trivial dX11_pay_31 H
  · replace H := H.2 c4
    refine wp_bipush (-2 : Int32) (by decide) dX11_pay_8 ?_
    refine WP.at 10 rfl ?_
    refine wp_goto 31 (by decide) dX11_pay_10 ?_
    exact wp_iret trivial dX11_pay_31 H
def p_T_ticket (l0 : xN) (l1 : Int32) (l2 : Int32) (h : xH) (Q : Int32 → xH → Prop) : Prop := (kd l0.1 = (1, 9)) ∧ p_T_findTicket l0 l1 h (fun (v3 : xN) (h2 : xH) => ((¬ v3.1 = 0 → ((l2 = (0 : Int32) → (kd v3.1 = (1, 8)) ∧ (kd (hR h2 v3 0).1 = (1, 3)) ∧ Q (hI h2 (hR h2 v3 0) 0) h2) ∧ (l2 = (1 : Int32) → (kd v3.1 = (1, 8)) ∧ Q (hI h2 v3 3) h2) ∧ (l2 = (2 : Int32) → (kd v3.1 = (1, 8)) ∧ Q (hI h2 v3 4) h2) ∧ (l2 = (3 : Int32) → (kd v3.1 = (1, 8)) ∧ Q (hI h2 v3 5) h2) ∧ (l2 = (4 : Int32) → (kd v3.1 = (1, 8)) ∧ Q (hI h2 v3 2) h2) ∧ (l2 = (5 : Int32) → (kd v3.1 = (1, 8)) ∧ Q (hI h2 v3 6) h2) ∧ (l2 = (6 : Int32) → (kd v3.1 = (1, 8)) ∧ Q (hI h2 v3 1) h2) ∧ (l2 = (7 : Int32) → (kd v3.1 = (1, 8)) ∧ p_Ti_due v3 h2 (fun (v15 : Int32) (h14 : xH) => Q v15 h14)) ∧ ((∀ q ∈ ([(0 : Int32), (1 : Int32), (2 : Int32), (3 : Int32), (4 : Int32), (5 : Int32), (6 : Int32), (7 : Int32)] : List Int32), l2 ≠ q) → Q (-3 : Int32) h2))) ∧ (v3.1 = 0 → Q (-2 : Int32) h2)))
set_option maxRecDepth 100000 in
set_option maxHeartbeats 4000000 in
theorem t_T_ticket (l0 : xN) (l1 : Int32) (l2 : Int32) (h : xH) (Q : Int32 → xH → Prop) (H : p_T_ticket l0 l1 l2 h Q) : WP M_T_ticket 0 [(0, xr l0), (1, xi l1), (2, xi l2)] [] h 0 (qi Q) := by
  unfold p_T_ticket at H
  refine wp_aload_n 0 rfl rfl dX10_ticket_0 ?_
  refine wp_iload_n 1 rfl rfl dX10_ticket_1 ?_
  refine WP.at 2 rfl ?_
  obtain ⟨q1, H⟩ := H
  refine wp_cVr (M2 := M_T_findTicket) coX10 l0 q1 [xi l1] rfl lv_X10_187 mo_T_findTicket (Nat.le_of_ble_eq_true rfl) ⟨(Nat.le_of_ble_eq_true rfl), (Nat.le_of_ble_eq_true rfl)⟩ (Nat.le_of_ble_eq_true rfl) (Nat.le_of_ble_eq_true rfl) dX10_ticket_2 (t_T_findTicket l0 l1 _ _ H) (fun v3 h2 H => ?_)
  refine wp_astore_n 3 rfl (Nat.le_of_ble_eq_true rfl) dX10_ticket_5 (ls' := [(3, xr v3), (0, xr l0), (1, xi l1), (2, xi l2)]) rfl ?_
  refine wp_aload_n 3 rfl rfl dX10_ticket_6 ?_
  refine WP.at 7 rfl ?_
  refine wp_ifnonnull 13 (by decide) dX10_ticket_7 (fun c4 => ?_) (fun c4 => ?_)
  · replace H := H.1 c4
    refine wp_iload_n 2 rfl rfl dX10_ticket_13 ?_
    refine WP.at 14 rfl ?_
    refine wp_tsw dX10_ticket_14 [((0 : Int32), 60), ((1 : Int32), 68), ((2 : Int32), 73), ((3 : Int32), 78), ((4 : Int32), 83), ((5 : Int32), 88), ((6 : Int32), 93), ((7 : Int32), 98)] 103 (by decide) (by decide +kernel) (by decide +kernel) ?_ ?_
    · refine List.forall_mem_cons.mpr ⟨fun c0 => ?_, List.forall_mem_cons.mpr ⟨fun c0 => ?_, List.forall_mem_cons.mpr ⟨fun c0 => ?_, List.forall_mem_cons.mpr ⟨fun c0 => ?_, List.forall_mem_cons.mpr ⟨fun c0 => ?_, List.forall_mem_cons.mpr ⟨fun c0 => ?_, List.forall_mem_cons.mpr ⟨fun c0 => ?_, List.forall_mem_cons.mpr ⟨fun c0 => ?_, fun _ z => absurd z List.not_mem_nil⟩⟩⟩⟩⟩⟩⟩⟩
      · replace H := H.1 c0
        refine wp_aload_n 3 rfl rfl dX10_ticket_60 ?_
        obtain ⟨q5, H⟩ := H
        refine wp_getr coX9 0 (Nat.le_of_ble_eq_true rfl) fl_X10_191 rfl q5 dX10_ticket_61 ?_
        obtain ⟨q6, H⟩ := H
        refine wp_geti coX4 0 (Nat.le_of_ble_eq_true rfl) fl_X10_209 rfl q6 dX10_ticket_64 ?_
        exact wp_iret trivial dX10_ticket_67 H
      · replace H := H.2.1 c0
        refine wp_aload_n 3 rfl rfl dX10_ticket_68 ?_
        obtain ⟨q7, H⟩ := H
        refine wp_geti coX9 3 (Nat.le_of_ble_eq_true rfl) fl_X10_212 rfl q7 dX10_ticket_69 ?_
        exact wp_iret trivial dX10_ticket_72 H
      · replace H := H.2.2.1 c0
        refine wp_aload_n 3 rfl rfl dX10_ticket_73 ?_
        obtain ⟨q8, H⟩ := H
        refine wp_geti coX9 4 (Nat.le_of_ble_eq_true rfl) fl_X10_215 rfl q8 dX10_ticket_74 ?_
        exact wp_iret trivial dX10_ticket_77 H
      · replace H := H.2.2.2.1 c0
        refine wp_aload_n 3 rfl rfl dX10_ticket_78 ?_
        obtain ⟨q9, H⟩ := H
        refine wp_geti coX9 5 (Nat.le_of_ble_eq_true rfl) fl_X10_218 rfl q9 dX10_ticket_79 ?_
        exact wp_iret trivial dX10_ticket_82 H
      · replace H := H.2.2.2.2.1 c0
        refine wp_aload_n 3 rfl rfl dX10_ticket_83 ?_
        obtain ⟨q10, H⟩ := H
        refine wp_geti coX9 2 (Nat.le_of_ble_eq_true rfl) fl_X10_221 rfl q10 dX10_ticket_84 ?_
        exact wp_iret trivial dX10_ticket_87 H
      · replace H := H.2.2.2.2.2.1 c0
        refine wp_aload_n 3 rfl rfl dX10_ticket_88 ?_
        obtain ⟨q11, H⟩ := H
        refine wp_geti coX9 6 (Nat.le_of_ble_eq_true rfl) fl_X10_107 rfl q11 dX10_ticket_89 ?_
        exact wp_iret trivial dX10_ticket_92 H
      · replace H := H.2.2.2.2.2.2.1 c0
        refine wp_aload_n 3 rfl rfl dX10_ticket_93 ?_
        obtain ⟨q12, H⟩ := H
        refine wp_geti coX9 1 (Nat.le_of_ble_eq_true rfl) fl_X10_224 rfl q12 dX10_ticket_94 ?_
        exact wp_iret trivial dX10_ticket_97 H
      · replace H := H.2.2.2.2.2.2.2.1 c0
        refine wp_aload_n 3 rfl rfl dX10_ticket_98 ?_
        refine WP.at 99 rfl ?_
        obtain ⟨q13, H⟩ := H
        refine wp_cVi (M2 := M_Ti_due) coX9 v3 q13 [] rfl lv_X10_227 mo_Ti_due (Nat.le_of_ble_eq_true rfl) ⟨(Nat.le_of_ble_eq_true rfl), (Nat.le_of_ble_eq_true rfl)⟩ (Nat.le_of_ble_eq_true rfl) (Nat.le_of_ble_eq_true rfl) dX10_ticket_99 (t_Ti_due v3 _ _ H) (fun v15 h14 H => ?_)
        exact wp_iret trivial dX10_ticket_102 H
    · intro c0
      replace H := H.2.2.2.2.2.2.2.2 c0
      refine wp_bipush (-3 : Int32) (by decide) dX10_ticket_103 ?_
      exact wp_iret trivial dX10_ticket_105 H
  · replace H := H.2 c4
    refine wp_bipush (-2 : Int32) (by decide) dX10_ticket_10 ?_
    exact wp_iret trivial dX10_ticket_12 H
def p_M_ticket (l0 : xN) (l1 : Int32) (l2 : Int32) (h : xH) (Q : Int32 → xH → Prop) : Prop := (kd l0.1 = (1, 10)) ∧ p_M_isTicket l0 l1 h (fun (v3 : Int32) (h2 : xH) => ((¬ v3 = 0 → ((l2 = (0 : Int32) → (kd (hR h2 l0 24).1 = (2, 0)) ∧ (vp_in l1 (hS h2 (hR h2 l0 24) - 1)) ∧ Q (hI h2 (hR h2 l0 24) l1.toNatClampNeg) h2) ∧ (l2 = (1 : Int32) → (kd (hR h2 l0 25).1 = (2, 0)) ∧ (vp_in l1 (hS h2 (hR h2 l0 25) - 1)) ∧ Q (hI h2 (hR h2 l0 25) l1.toNatClampNeg) h2) ∧ (l2 = (2 : Int32) → (kd (hR h2 l0 26).1 = (2, 0)) ∧ (vp_in l1 (hS h2 (hR h2 l0 26) - 1)) ∧ Q (hI h2 (hR h2 l0 26) l1.toNatClampNeg) h2) ∧ (l2 = (3 : Int32) → (kd (hR h2 l0 27).1 = (2, 0)) ∧ (vp_in l1 (hS h2 (hR h2 l0 27) - 1)) ∧ Q (hI h2 (hR h2 l0 27) l1.toNatClampNeg) h2) ∧ (l2 = (4 : Int32) → (kd (hR h2 l0 28).1 = (2, 0)) ∧ (vp_in l1 (hS h2 (hR h2 l0 28) - 1)) ∧ Q (hI h2 (hR h2 l0 28) l1.toNatClampNeg) h2) ∧ (l2 = (5 : Int32) → (kd (hR h2 l0 29).1 = (2, 0)) ∧ (vp_in l1 (hS h2 (hR h2 l0 29) - 1)) ∧ Q (hI h2 (hR h2 l0 29) l1.toNatClampNeg) h2) ∧ (l2 = (6 : Int32) → (kd (hR h2 l0 30).1 = (2, 0)) ∧ (vp_in l1 (hS h2 (hR h2 l0 30) - 1)) ∧ Q (hI h2 (hR h2 l0 30) l1.toNatClampNeg) h2) ∧ (l2 = (7 : Int32) → p_M_dueTo l0 l1 h2 (fun (v20 : Int32) (h19 : xH) => Q v20 h19)) ∧ ((∀ q ∈ ([(0 : Int32), (1 : Int32), (2 : Int32), (3 : Int32), (4 : Int32), (5 : Int32), (6 : Int32), (7 : Int32)] : List Int32), l2 ≠ q) → Q (-3 : Int32) h2))) ∧ (v3 = 0 → Q (-2 : Int32) h2)))
set_option maxRecDepth 100000 in
set_option maxHeartbeats 4000000 in
theorem t_M_ticket (l0 : xN) (l1 : Int32) (l2 : Int32) (h : xH) (Q : Int32 → xH → Prop) (H : p_M_ticket l0 l1 l2 h Q) : WP M_M_ticket 0 [(0, xr l0), (1, xi l1), (2, xi l2)] [] h 0 (qi Q) := by
  unfold p_M_ticket at H
  refine wp_aload_n 0 rfl rfl dX11_ticket_0 ?_
  refine wp_iload_n 1 rfl rfl dX11_ticket_1 ?_
  refine WP.at 2 rfl ?_
  obtain ⟨q1, H⟩ := H
  refine wp_cVi (M2 := M_M_isTicket) coX11 l0 q1 [xi l1] rfl lv_X11_291 mo_M_isTicket (Nat.le_of_ble_eq_true rfl) ⟨(Nat.le_of_ble_eq_true rfl), (Nat.le_of_ble_eq_true rfl)⟩ (Nat.le_of_ble_eq_true rfl) (Nat.le_of_ble_eq_true rfl) dX11_ticket_2 (t_M_isTicket l0 l1 _ _ H) (fun v3 h2 H => ?_)
  refine WP.at 5 rfl ?_
  refine wp_if_ne 11 (by decide) dX11_ticket_5 (fun c4 => ?_) (fun c4 => ?_)
  · replace H := H.1 c4
    refine wp_iload_n 2 rfl rfl dX11_ticket_11 ?_
    refine WP.at 12 rfl ?_
    refine wp_tsw dX11_ticket_12 [((0 : Int32), 60), ((1 : Int32), 67), ((2 : Int32), 74), ((3 : Int32), 81), ((4 : Int32), 88), ((5 : Int32), 95), ((6 : Int32), 102), ((7 : Int32), 109)] 115 (by decide) (by decide +kernel) (by decide +kernel) ?_ ?_
    · refine List.forall_mem_cons.mpr ⟨fun c0 => ?_, List.forall_mem_cons.mpr ⟨fun c0 => ?_, List.forall_mem_cons.mpr ⟨fun c0 => ?_, List.forall_mem_cons.mpr ⟨fun c0 => ?_, List.forall_mem_cons.mpr ⟨fun c0 => ?_, List.forall_mem_cons.mpr ⟨fun c0 => ?_, List.forall_mem_cons.mpr ⟨fun c0 => ?_, List.forall_mem_cons.mpr ⟨fun c0 => ?_, fun _ z => absurd z List.not_mem_nil⟩⟩⟩⟩⟩⟩⟩⟩
      · replace H := H.1 c0
        refine wp_aload_n 0 rfl rfl dX11_ticket_60 ?_
        refine wp_getr coX11 24 (Nat.le_of_ble_eq_true rfl) fl_X11_68 rfl q1 dX11_ticket_61 ?_
        refine wp_iload_n 1 rfl rfl dX11_ticket_64 ?_
        obtain ⟨q5, H⟩ := H
        obtain ⟨q6, H⟩ := H
        refine wp_iaload q5 q6 dX11_ticket_65 ?_
        exact wp_iret trivial dX11_ticket_66 H
      · replace H := H.2.1 c0
        refine wp_aload_n 0 rfl rfl dX11_ticket_67 ?_
        refine wp_getr coX11 25 (Nat.le_of_ble_eq_true rfl) fl_X11_71 rfl q1 dX11_ticket_68 ?_
        refine wp_iload_n 1 rfl rfl dX11_ticket_71 ?_
        obtain ⟨q7, H⟩ := H
        obtain ⟨q8, H⟩ := H
        refine wp_iaload q7 q8 dX11_ticket_72 ?_
        exact wp_iret trivial dX11_ticket_73 H
      · replace H := H.2.2.1 c0
        refine wp_aload_n 0 rfl rfl dX11_ticket_74 ?_
        refine wp_getr coX11 26 (Nat.le_of_ble_eq_true rfl) fl_X11_74 rfl q1 dX11_ticket_75 ?_
        refine wp_iload_n 1 rfl rfl dX11_ticket_78 ?_
        obtain ⟨q9, H⟩ := H
        obtain ⟨q10, H⟩ := H
        refine wp_iaload q9 q10 dX11_ticket_79 ?_
        exact wp_iret trivial dX11_ticket_80 H
      · replace H := H.2.2.2.1 c0
        refine wp_aload_n 0 rfl rfl dX11_ticket_81 ?_
        refine wp_getr coX11 27 (Nat.le_of_ble_eq_true rfl) fl_X11_77 rfl q1 dX11_ticket_82 ?_
        refine wp_iload_n 1 rfl rfl dX11_ticket_85 ?_
        obtain ⟨q11, H⟩ := H
        obtain ⟨q12, H⟩ := H
        refine wp_iaload q11 q12 dX11_ticket_86 ?_
        exact wp_iret trivial dX11_ticket_87 H
      · replace H := H.2.2.2.2.1 c0
        refine wp_aload_n 0 rfl rfl dX11_ticket_88 ?_
        refine wp_getr coX11 28 (Nat.le_of_ble_eq_true rfl) fl_X11_80 rfl q1 dX11_ticket_89 ?_
        refine wp_iload_n 1 rfl rfl dX11_ticket_92 ?_
        obtain ⟨q13, H⟩ := H
        obtain ⟨q14, H⟩ := H
        refine wp_iaload q13 q14 dX11_ticket_93 ?_
        exact wp_iret trivial dX11_ticket_94 H
      · replace H := H.2.2.2.2.2.1 c0
        refine wp_aload_n 0 rfl rfl dX11_ticket_95 ?_
        refine wp_getr coX11 29 (Nat.le_of_ble_eq_true rfl) fl_X11_83 rfl q1 dX11_ticket_96 ?_
        refine wp_iload_n 1 rfl rfl dX11_ticket_99 ?_
        obtain ⟨q15, H⟩ := H
        obtain ⟨q16, H⟩ := H
        refine wp_iaload q15 q16 dX11_ticket_100 ?_
        exact wp_iret trivial dX11_ticket_101 H
      · replace H := H.2.2.2.2.2.2.1 c0
        refine wp_aload_n 0 rfl rfl dX11_ticket_102 ?_
        refine wp_getr coX11 30 (Nat.le_of_ble_eq_true rfl) fl_X11_86 rfl q1 dX11_ticket_103 ?_
        refine wp_iload_n 1 rfl rfl dX11_ticket_106 ?_
        obtain ⟨q17, H⟩ := H
        obtain ⟨q18, H⟩ := H
        refine wp_iaload q17 q18 dX11_ticket_107 ?_
        exact wp_iret trivial dX11_ticket_108 H
      · replace H := H.2.2.2.2.2.2.2.1 c0
        refine wp_aload_n 0 rfl rfl dX11_ticket_109 ?_
        refine wp_iload_n 1 rfl rfl dX11_ticket_110 ?_
        refine WP.at 111 rfl ?_
        refine wp_cVi (M2 := M_M_dueTo) coX11 l0 q1 [xi l1] rfl lv_X11_294 mo_M_dueTo (Nat.le_of_ble_eq_true rfl) ⟨(Nat.le_of_ble_eq_true rfl), (Nat.le_of_ble_eq_true rfl)⟩ (Nat.le_of_ble_eq_true rfl) (Nat.le_of_ble_eq_true rfl) dX11_ticket_111 (t_M_dueTo l0 l1 _ _ H) (fun v20 h19 H => ?_)
        exact wp_iret trivial dX11_ticket_114 H
    · intro c0
      replace H := H.2.2.2.2.2.2.2.2 c0
      refine wp_bipush (-3 : Int32) (by decide) dX11_ticket_115 ?_
      exact wp_iret trivial dX11_ticket_117 H
  · replace H := H.2 c4
    refine wp_bipush (-2 : Int32) (by decide) dX11_ticket_8 ?_
    exact wp_iret trivial dX11_ticket_10 H
def p_T_units (l0 : xN) (l1 : Int32) (l2 : Int32) (l3 : Int32) (l4 : Int32) (h : xH) (Q : Int32 → xH → Prop) : Prop := (kd l0.1 = (1, 9)) ∧ p_T_findPool l0 l1 h (fun (v3 : xN) (h2 : xH) => ((¬ v3.1 = 0 → (kd v3.1 = (1, 3)) ∧ p_Po_refuseLine v3 l2 l3 l4 h2 (fun (v7 : Int32) (h6 : xH) => ((v7 = 0 → p_Po_lineOf v3 l2 l3 l4 h6 (fun (v10 : Int32) (h9 : xH) => (kd (hR h6 v3 6).1 = (2, 0)) ∧ (vp_in v10 (hS h9 (hR h6 v3 6) - 1)) ∧ Q (hI h9 (hR h6 v3 6) v10.toNatClampNeg) h9)) ∧ (¬ v7 = 0 → Q v7 h6)))) ∧ (v3.1 = 0 → Q (-2 : Int32) h2)))
set_option maxRecDepth 100000 in
set_option maxHeartbeats 4000000 in
theorem t_T_units (l0 : xN) (l1 : Int32) (l2 : Int32) (l3 : Int32) (l4 : Int32) (h : xH) (Q : Int32 → xH → Prop) (H : p_T_units l0 l1 l2 l3 l4 h Q) : WP M_T_units 0 [(0, xr l0), (1, xi l1), (2, xi l2), (3, xi l3), (4, xi l4)] [] h 0 (qi Q) := by
  unfold p_T_units at H
  refine wp_aload_n 0 rfl rfl dX10_units_0 ?_
  refine wp_iload_n 1 rfl rfl dX10_units_1 ?_
  refine WP.at 2 rfl ?_
  obtain ⟨q1, H⟩ := H
  refine wp_cVr (M2 := M_T_findPool) coX10 l0 q1 [xi l1] rfl lv_X10_158 mo_T_findPool (Nat.le_of_ble_eq_true rfl) ⟨(Nat.le_of_ble_eq_true rfl), (Nat.le_of_ble_eq_true rfl)⟩ (Nat.le_of_ble_eq_true rfl) (Nat.le_of_ble_eq_true rfl) dX10_units_2 (t_T_findPool l0 l1 _ _ H) (fun v3 h2 H => ?_)
  refine wp_astore (Nat.le_of_ble_eq_true rfl) dX10_units_5 (ls' := [(5, xr v3), (0, xr l0), (1, xi l1), (2, xi l2), (3, xi l3), (4, xi l4)]) rfl ?_
  refine wp_aload rfl dX10_units_7 ?_
  refine WP.at 9 rfl ?_
  refine wp_ifnonnull 15 (by decide) dX10_units_9 (fun c4 => ?_) (fun c4 => ?_)
  · replace H := H.1 c4
    refine wp_aload rfl dX10_units_15 ?_
    refine wp_iload_n 2 rfl rfl dX10_units_17 ?_
    refine wp_iload_n 3 rfl rfl dX10_units_18 ?_
    refine wp_iload rfl dX10_units_19 ?_
    refine WP.at 21 rfl ?_
    obtain ⟨q5, H⟩ := H
    refine wp_cVi (M2 := M_Po_refuseLine) coX4 v3 q5 [xi l2, xi l3, xi l4] rfl lv_X10_165 mo_Po_refuseLine (Nat.le_of_ble_eq_true rfl) ⟨(Nat.le_of_ble_eq_true rfl), (Nat.le_of_ble_eq_true rfl)⟩ (Nat.le_of_ble_eq_true rfl) (Nat.le_of_ble_eq_true rfl) dX10_units_21 (t_Po_refuseLine v3 l2 l3 l4 _ _ H) (fun v7 h6 H => ?_)
    refine wp_istore (Nat.le_of_ble_eq_true rfl) dX10_units_24 (ls' := [(6, xi v7), (5, xr v3), (0, xr l0), (1, xi l1), (2, xi l2), (3, xi l3), (4, xi l4)]) rfl ?_
    refine wp_iload rfl dX10_units_26 ?_
    refine WP.at 28 rfl ?_
    refine WP.at 28 rfl ?_
    refine wp_if_eq 36 (by decide) dX10_units_28 (fun c8 => ?_) (fun c8 => ?_)
    · replace H := H.1 c8
      refine wp_aload rfl dX10_units_36 ?_
      refine wp_getr coX4 6 (Nat.le_of_ble_eq_true rfl) fl_X10_230 rfl q5 dX10_units_38 ?_
      refine wp_aload rfl dX10_units_41 ?_
      refine wp_iload_n 2 rfl rfl dX10_units_43 ?_
      refine wp_iload_n 3 rfl rfl dX10_units_44 ?_
      refine wp_iload rfl dX10_units_45 ?_
      refine WP.at 47 rfl ?_
      refine wp_cVi (M2 := M_Po_lineOf) coX4 v3 q5 [xi l2, xi l3, xi l4] rfl lv_X10_233 mo_Po_lineOf (Nat.le_of_ble_eq_true rfl) ⟨(Nat.le_of_ble_eq_true rfl), (Nat.le_of_ble_eq_true rfl)⟩ (Nat.le_of_ble_eq_true rfl) (Nat.le_of_ble_eq_true rfl) dX10_units_47 (t_Po_lineOf v3 l2 l3 l4 _ _ H) (fun v10 h9 H => ?_)
      refine WP.at 50 rfl ?_
      obtain ⟨q11, H⟩ := H
      obtain ⟨q12, H⟩ := H
      refine wp_iaload q11 q12 dX10_units_50 ?_
      exact wp_iret trivial dX10_units_51 H
    · replace H := H.2 c8
      refine wp_iload rfl dX10_units_31 ?_
      refine WP.at 33 rfl ?_
      refine wp_goto 51 (by decide) dX10_units_33 ?_
      exact wp_iret trivial dX10_units_51 H
  · replace H := H.2 c4
    refine wp_bipush (-2 : Int32) (by decide) dX10_units_12 ?_
    exact wp_iret trivial dX10_units_14 H
def p_M_isFor_j73 (s0 : Int32) (l0 : xN) (l1 : Int32) (l2 : Int32) (l6 : Int32) (h : xH) (Q : Int32 → xH → Prop) : Prop := (kd l0.1 = (1, 10)) ∧ (kd (hR h l0 24).1 = (2, 0)) ∧ (vp_in l1 (hS h (hR h l0 24) - 1)) ∧ ((¬ (hI h (hR h l0 24) l1.toNatClampNeg) = l2 → Q (0 : Int32) h) ∧ ((hI h (hR h l0 24) l1.toNatClampNeg) = l2 → ((¬ l6 = 0 → Q (1 : Int32) h) ∧ (l6 = 0 → ((s0 = 0 → Q (0 : Int32) h) ∧ (¬ s0 = 0 → Q (1 : Int32) h))))))
set_option maxRecDepth 100000 in
set_option maxHeartbeats 4000000 in
theorem t_M_isFor_j73 (s0 : Int32) (l0 : xN) (l1 : Int32) (l2 : Int32) (l6 : Int32) (h : xH) (Q : Int32 → xH → Prop) (H : p_M_isFor_j73 s0 l0 l1 l2 l6 h Q) : WP M_M_isFor 73 [(0, xr l0), (1, xi l1), (2, xi l2), (6, xi l6)] [xi s0] h 0 (qi Q) := by
  unfold p_M_isFor_j73 at H
  refine wp_istore (Nat.le_of_ble_eq_true rfl) dX11_isFor_73 (ls' := [(7, xi s0), (0, xr l0), (1, xi l1), (2, xi l2), (6, xi l6)]) rfl ?_
  refine wp_aload_n 0 rfl rfl dX11_isFor_75 ?_
  obtain ⟨q8, H⟩ := H
  refine wp_getr coX11 24 (Nat.le_of_ble_eq_true rfl) fl_X11_68 rfl q8 dX11_isFor_76 ?_
  refine wp_iload_n 1 rfl rfl dX11_isFor_79 ?_
  obtain ⟨q9, H⟩ := H
  obtain ⟨q10, H⟩ := H
  refine wp_iaload q9 q10 dX11_isFor_80 ?_
  refine wp_iload_n 2 rfl rfl dX11_isFor_81 ?_
  refine WP.at 82 rfl ?_
  refine wp_icmp_ne 99 (by decide) dX11_isFor_82 (fun c11 => ?_) (fun c11 => ?_)
  · replace H := H.1 c11
    refine wp_iconst (0 : Int32) (by decide) dX11_isFor_99 ?_
    exact wp_iret (Or.inl rfl) dX11_isFor_100 H
  · replace H := H.2 c11
    refine wp_iload rfl dX11_isFor_85 ?_
    refine WP.at 87 rfl ?_
    refine wp_if_ne 95 (by decide) dX11_isFor_87 (fun c12 => ?_) (fun c12 => ?_)
    · replace H := H.1 c12
      refine wp_iconst (1 : Int32) (by decide) dX11_isFor_95 ?_
      refine WP.at 96 rfl ?_
      refine wp_goto 100 (by decide) dX11_isFor_96 ?_
      exact wp_iret (Or.inr rfl) dX11_isFor_100 H
    · replace H := H.2 c12
      refine wp_iload rfl dX11_isFor_90 ?_
      refine WP.at 92 rfl ?_
      refine wp_if_eq 99 (by decide) dX11_isFor_92 (fun c13 => ?_) (fun c13 => ?_)
      · replace H := H.1 c13
        refine wp_iconst (0 : Int32) (by decide) dX11_isFor_99 ?_
        exact wp_iret (Or.inl rfl) dX11_isFor_100 H
      · replace H := H.2 c13
        refine wp_iconst (1 : Int32) (by decide) dX11_isFor_95 ?_
        refine WP.at 96 rfl ?_
        refine wp_goto 100 (by decide) dX11_isFor_96 ?_
        exact wp_iret (Or.inr rfl) dX11_isFor_100 H
def p_M_isFor_j37 (s0 : Int32) (l0 : xN) (l1 : Int32) (l2 : Int32) (l3 : Int32) (l4 : Int32) (h : xH) (Q : Int32 → xH → Prop) : Prop := p_M_kindOf l2 h (fun (v6 : Int32) (h5 : xH) => ((¬ v6 = (2 : Int32) → p_M_isFor_j73 (0 : Int32) l0 l1 l2 s0 h5 Q) ∧ (v6 = (2 : Int32) → (kd l0.1 = (1, 10)) ∧ (kd (hR h5 l0 25).1 = (2, 0)) ∧ (vp_in l1 (hS h5 (hR h5 l0 25) - 1)) ∧ ((¬ (hI h5 (hR h5 l0 25) l1.toNatClampNeg) = l4 → p_M_isFor_j73 (0 : Int32) l0 l1 l2 s0 h5 Q) ∧ ((hI h5 (hR h5 l0 25) l1.toNatClampNeg) = l4 → (kd (hR h5 l0 26).1 = (2, 0)) ∧ (vp_in l1 (hS h5 (hR h5 l0 26) - 1)) ∧ ((¬ (hI h5 (hR h5 l0 26) l1.toNatClampNeg) = l3 → p_M_isFor_j73 (0 : Int32) l0 l1 l2 s0 h5 Q) ∧ ((hI h5 (hR h5 l0 26) l1.toNatClampNeg) = l3 → p_M_isFor_j73 (1 : Int32) l0 l1 l2 s0 h5 Q)))))))
set_option maxRecDepth 100000 in
set_option maxHeartbeats 4000000 in
theorem t_M_isFor_j37 (s0 : Int32) (l0 : xN) (l1 : Int32) (l2 : Int32) (l3 : Int32) (l4 : Int32) (h : xH) (Q : Int32 → xH → Prop) (H : p_M_isFor_j37 s0 l0 l1 l2 l3 l4 h Q) : WP M_M_isFor 37 [(0, xr l0), (1, xi l1), (2, xi l2), (3, xi l3), (4, xi l4)] [xi s0] h 0 (qi Q) := by
  unfold p_M_isFor_j37 at H
  refine wp_istore (Nat.le_of_ble_eq_true rfl) dX11_isFor_37 (ls' := [(6, xi s0), (0, xr l0), (1, xi l1), (2, xi l2), (3, xi l3), (4, xi l4)]) rfl ?_
  refine wp_iload_n 2 rfl rfl dX11_isFor_39 ?_
  refine WP.at 40 rfl ?_
  refine wp_cSi (M2 := M_M_kindOf) [xi l2] rfl ls_X11_218 mo_M_kindOf (Nat.le_of_ble_eq_true rfl) ⟨(Nat.le_of_ble_eq_true rfl), (Nat.le_of_ble_eq_true rfl)⟩ (Nat.le_of_ble_eq_true rfl) (Nat.le_of_ble_eq_true rfl) dX11_isFor_40 (t_M_kindOf l2 _ _ H) (fun v6 h5 H => ?_)
  refine wp_iconst (2 : Int32) (by decide) dX11_isFor_43 ?_
  refine WP.at 44 rfl ?_
  refine wp_icmp_ne 72 (by decide) dX11_isFor_44 (fun c7 => ?_) (fun c7 => ?_)
  · replace H := H.1 c7
    refine wp_iconst (0 : Int32) (by decide) dX11_isFor_72 ?_
    refine WP.at 73 rfl ?_
    exact WP.pick [1, 2, 3, 0] rfl (t_M_isFor_j73 (0 : Int32) l0 l1 l2 s0 _ _ H)
  · replace H := H.2 c7
    refine wp_aload_n 0 rfl rfl dX11_isFor_47 ?_
    obtain ⟨q14, H⟩ := H
    refine wp_getr coX11 25 (Nat.le_of_ble_eq_true rfl) fl_X11_71 rfl q14 dX11_isFor_48 ?_
    refine wp_iload_n 1 rfl rfl dX11_isFor_51 ?_
    obtain ⟨q15, H⟩ := H
    obtain ⟨q16, H⟩ := H
    refine wp_iaload q15 q16 dX11_isFor_52 ?_
    refine wp_iload rfl dX11_isFor_53 ?_
    refine WP.at 55 rfl ?_
    refine wp_icmp_ne 72 (by decide) dX11_isFor_55 (fun c17 => ?_) (fun c17 => ?_)
    · replace H := H.1 c17
      refine wp_iconst (0 : Int32) (by decide) dX11_isFor_72 ?_
      refine WP.at 73 rfl ?_
      exact WP.pick [1, 2, 3, 0] rfl (t_M_isFor_j73 (0 : Int32) l0 l1 l2 s0 _ _ H)
    · replace H := H.2 c17
      refine wp_aload_n 0 rfl rfl dX11_isFor_58 ?_
      refine wp_getr coX11 26 (Nat.le_of_ble_eq_true rfl) fl_X11_74 rfl q14 dX11_isFor_59 ?_
      refine wp_iload_n 1 rfl rfl dX11_isFor_62 ?_
      obtain ⟨q18, H⟩ := H
      obtain ⟨q19, H⟩ := H
      refine wp_iaload q18 q19 dX11_isFor_63 ?_
      refine wp_iload_n 3 rfl rfl dX11_isFor_64 ?_
      refine WP.at 65 rfl ?_
      refine wp_icmp_ne 72 (by decide) dX11_isFor_65 (fun c20 => ?_) (fun c20 => ?_)
      · replace H := H.1 c20
        refine wp_iconst (0 : Int32) (by decide) dX11_isFor_72 ?_
        refine WP.at 73 rfl ?_
        exact WP.pick [1, 2, 3, 0] rfl (t_M_isFor_j73 (0 : Int32) l0 l1 l2 s0 _ _ H)
      · replace H := H.2 c20
        refine wp_iconst (1 : Int32) (by decide) dX11_isFor_68 ?_
        refine WP.at 69 rfl ?_
        refine wp_goto 73 (by decide) dX11_isFor_69 ?_
        exact WP.pick [1, 2, 3, 0] rfl (t_M_isFor_j73 (1 : Int32) l0 l1 l2 s0 _ _ H)
def p_M_isFor (l0 : xN) (l1 : Int32) (l2 : Int32) (l3 : Int32) (l4 : Int32) (l5 : Int32) (h : xH) (Q : Int32 → xH → Prop) : Prop := (kd l0.1 = (1, 10)) ∧ (kd (hR h l0 25).1 = (2, 0)) ∧ (vp_in l1 (hS h (hR h l0 25) - 1)) ∧ ((¬ (hI h (hR h l0 25) l1.toNatClampNeg) = l3 → p_M_isFor_j37 (0 : Int32) l0 l1 l2 l3 l4 h Q) ∧ ((hI h (hR h l0 25) l1.toNatClampNeg) = l3 → (kd (hR h l0 26).1 = (2, 0)) ∧ (vp_in l1 (hS h (hR h l0 26) - 1)) ∧ ((¬ (hI h (hR h l0 26) l1.toNatClampNeg) = l4 → p_M_isFor_j37 (0 : Int32) l0 l1 l2 l3 l4 h Q) ∧ ((hI h (hR h l0 26) l1.toNatClampNeg) = l4 → (kd (hR h l0 27).1 = (2, 0)) ∧ (vp_in l1 (hS h (hR h l0 27) - 1)) ∧ ((¬ (hI h (hR h l0 27) l1.toNatClampNeg) = l5 → p_M_isFor_j37 (0 : Int32) l0 l1 l2 l3 l4 h Q) ∧ ((hI h (hR h l0 27) l1.toNatClampNeg) = l5 → p_M_isFor_j37 (1 : Int32) l0 l1 l2 l3 l4 h Q))))))
set_option maxRecDepth 100000 in
set_option maxHeartbeats 4000000 in
theorem t_M_isFor (l0 : xN) (l1 : Int32) (l2 : Int32) (l3 : Int32) (l4 : Int32) (l5 : Int32) (h : xH) (Q : Int32 → xH → Prop) (H : p_M_isFor l0 l1 l2 l3 l4 l5 h Q) : WP M_M_isFor 0 [(0, xr l0), (1, xi l1), (2, xi l2), (3, xi l3), (4, xi l4), (5, xi l5)] [] h 0 (qi Q) := by
  unfold p_M_isFor at H
  refine wp_aload_n 0 rfl rfl dX11_isFor_0 ?_
  obtain ⟨q1, H⟩ := H
  refine wp_getr coX11 25 (Nat.le_of_ble_eq_true rfl) fl_X11_71 rfl q1 dX11_isFor_1 ?_
  refine wp_iload_n 1 rfl rfl dX11_isFor_4 ?_
  obtain ⟨q2, H⟩ := H
  obtain ⟨q3, H⟩ := H
  refine wp_iaload q2 q3 dX11_isFor_5 ?_
  refine wp_iload_n 3 rfl rfl dX11_isFor_6 ?_
  refine WP.at 7 rfl ?_
  refine wp_icmp_ne 36 (by decide) dX11_isFor_7 (fun c4 => ?_) (fun c4 => ?_)
  · replace H := H.1 c4
    refine wp_iconst (0 : Int32) (by decide) dX11_isFor_36 ?_
    refine WP.at 37 rfl ?_
    exact WP.pick [0, 1, 2, 3, 4] rfl (t_M_isFor_j37 (0 : Int32) l0 l1 l2 l3 l4 _ _ H)
  · replace H := H.2 c4
    refine wp_aload_n 0 rfl rfl dX11_isFor_10 ?_
    refine wp_getr coX11 26 (Nat.le_of_ble_eq_true rfl) fl_X11_74 rfl q1 dX11_isFor_11 ?_
    refine wp_iload_n 1 rfl rfl dX11_isFor_14 ?_
    obtain ⟨q21, H⟩ := H
    obtain ⟨q22, H⟩ := H
    refine wp_iaload q21 q22 dX11_isFor_15 ?_
    refine wp_iload rfl dX11_isFor_16 ?_
    refine WP.at 18 rfl ?_
    refine wp_icmp_ne 36 (by decide) dX11_isFor_18 (fun c23 => ?_) (fun c23 => ?_)
    · replace H := H.1 c23
      refine wp_iconst (0 : Int32) (by decide) dX11_isFor_36 ?_
      refine WP.at 37 rfl ?_
      exact WP.pick [0, 1, 2, 3, 4] rfl (t_M_isFor_j37 (0 : Int32) l0 l1 l2 l3 l4 _ _ H)
    · replace H := H.2 c23
      refine wp_aload_n 0 rfl rfl dX11_isFor_21 ?_
      refine wp_getr coX11 27 (Nat.le_of_ble_eq_true rfl) fl_X11_77 rfl q1 dX11_isFor_22 ?_
      refine wp_iload_n 1 rfl rfl dX11_isFor_25 ?_
      obtain ⟨q24, H⟩ := H
      obtain ⟨q25, H⟩ := H
      refine wp_iaload q24 q25 dX11_isFor_26 ?_
      refine wp_iload rfl dX11_isFor_27 ?_
      refine WP.at 29 rfl ?_
      refine wp_icmp_ne 36 (by decide) dX11_isFor_29 (fun c26 => ?_) (fun c26 => ?_)
      · replace H := H.1 c26
        refine wp_iconst (0 : Int32) (by decide) dX11_isFor_36 ?_
        refine WP.at 37 rfl ?_
        exact WP.pick [0, 1, 2, 3, 4] rfl (t_M_isFor_j37 (0 : Int32) l0 l1 l2 l3 l4 _ _ H)
      · replace H := H.2 c26
        refine wp_iconst (1 : Int32) (by decide) dX11_isFor_32 ?_
        refine WP.at 33 rfl ?_
        refine wp_goto 37 (by decide) dX11_isFor_33 ?_
        exact WP.pick [0, 1, 2, 3, 4] rfl (t_M_isFor_j37 (1 : Int32) l0 l1 l2 l3 l4 _ _ H)
def p_M_units_L36 (l0 : xN) (l1 : Int32) (l2 : Int32) (l3 : Int32) (l4 : Int32) (K36_91 : Int32 → xH → Prop) (Q : Int32 → xH → Prop) : Nat → Int32 → Int32 → xH → Prop
  | 0, _, _, _ => False
  | f + 1, l6, l7, h => (kd l0.1 = (1, 10)) ∧ (((hI h l0 23) ≤ l7 → K36_91 l6 h) ∧ (¬ (hI h l0 23) ≤ l7 → (kd (hR h l0 29).1 = (2, 0)) ∧ (vp_in l7 (hS h (hR h l0 29) - 1)) ∧ ((¬ (hI h (hR h l0 29) l7.toNatClampNeg) = 0 → ∀ v13 : Int32, v13 = l6 + (0 : Int32) → ∀ v15 : Int32, v15 = l7 + (1 : Int32) → (p_M_units_L36 l0 l1 l2 l3 l4 K36_91 Q f) v13 v15 h) ∧ ((hI h (hR h l0 29) l7.toNatClampNeg) = 0 → p_M_isFor l0 l7 l1 l2 l3 l4 h (fun (v18 : Int32) (h17 : xH) => ((v18 = 0 → ∀ v20 : Int32, v20 = l6 + (0 : Int32) → ∀ v22 : Int32, v22 = l7 + (1 : Int32) → (p_M_units_L36 l0 l1 l2 l3 l4 K36_91 Q f) v20 v22 h17) ∧ (¬ v18 = 0 → (kd (hR h17 l0 28).1 = (2, 0)) ∧ (vp_in l7 (hS h17 (hR h17 l0 28) - 1)) ∧ ∀ v26 : Int32, v26 = l6 + (hI h17 (hR h17 l0 28) l7.toNatClampNeg) → ∀ v28 : Int32, v28 = l7 + (1 : Int32) → (p_M_units_L36 l0 l1 l2 l3 l4 K36_91 Q f) v26 v28 h17)))))))
set_option maxRecDepth 100000 in
set_option maxHeartbeats 4000000 in
theorem t_M_units_L36 (l0 : xN) (l1 : Int32) (l2 : Int32) (l3 : Int32) (l4 : Int32) (K36_91 : Int32 → xH → Prop) (Q : Int32 → xH → Prop) (hK36_91 : ∀ (x6 : Int32) (h : xH), K36_91 x6 h → WP M_M_units 91 [(6, xi x6)] [] h 0 (qi Q)) : ∀ (f : Nat) (l6 : Int32) (l7 : Int32) (h : xH), p_M_units_L36 l0 l1 l2 l3 l4 K36_91 Q f l6 l7 h → WP M_M_units 36 [(0, xr l0), (1, xi l1), (2, xi l2), (3, xi l3), (4, xi l4), (6, xi l6), (7, xi l7)] [] h 0 (qi Q) := by
  intro f
  induction f with
  | zero => exact fun _ _ _ H => H.elim
  | succ f hB36 =>
    intro l6 l7 h H
    unfold p_M_units_L36 at H
    refine wp_iload rfl dX11_units_36 ?_
    refine wp_aload_n 0 rfl rfl dX11_units_38 ?_
    obtain ⟨q8, H⟩ := H
    refine wp_geti coX11 23 (Nat.le_of_ble_eq_true rfl) fl_X11_205 rfl q8 dX11_units_39 ?_
    refine WP.at 42 rfl ?_
    refine wp_icmp_ge 91 (by decide) dX11_units_42 (fun c9 => ?_) (fun c9 => ?_)
    · replace H := H.1 c9
      exact WP.pick [5] rfl (hK36_91 l6 _ H)
    · replace H := H.2 c9
      refine wp_iload rfl dX11_units_45 ?_
      refine wp_aload_n 0 rfl rfl dX11_units_47 ?_
      refine wp_getr coX11 29 (Nat.le_of_ble_eq_true rfl) fl_X11_83 rfl q8 dX11_units_48 ?_
      refine wp_iload rfl dX11_units_51 ?_
      obtain ⟨q10, H⟩ := H
      obtain ⟨q11, H⟩ := H
      refine wp_iaload q10 q11 dX11_units_53 ?_
      refine WP.at 54 rfl ?_
      refine wp_if_ne 81 (by decide) dX11_units_54 (fun c12 => ?_) (fun c12 => ?_)
      · replace H := H.1 c12
        refine wp_iconst (0 : Int32) (by decide) dX11_units_81 ?_
        refine wp_iadd dX11_units_82 ?_
        refine wp_nm (fun v13 e14 => ?_)
        replace H := H v13 e14
        refine wp_istore (Nat.le_of_ble_eq_true rfl) dX11_units_83 (ls' := [(6, xi v13), (0, xr l0), (1, xi l1), (2, xi l2), (3, xi l3), (4, xi l4), (7, xi l7)]) rfl ?_
        refine wp_iincN (1 : Int32) (by decide) rfl (Nat.le_of_ble_eq_true rfl) dX11_units_85 (ls' := fun v15 => [(7, xi v15), (6, xi v13), (0, xr l0), (1, xi l1), (2, xi l2), (3, xi l3), (4, xi l4)]) (fun _ => rfl) (fun v15 e16 => ?_)
        replace H := H v15 e16
        refine WP.at 88 rfl ?_
        refine wp_goto 36 (by decide) dX11_units_88 ?_
        exact WP.pick [2, 3, 4, 5, 6, 1, 0] rfl (hB36 v13 v15 _ H)
      · replace H := H.2 c12
        refine wp_aload_n 0 rfl rfl dX11_units_57 ?_
        refine wp_iload rfl dX11_units_58 ?_
        refine wp_iload_n 1 rfl rfl dX11_units_60 ?_
        refine wp_iload_n 2 rfl rfl dX11_units_61 ?_
        refine wp_iload_n 3 rfl rfl dX11_units_62 ?_
        refine wp_iload rfl dX11_units_63 ?_
        refine WP.at 65 rfl ?_
        refine wp_cVi (M2 := M_M_isFor) coX11 l0 q8 [xi l7, xi l1, xi l2, xi l3, xi l4] rfl lv_X11_303 mo_M_isFor (Nat.le_of_ble_eq_true rfl) ⟨(Nat.le_of_ble_eq_true rfl), (Nat.le_of_ble_eq_true rfl)⟩ (Nat.le_of_ble_eq_true rfl) (Nat.le_of_ble_eq_true rfl) dX11_units_65 (t_M_isFor l0 l7 l1 l2 l3 l4 _ _ H) (fun v18 h17 H => ?_)
        refine WP.at 68 rfl ?_
        refine WP.at 68 rfl ?_
        refine wp_if_eq 81 (by decide) dX11_units_68 (fun c19 => ?_) (fun c19 => ?_)
        · replace H := H.1 c19
          refine wp_iconst (0 : Int32) (by decide) dX11_units_81 ?_
          refine wp_iadd dX11_units_82 ?_
          refine wp_nm (fun v20 e21 => ?_)
          replace H := H v20 e21
          refine wp_istore (Nat.le_of_ble_eq_true rfl) dX11_units_83 (ls' := [(6, xi v20), (0, xr l0), (1, xi l1), (2, xi l2), (3, xi l3), (4, xi l4), (7, xi l7)]) rfl ?_
          refine wp_iincN (1 : Int32) (by decide) rfl (Nat.le_of_ble_eq_true rfl) dX11_units_85 (ls' := fun v22 => [(7, xi v22), (6, xi v20), (0, xr l0), (1, xi l1), (2, xi l2), (3, xi l3), (4, xi l4)]) (fun _ => rfl) (fun v22 e23 => ?_)
          replace H := H v22 e23
          refine WP.at 88 rfl ?_
          refine wp_goto 36 (by decide) dX11_units_88 ?_
          exact WP.pick [2, 3, 4, 5, 6, 1, 0] rfl (hB36 v20 v22 _ H)
        · replace H := H.2 c19
          refine wp_aload_n 0 rfl rfl dX11_units_71 ?_
          refine wp_getr coX11 28 (Nat.le_of_ble_eq_true rfl) fl_X11_80 rfl q8 dX11_units_72 ?_
          refine wp_iload rfl dX11_units_75 ?_
          obtain ⟨q24, H⟩ := H
          obtain ⟨q25, H⟩ := H
          refine wp_iaload q24 q25 dX11_units_77 ?_
          refine WP.at 78 rfl ?_
          refine wp_goto 82 (by decide) dX11_units_78 ?_
          refine wp_iadd dX11_units_82 ?_
          refine wp_nm (fun v26 e27 => ?_)
          replace H := H v26 e27
          refine wp_istore (Nat.le_of_ble_eq_true rfl) dX11_units_83 (ls' := [(6, xi v26), (0, xr l0), (1, xi l1), (2, xi l2), (3, xi l3), (4, xi l4), (7, xi l7)]) rfl ?_
          refine wp_iincN (1 : Int32) (by decide) rfl (Nat.le_of_ble_eq_true rfl) dX11_units_85 (ls' := fun v28 => [(7, xi v28), (6, xi v26), (0, xr l0), (1, xi l1), (2, xi l2), (3, xi l3), (4, xi l4)]) (fun _ => rfl) (fun v28 e29 => ?_)
          replace H := H v28 e29
          refine WP.at 88 rfl ?_
          refine wp_goto 36 (by decide) dX11_units_88 ?_
          exact WP.pick [2, 3, 4, 5, 6, 1, 0] rfl (hB36 v26 v28 _ H)
def p_M_units (l0 : xN) (l1 : Int32) (l2 : Int32) (l3 : Int32) (l4 : Int32) (h : xH) (Q : Int32 → xH → Prop) : Prop := (kd l0.1 = (1, 10)) ∧ p_M_isThere l0 l1 h (fun (v3 : Int32) (h2 : xH) => ((¬ v3 = 0 → p_M_barsRow l0 l1 l2 l3 l4 h2 (fun (v6 : Int32) (h5 : xH) => ((0 ≤ v6 → (∃ f32, p_M_units_L36 l0 l1 l2 l3 l4 (fun (x30 : Int32) (h31 : xH) => Q x30 h31) Q f32 (0 : Int32) (0 : Int32) h5)) ∧ (¬ 0 ≤ v6 → Q v6 h5)))) ∧ (v3 = 0 → Q (-2 : Int32) h2)))
set_option maxRecDepth 100000 in
set_option maxHeartbeats 4000000 in
theorem t_M_units (l0 : xN) (l1 : Int32) (l2 : Int32) (l3 : Int32) (l4 : Int32) (h : xH) (Q : Int32 → xH → Prop) (H : p_M_units l0 l1 l2 l3 l4 h Q) : WP M_M_units 0 [(0, xr l0), (1, xi l1), (2, xi l2), (3, xi l3), (4, xi l4)] [] h 0 (qi Q) := by
  unfold p_M_units at H
  refine wp_aload_n 0 rfl rfl dX11_units_0 ?_
  refine wp_iload_n 1 rfl rfl dX11_units_1 ?_
  refine WP.at 2 rfl ?_
  obtain ⟨q1, H⟩ := H
  refine wp_cVi (M2 := M_M_isThere) coX11 l0 q1 [xi l1] rfl lv_X11_281 mo_M_isThere (Nat.le_of_ble_eq_true rfl) ⟨(Nat.le_of_ble_eq_true rfl), (Nat.le_of_ble_eq_true rfl)⟩ (Nat.le_of_ble_eq_true rfl) (Nat.le_of_ble_eq_true rfl) dX11_units_2 (t_M_isThere l0 l1 _ _ H) (fun v3 h2 H => ?_)
  refine WP.at 5 rfl ?_
  refine wp_if_ne 11 (by decide) dX11_units_5 (fun c4 => ?_) (fun c4 => ?_)
  · replace H := H.1 c4
    refine wp_aload_n 0 rfl rfl dX11_units_11 ?_
    refine wp_iload_n 1 rfl rfl dX11_units_12 ?_
    refine wp_iload_n 2 rfl rfl dX11_units_13 ?_
    refine wp_iload_n 3 rfl rfl dX11_units_14 ?_
    refine wp_iload rfl dX11_units_15 ?_
    refine WP.at 17 rfl ?_
    refine wp_cVi (M2 := M_M_barsRow) coX11 l0 q1 [xi l1, xi l2, xi l3, xi l4] rfl lv_X11_284 mo_M_barsRow (Nat.le_of_ble_eq_true rfl) ⟨(Nat.le_of_ble_eq_true rfl), (Nat.le_of_ble_eq_true rfl)⟩ (Nat.le_of_ble_eq_true rfl) (Nat.le_of_ble_eq_true rfl) dX11_units_17 (t_M_barsRow l0 l1 l2 l3 l4 _ _ H) (fun v6 h5 H => ?_)
    refine wp_istore (Nat.le_of_ble_eq_true rfl) dX11_units_20 (ls' := [(5, xi v6), (0, xr l0), (1, xi l1), (2, xi l2), (3, xi l3), (4, xi l4)]) rfl ?_
    refine WP.at 22 rfl ?_
    refine wp_iload rfl dX11_units_22 ?_
    refine WP.at 24 rfl ?_
    refine wp_if_ge 30 (by decide) dX11_units_24 (fun c7 => ?_) (fun c7 => ?_)
    · replace H := H.1 c7
      refine wp_iconst (0 : Int32) (by decide) dX11_units_30 ?_
      refine wp_istore (Nat.le_of_ble_eq_true rfl) dX11_units_31 (ls' := [(6, xi (0 : Int32)), (5, xi v6), (0, xr l0), (1, xi l1), (2, xi l2), (3, xi l3), (4, xi l4)]) rfl ?_
      refine wp_iconst (0 : Int32) (by decide) dX11_units_33 ?_
      refine wp_istore (Nat.le_of_ble_eq_true rfl) dX11_units_34 (ls' := [(7, xi (0 : Int32)), (6, xi (0 : Int32)), (5, xi v6), (0, xr l0), (1, xi l1), (2, xi l2), (3, xi l3), (4, xi l4)]) rfl ?_
      refine WP.at 36 rfl ?_
      obtain ⟨f32, H⟩ := H
      refine WP.pick [3, 4, 5, 6, 7, 1, 0] rfl (t_M_units_L36 l0 l1 l2 l3 l4 _ Q ?_ f32 (0 : Int32) (0 : Int32) _ H)
      · intro x30 h31 H
        refine wp_iload rfl dX11_units_91 ?_
        exact wp_iret trivial dX11_units_93 H
    · replace H := H.2 c7
      refine wp_iload rfl dX11_units_27 ?_
      exact wp_iret trivial dX11_units_29 H
  · replace H := H.2 c4
    refine wp_bipush (-2 : Int32) (by decide) dX11_units_8 ?_
    exact wp_iret trivial dX11_units_10 H
