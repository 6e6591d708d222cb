def p_M_worst_L45 (l0 : xN) (l1 : Int32) (l2 : Int32) (K45_88 : xH → Prop) (Q : Int32 → xH → Prop) : Nat → Int32 → xH → Prop
  | 0, _, _ => False
  | f + 1, l3, h => (((4 : Int32) ≤ l3 → K45_88 h) ∧ (¬ (4 : Int32) ≤ l3 → (kd l0.1 = (1, 10)) ∧ (kd (hR h l0 48).1 = (2, 0)) ∧ (vp_in l3 (hS h (hR h l0 48) - 1)) ∧ ∀ h17 : xH, h17 = sI h (hR h l0 48) l3.toNatClampNeg (hI h l0 35) → (kd (hR h17 l0 6).1 = (3, 0)) ∧ (vp_in (((4 : Int32) * l1) + l3) (hS h17 (hR h17 l0 6) - 1)) ∧ (((hI h17 (hR h17 l0 6) (((4 : Int32) * l1) + l3).toNatClampNeg) = 0 → ∀ v22 : Int32, v22 = l3 + (1 : Int32) → (p_M_worst_L45 l0 l1 l2 K45_88 Q f) v22 h17) ∧ (¬ (hI h17 (hR h17 l0 6) (((4 : Int32) * l1) + l3).toNatClampNeg) = 0 → p_M_group l0 (((4 : Int32) * l1) + l3) h17 (fun h24 : xH => ∀ v25 : Int32, v25 = l3 + (1 : Int32) → (p_M_worst_L45 l0 l1 l2 K45_88 Q f) v25 h24)))))
set_option maxRecDepth 100000 in
set_option maxHeartbeats 4000000 in
theorem t_M_worst_L45 (l0 : xN) (l1 : Int32) (l2 : Int32) (K45_88 : xH → Prop) (Q : Int32 → xH → Prop) (hK45_88 : ∀ (h : xH), K45_88 h → WP M_M_worst 88 [(0, xr l0), (1, xi l1), (2, xi l2)] [] h 0 (qi Q)) : ∀ (f : Nat) (l3 : Int32) (h : xH), p_M_worst_L45 l0 l1 l2 K45_88 Q f l3 h → WP M_M_worst 45 [(0, xr l0), (1, xi l1), (2, xi l2), (3, xi l3)] [] h 0 (qi Q) := by
  intro f
  induction f with
  | zero => exact fun _ _ H => H.elim
  | succ f hB45 =>
    intro l3 h H
    unfold p_M_worst_L45 at H
    refine wp_iload_n 3 rfl rfl dX11_worst_45 ?_
    refine wp_iconst (4 : Int32) (by decide) dX11_worst_46 ?_
    refine WP.at 47 rfl ?_
    refine wp_icmp_ge 88 (by decide) dX11_worst_47 (fun c13 => ?_) (fun c13 => ?_)
    · replace H := H.1 c13
      exact WP.pick [0, 1, 2] rfl (hK45_88 _ H)
    · replace H := H.2 c13
      refine wp_aload_n 0 rfl rfl dX11_worst_50 ?_
      obtain ⟨q14, H⟩ := H
      refine wp_getr coX11 48 (Nat.le_of_ble_eq_true rfl) fl_X11_116 rfl q14 dX11_worst_51 ?_
      refine wp_iload_n 3 rfl rfl dX11_worst_54 ?_
      refine wp_aload_n 0 rfl rfl dX11_worst_55 ?_
      refine wp_geti coX11 35 (Nat.le_of_ble_eq_true rfl) fl_X11_215 rfl q14 dX11_worst_56 ?_
      obtain ⟨q15, H⟩ := H
      obtain ⟨q16, H⟩ := H
      refine wp_iastore q15 q16 dX11_worst_59 ?_
      refine wp_nh (fun h17 e18 => ?_)
      replace H := H h17 e18
      refine wp_aload_n 0 rfl rfl dX11_worst_60 ?_
      refine WP.at 61 rfl ?_
      refine wp_getr coX11 6 (Nat.le_of_ble_eq_true rfl) fl_X11_26 rfl q14 dX11_worst_61 ?_
      refine wp_iconst (4 : Int32) (by decide) dX11_worst_64 ?_
      refine wp_iload_n 1 rfl rfl dX11_worst_65 ?_
      refine wp_imul dX11_worst_66 ?_
      refine wp_iload_n 3 rfl rfl dX11_worst_67 ?_
      refine wp_iadd dX11_worst_68 ?_
      obtain ⟨q19, H⟩ := H
      obtain ⟨q20, H⟩ := H
      refine wp_baload q19 q20 dX11_worst_69 ?_
      refine WP.at 70 rfl ?_
      refine wp_if_eq 82 (by decide) dX11_worst_70 (fun c21 => ?_) (fun c21 => ?_)
      · replace H := H.1 c21
        refine wp_iincN (1 : Int32) (by decide) rfl (Nat.le_of_ble_eq_true rfl) dX11_worst_82 (ls' := fun v22 => [(3, xi v22), (0, xr l0), (1, xi l1), (2, xi l2)]) (fun _ => rfl) (fun v22 e23 => ?_)
        replace H := H v22 e23
        refine WP.at 85 rfl ?_
        refine wp_goto 45 (by decide) dX11_worst_85 ?_
        exact WP.pick [1, 2, 3, 0] rfl (hB45 v22 _ H)
      · replace H := H.2 c21
        refine wp_aload_n 0 rfl rfl dX11_worst_73 ?_
        refine wp_iconst (4 : Int32) (by decide) dX11_worst_74 ?_
        refine wp_iload_n 1 rfl rfl dX11_worst_75 ?_
        refine wp_imul dX11_worst_76 ?_
        refine wp_iload_n 3 rfl rfl dX11_worst_77 ?_
        refine wp_iadd dX11_worst_78 ?_
        refine WP.at 79 rfl ?_
        refine wp_cVv (M2 := M_M_group) coX11 l0 q14 [xi (((4 : Int32) * l1) + l3)] rfl lv_X11_255 mo_M_group (Nat.le_of_ble_eq_true rfl) ⟨(Nat.le_of_ble_eq_true rfl), (Nat.le_of_ble_eq_true rfl)⟩ (Nat.le_of_ble_eq_true rfl) (Nat.le_of_ble_eq_true rfl) dX11_worst_79 (t_M_group l0 (((4 : Int32) * l1) + l3) _ _ H) (fun h24 H => ?_)
        refine WP.at 82 rfl ?_
        refine wp_iincN (1 : Int32) (by decide) rfl (Nat.le_of_ble_eq_true rfl) dX11_worst_82 (ls' := fun v25 => [(3, xi v25), (0, xr l0), (1, xi l1), (2, xi l2)]) (fun _ => rfl) (fun v25 e26 => ?_)
        replace H := H v25 e26
        refine WP.at 85 rfl ?_
        refine wp_goto 45 (by decide) dX11_worst_85 ?_
        exact WP.pick [1, 2, 3, 0] rfl (hB45 v25 _ H)
def p_M_worst_j253 (l0 : xN) (l1 : Int32) (l2 : Int32) (l3 : Int32) (l5 : Int32) (l6 : Int32) (l7 : Int32) (l9 : Int32) (B143 : Int32 → Int32 → xH → Prop) (h : xH) (Q : Int32 → xH → Prop) : Prop := ∀ v52 : Int32, v52 = (((10000 : Int32) * l5) + ((100 : Int32) * l6)) + l7 → (kd l0.1 = (1, 10)) ∧ ∀ h55 : xH, h55 = sI h l0 47 l9 → ∀ v57 : Int32, v57 = l7 + (1 : Int32) → B143 v52 v57 h55
set_option maxRecDepth 100000 in
set_option maxHeartbeats 4000000 in
theorem t_M_worst_j253 (l0 : xN) (l1 : Int32) (l2 : Int32) (l3 : Int32) (l5 : Int32) (l6 : Int32) (l7 : Int32) (l9 : Int32) (B143 : Int32 → Int32 → xH → Prop) (h : xH) (Q : Int32 → xH → Prop) (hB143 : ∀ (x4 : Int32) (x7 : Int32) (h : xH), B143 x4 x7 h → WP M_M_worst 143 [(0, xr l0), (1, xi l1), (2, xi l2), (3, xi l3), (4, xi x4), (5, xi l5), (6, xi l6), (7, xi x7)] [] h 0 (qi Q)) (H : p_M_worst_j253 l0 l1 l2 l3 l5 l6 l7 l9 B143 h Q) : WP M_M_worst 253 [(0, xr l0), (1, xi l1), (2, xi l2), (3, xi l3), (5, xi l5), (6, xi l6), (7, xi l7), (9, xi l9)] [] h 0 (qi Q) := by
  unfold p_M_worst_j253 at H
  refine wp_sipush (10000 : Int32) (by decide) dX11_worst_253 ?_
  refine wp_iload rfl dX11_worst_256 ?_
  refine wp_imul dX11_worst_258 ?_
  refine wp_bipush (100 : Int32) (by decide) dX11_worst_259 ?_
  refine wp_iload rfl dX11_worst_261 ?_
  refine wp_imul dX11_worst_263 ?_
  refine wp_iadd dX11_worst_264 ?_
  refine WP.at 265 rfl ?_
  refine wp_iload rfl dX11_worst_265 ?_
  refine wp_iadd dX11_worst_267 ?_
  refine wp_nm (fun v52 e53 => ?_)
  replace H := H v52 e53
  refine wp_istore (Nat.le_of_ble_eq_true rfl) dX11_worst_268 (ls' := [(4, xi v52), (0, xr l0), (1, xi l1), (2, xi l2), (3, xi l3), (5, xi l5), (6, xi l6), (7, xi l7), (9, xi l9)]) rfl ?_
  refine wp_aload_n 0 rfl rfl dX11_worst_270 ?_
  refine wp_iload rfl dX11_worst_271 ?_
  obtain ⟨q54, H⟩ := H
  refine wp_puti coX11 47 (Nat.le_of_ble_eq_true rfl) fl_X11_310 rfl rfl ⟨rfl, rfl⟩ q54 dX11_worst_273 ?_
  refine wp_nh (fun h55 e56 => ?_)
  replace H := H h55 e56
  refine wp_iincN (1 : Int32) (by decide) rfl (Nat.le_of_ble_eq_true rfl) dX11_worst_276 (ls' := fun v57 => [(7, xi v57), (4, xi v52), (0, xr l0), (1, xi l1), (2, xi l2), (3, xi l3), (5, xi l5), (6, xi l6), (9, xi l9)]) (fun _ => rfl) (fun v57 e58 => ?_)
  replace H := H v57 e58
  refine WP.at 279 rfl ?_
  refine wp_goto 143 (by decide) dX11_worst_279 ?_
  exact WP.pick [2, 3, 4, 5, 1, 6, 7, 0] rfl (hB143 v52 v57 _ H)
def p_M_worst_j214 (s0 : Int32) (l0 : xN) (l1 : Int32) (l2 : Int32) (l3 : Int32) (l4 : Int32) (l5 : Int32) (l6 : Int32) (l7 : Int32) (B143 : Int32 → Int32 → xH → Prop) (h : xH) (Q : Int32 → xH → Prop) : Prop := ((s0 = 0 → ∀ v45 : Int32, v45 = l7 + (1 : Int32) → B143 l4 v45 h) ∧ (¬ s0 = 0 → (kd l0.1 = (1, 10)) ∧ p_M_suppose l0 l5 l6 l7 h (fun h48 : xH => p_M_dueNow l0 l1 h48 (fun (v50 : Int32) (h49 : xH) => ((l4 = (-1 : Int32) → p_M_worst_j253 l0 l1 l2 l3 l5 l6 l7 v50 B143 h49 Q) ∧ (¬ l4 = (-1 : Int32) → ((v50 ≤ (hI h49 l0 47) → ∀ v60 : Int32, v60 = l7 + (1 : Int32) → B143 l4 v60 h49) ∧ (¬ v50 ≤ (hI h49 l0 47) → p_M_worst_j253 l0 l1 l2 l3 l5 l6 l7 v50 B143 h49 Q))))))))
set_option maxRecDepth 100000 in
set_option maxHeartbeats 4000000 in
theorem t_M_worst_j214 (s0 : Int32) (l0 : xN) (l1 : Int32) (l2 : Int32) (l3 : Int32) (l4 : Int32) (l5 : Int32) (l6 : Int32) (l7 : Int32) (B143 : Int32 → Int32 → xH → Prop) (h : xH) (Q : Int32 → xH → Prop) (hB143 : ∀ (x4 : Int32) (x7 : Int32) (h : xH), B143 x4 x7 h → WP M_M_worst 143 [(0, xr l0), (1, xi l1), (2, xi l2), (3, xi l3), (4, xi x4), (5, xi l5), (6, xi l6), (7, xi x7)] [] h 0 (qi Q)) (H : p_M_worst_j214 s0 l0 l1 l2 l3 l4 l5 l6 l7 B143 h Q) : WP M_M_worst 214 [(0, xr l0), (1, xi l1), (2, xi l2), (3, xi l3), (4, xi l4), (5, xi l5), (6, xi l6), (7, xi l7)] [xi s0] h 0 (qi Q) := by
  unfold p_M_worst_j214 at H
  refine wp_istore (Nat.le_of_ble_eq_true rfl) dX11_worst_214 (ls' := [(8, xi s0), (0, xr l0), (1, xi l1), (2, xi l2), (3, xi l3), (4, xi l4), (5, xi l5), (6, xi l6), (7, xi l7)]) rfl ?_
  refine wp_iload rfl dX11_worst_216 ?_
  refine WP.at 218 rfl ?_
  refine wp_if_eq 276 (by decide) dX11_worst_218 (fun c44 => ?_) (fun c44 => ?_)
  · replace H := H.1 c44
    refine wp_iincN (1 : Int32) (by decide) rfl (Nat.le_of_ble_eq_true rfl) dX11_worst_276 (ls' := fun v45 => [(7, xi v45), (8, xi s0), (0, xr l0), (1, xi l1), (2, xi l2), (3, xi l3), (4, xi l4), (5, xi l5), (6, xi l6)]) (fun _ => rfl) (fun v45 e46 => ?_)
    replace H := H v45 e46
    refine WP.at 279 rfl ?_
    refine wp_goto 143 (by decide) dX11_worst_279 ?_
    exact WP.pick [2, 3, 4, 5, 6, 7, 8, 0] rfl (hB143 l4 v45 _ H)
  · replace H := H.2 c44
    refine wp_aload_n 0 rfl rfl dX11_worst_221 ?_
    refine wp_iload rfl dX11_worst_222 ?_
    refine wp_iload rfl dX11_worst_224 ?_
    refine wp_iload rfl dX11_worst_226 ?_
    refine WP.at 228 rfl ?_
    obtain ⟨q47, H⟩ := H
    refine wp_cVv (M2 := M_M_suppose) coX11 l0 q47 [xi l5, xi l6, xi l7] rfl lv_X11_307 mo_M_suppose (Nat.le_of_ble_eq_true rfl) ⟨(Nat.le_of_ble_eq_true rfl), (Nat.le_of_ble_eq_true rfl)⟩ (Nat.le_of_ble_eq_true rfl) (Nat.le_of_ble_eq_true rfl) dX11_worst_228 (t_M_suppose l0 l5 l6 l7 _ _ H) (fun h48 H => ?_)
    refine wp_aload_n 0 rfl rfl dX11_worst_231 ?_
    refine wp_iload_n 1 rfl rfl dX11_worst_232 ?_
    refine WP.at 233 rfl ?_
    refine WP.at 233 rfl ?_
    refine wp_cVi (M2 := M_M_dueNow) coX11 l0 q47 [xi l1] rfl lv_X11_313 mo_M_dueNow (Nat.le_of_ble_eq_true rfl) ⟨(Nat.le_of_ble_eq_true rfl), (Nat.le_of_ble_eq_true rfl)⟩ (Nat.le_of_ble_eq_true rfl) (Nat.le_of_ble_eq_true rfl) dX11_worst_233 (t_M_dueNow l0 l1 _ _ H) (fun v50 h49 H => ?_)
    refine wp_istore (Nat.le_of_ble_eq_true rfl) dX11_worst_236 (ls' := [(9, xi v50), (8, xi s0), (0, xr l0), (1, xi l1), (2, xi l2), (3, xi l3), (4, xi l4), (5, xi l5), (6, xi l6), (7, xi l7)]) rfl ?_
    refine wp_iload rfl dX11_worst_238 ?_
    refine wp_iconst (-1 : Int32) (by decide) dX11_worst_240 ?_
    refine WP.at 241 rfl ?_
    refine wp_icmp_eq 253 (by decide) dX11_worst_241 (fun c51 => ?_) (fun c51 => ?_)
    · replace H := H.1 c51
      exact WP.pick [2, 3, 4, 5, 7, 8, 9, 0] rfl (t_M_worst_j253 l0 l1 l2 l3 l5 l6 l7 v50 _ _ _ hB143 H)
    · replace H := H.2 c51
      refine wp_iload rfl dX11_worst_244 ?_
      refine wp_aload_n 0 rfl rfl dX11_worst_246 ?_
      refine wp_geti coX11 47 (Nat.le_of_ble_eq_true rfl) fl_X11_310 rfl q47 dX11_worst_247 ?_
      refine WP.at 250 rfl ?_
      refine wp_icmp_le 276 (by decide) dX11_worst_250 (fun c59 => ?_) (fun c59 => ?_)
      · replace H := H.1 c59
        refine wp_iincN (1 : Int32) (by decide) rfl (Nat.le_of_ble_eq_true rfl) dX11_worst_276 (ls' := fun v60 => [(7, xi v60), (9, xi v50), (8, xi s0), (0, xr l0), (1, xi l1), (2, xi l2), (3, xi l3), (4, xi l4), (5, xi l5), (6, xi l6)]) (fun _ => rfl) (fun v60 e61 => ?_)
        replace H := H v60 e61
        refine WP.at 279 rfl ?_
        refine wp_goto 143 (by decide) dX11_worst_279 ?_
        exact WP.pick [3, 4, 5, 6, 7, 8, 9, 0] rfl (hB143 l4 v60 _ H)
      · replace H := H.2 c59
        exact WP.pick [2, 3, 4, 5, 7, 8, 9, 0] rfl (t_M_worst_j253 l0 l1 l2 l3 l5 l6 l7 v50 _ _ _ hB143 H)
def p_M_worst_j155 (s0 : Int32) (s1 : Int32) (l0 : xN) (l1 : Int32) (l2 : Int32) (l3 : Int32) (l4 : Int32) (l5 : Int32) (l6 : Int32) (l7 : Int32) (B143 : Int32 → Int32 → xH → Prop) (K143_282 : Int32 → xH → Prop) (h : xH) (Q : Int32 → xH → Prop) : Prop := ((s0 < s1 → K143_282 l4 h) ∧ (¬ s0 < s1 → ((l5 = l6 → p_M_worst_j214 (0 : Int32) l0 l1 l2 l3 l4 l5 l6 l7 B143 h Q) ∧ (¬ l5 = l6 → ((l5 = l7 → p_M_worst_j214 (0 : Int32) l0 l1 l2 l3 l4 l5 l6 l7 B143 h Q) ∧ (¬ l5 = l7 → ((l6 = l7 → p_M_worst_j214 (0 : Int32) l0 l1 l2 l3 l4 l5 l6 l7 B143 h Q) ∧ (¬ l6 = l7 → (kd l0.1 = (1, 10)) ∧ p_M_isGone l0 l1 l5 h (fun (v66 : Int32) (h65 : xH) => ((¬ v66 = 0 → p_M_worst_j214 (0 : Int32) l0 l1 l2 l3 l4 l5 l6 l7 B143 h65 Q) ∧ (v66 = 0 → p_M_isGone l0 l1 l6 h65 (fun (v69 : Int32) (h68 : xH) => ((¬ v69 = 0 → p_M_worst_j214 (0 : Int32) l0 l1 l2 l3 l4 l5 l6 l7 B143 h68 Q) ∧ (v69 = 0 → p_M_isGone l0 l1 l7 h68 (fun (v72 : Int32) (h71 : xH) => ((¬ v72 = 0 → p_M_worst_j214 (0 : Int32) l0 l1 l2 l3 l4 l5 l6 l7 B143 h71 Q) ∧ (v72 = 0 → p_M_worst_j214 (1 : Int32) l0 l1 l2 l3 l4 l5 l6 l7 B143 h71 Q)))))))))))))))))
set_option maxRecDepth 100000 in
set_option maxHeartbeats 4000000 in
theorem t_M_worst_j155 (s0 : Int32) (s1 : Int32) (l0 : xN) (l1 : Int32) (l2 : Int32) (l3 : Int32) (l4 : Int32) (l5 : Int32) (l6 : Int32) (l7 : Int32) (B143 : Int32 → Int32 → xH → Prop) (K143_282 : Int32 → xH → Prop) (h : xH) (Q : Int32 → xH → Prop) (hB143 : ∀ (x4 : Int32) (x7 : Int32) (h : xH), B143 x4 x7 h → WP M_M_worst 143 [(0, xr l0), (1, xi l1), (2, xi l2), (3, xi l3), (4, xi x4), (5, xi l5), (6, xi l6), (7, xi x7)] [] h 0 (qi Q)) (hK143_282 : ∀ (x4 : Int32) (h : xH), K143_282 x4 h → WP M_M_worst 282 [(0, xr l0), (1, xi l1), (2, xi l2), (3, xi l3), (4, xi x4), (5, xi l5), (6, xi l6)] [] h 0 (qi Q)) (H : p_M_worst_j155 s0 s1 l0 l1 l2 l3 l4 l5 l6 l7 B143 K143_282 h Q) : WP M_M_worst 155 [(0, xr l0), (1, xi l1), (2, xi l2), (3, xi l3), (4, xi l4), (5, xi l5), (6, xi l6), (7, xi l7)] [xi s0, xi s1] h 0 (qi Q) := by
  unfold p_M_worst_j155 at H
  refine WP.at 155 rfl ?_
  refine wp_icmp_gt 282 (by decide) dX11_worst_155 (fun c42 => ?_) (fun c42 => ?_)
  · replace H := H.1 c42
    exact WP.pick [0, 1, 2, 3, 4, 5, 6] rfl (hK143_282 l4 _ H)
  · replace H := H.2 c42
    refine wp_iload rfl dX11_worst_158 ?_
    refine wp_iload rfl dX11_worst_160 ?_
    refine WP.at 162 rfl ?_
    refine wp_icmp_eq 213 (by decide) dX11_worst_162 (fun c43 => ?_) (fun c43 => ?_)
    · replace H := H.1 c43
      refine wp_iconst (0 : Int32) (by decide) dX11_worst_213 ?_
      refine WP.at 214 rfl ?_
      exact WP.pick [0, 1, 2, 3, 4, 5, 6, 7] rfl (t_M_worst_j214 (0 : Int32) l0 l1 l2 l3 l4 l5 l6 l7 _ _ _ hB143 H)
    · replace H := H.2 c43
      refine wp_iload rfl dX11_worst_165 ?_
      refine wp_iload rfl dX11_worst_167 ?_
      refine WP.at 169 rfl ?_
      refine wp_icmp_eq 213 (by decide) dX11_worst_169 (fun c62 => ?_) (fun c62 => ?_)
      · replace H := H.1 c62
        refine wp_iconst (0 : Int32) (by decide) dX11_worst_213 ?_
        refine WP.at 214 rfl ?_
        exact WP.pick [0, 1, 2, 3, 4, 5, 6, 7] rfl (t_M_worst_j214 (0 : Int32) l0 l1 l2 l3 l4 l5 l6 l7 _ _ _ hB143 H)
      · replace H := H.2 c62
        refine wp_iload rfl dX11_worst_172 ?_
        refine wp_iload rfl dX11_worst_174 ?_
        refine WP.at 176 rfl ?_
        refine wp_icmp_eq 213 (by decide) dX11_worst_176 (fun c63 => ?_) (fun c63 => ?_)
        · replace H := H.1 c63
          refine wp_iconst (0 : Int32) (by decide) dX11_worst_213 ?_
          refine WP.at 214 rfl ?_
          exact WP.pick [0, 1, 2, 3, 4, 5, 6, 7] rfl (t_M_worst_j214 (0 : Int32) l0 l1 l2 l3 l4 l5 l6 l7 _ _ _ hB143 H)
        · replace H := H.2 c63
          refine wp_aload_n 0 rfl rfl dX11_worst_179 ?_
          refine wp_iload_n 1 rfl rfl dX11_worst_180 ?_
          refine wp_iload rfl dX11_worst_181 ?_
          refine WP.at 183 rfl ?_
          obtain ⟨q64, H⟩ := H
          refine wp_cVi (M2 := M_M_isGone) coX11 l0 q64 [xi l1, xi l5] rfl lv_X11_288 mo_M_isGone (Nat.le_of_ble_eq_true rfl) ⟨(Nat.le_of_ble_eq_true rfl), (Nat.le_of_ble_eq_true rfl)⟩ (Nat.le_of_ble_eq_true rfl) (Nat.le_of_ble_eq_true rfl) dX11_worst_183 (t_M_isGone l0 l1 l5 _ _ H) (fun v66 h65 H => ?_)
          refine WP.at 186 rfl ?_
          refine wp_if_ne 213 (by decide) dX11_worst_186 (fun c67 => ?_) (fun c67 => ?_)
          · replace H := H.1 c67
            refine wp_iconst (0 : Int32) (by decide) dX11_worst_213 ?_
            refine WP.at 214 rfl ?_
            exact WP.pick [0, 1, 2, 3, 4, 5, 6, 7] rfl (t_M_worst_j214 (0 : Int32) l0 l1 l2 l3 l4 l5 l6 l7 _ _ _ hB143 H)
          · replace H := H.2 c67
            refine wp_aload_n 0 rfl rfl dX11_worst_189 ?_
            refine wp_iload_n 1 rfl rfl dX11_worst_190 ?_
            refine wp_iload rfl dX11_worst_191 ?_
            refine WP.at 193 rfl ?_
            refine wp_cVi (M2 := M_M_isGone) coX11 l0 q64 [xi l1, xi l6] rfl lv_X11_288 mo_M_isGone (Nat.le_of_ble_eq_true rfl) ⟨(Nat.le_of_ble_eq_true rfl), (Nat.le_of_ble_eq_true rfl)⟩ (Nat.le_of_ble_eq_true rfl) (Nat.le_of_ble_eq_true rfl) dX11_worst_193 (t_M_isGone l0 l1 l6 _ _ H) (fun v69 h68 H => ?_)
            refine WP.at 196 rfl ?_
            refine wp_if_ne 213 (by decide) dX11_worst_196 (fun c70 => ?_) (fun c70 => ?_)
            · replace H := H.1 c70
              refine wp_iconst (0 : Int32) (by decide) dX11_worst_213 ?_
              refine WP.at 214 rfl ?_
              exact WP.pick [0, 1, 2, 3, 4, 5, 6, 7] rfl (t_M_worst_j214 (0 : Int32) l0 l1 l2 l3 l4 l5 l6 l7 _ _ _ hB143 H)
            · replace H := H.2 c70
              refine wp_aload_n 0 rfl rfl dX11_worst_199 ?_
              refine wp_iload_n 1 rfl rfl dX11_worst_200 ?_
              refine wp_iload rfl dX11_worst_201 ?_
              refine WP.at 203 rfl ?_
              refine wp_cVi (M2 := M_M_isGone) coX11 l0 q64 [xi l1, xi l7] rfl lv_X11_288 mo_M_isGone (Nat.le_of_ble_eq_true rfl) ⟨(Nat.le_of_ble_eq_true rfl), (Nat.le_of_ble_eq_true rfl)⟩ (Nat.le_of_ble_eq_true rfl) (Nat.le_of_ble_eq_true rfl) dX11_worst_203 (t_M_isGone l0 l1 l7 _ _ H) (fun v72 h71 H => ?_)
              refine WP.at 206 rfl ?_
              refine wp_if_ne 213 (by decide) dX11_worst_206 (fun c73 => ?_) (fun c73 => ?_)
              · replace H := H.1 c73
                refine wp_iconst (0 : Int32) (by decide) dX11_worst_213 ?_
                refine WP.at 214 rfl ?_
                exact WP.pick [0, 1, 2, 3, 4, 5, 6, 7] rfl (t_M_worst_j214 (0 : Int32) l0 l1 l2 l3 l4 l5 l6 l7 _ _ _ hB143 H)
              · replace H := H.2 c73
                refine wp_iconst (1 : Int32) (by decide) dX11_worst_209 ?_
                refine WP.at 210 rfl ?_
                refine wp_goto 214 (by decide) dX11_worst_210 ?_
                exact WP.pick [0, 1, 2, 3, 4, 5, 6, 7] rfl (t_M_worst_j214 (1 : Int32) l0 l1 l2 l3 l4 l5 l6 l7 _ _ _ hB143 H)
def p_M_worst_L143 (l0 : xN) (l1 : Int32) (l2 : Int32) (l3 : Int32) (l5 : Int32) (l6 : Int32) (K143_282 : Int32 → xH → Prop) (Q : Int32 → xH → Prop) : Nat → Int32 → Int32 → xH → Prop
  | 0, _, _, _ => False
  | f + 1, l4, l7, h => ((¬ l2 = (2 : Int32) → p_M_worst_j155 l3 l7 l0 l1 l2 l3 l4 l5 l6 l7 (p_M_worst_L143 l0 l1 l2 l3 l5 l6 K143_282 Q f) K143_282 h Q) ∧ (l2 = (2 : Int32) → p_M_worst_j155 (0 : Int32) l7 l0 l1 l2 l3 l4 l5 l6 l7 (p_M_worst_L143 l0 l1 l2 l3 l5 l6 K143_282 Q f) K143_282 h Q))
set_option maxRecDepth 100000 in
set_option maxHeartbeats 4000000 in
theorem t_M_worst_L143 (l0 : xN) (l1 : Int32) (l2 : Int32) (l3 : Int32) (l5 : Int32) (l6 : Int32) (K143_282 : Int32 → xH → Prop) (Q : Int32 → xH → Prop) (hK143_282 : ∀ (x4 : Int32) (h : xH), K143_282 x4 h → WP M_M_worst 282 [(0, xr l0), (1, xi l1), (2, xi l2), (3, xi l3), (4, xi x4), (5, xi l5), (6, xi l6)] [] h 0 (qi Q)) : ∀ (f : Nat) (l4 : Int32) (l7 : Int32) (h : xH), p_M_worst_L143 l0 l1 l2 l3 l5 l6 K143_282 Q f l4 l7 h → WP M_M_worst 143 [(0, xr l0), (1, xi l1), (2, xi l2), (3, xi l3), (4, xi l4), (5, xi l5), (6, xi l6), (7, xi l7)] [] h 0 (qi Q) := by
  intro f
  induction f with
  | zero => exact fun _ _ _ H => H.elim
  | succ f hB143 =>
    intro l4 l7 h H
    unfold p_M_worst_L143 at H
    refine wp_iload rfl dX11_worst_143 ?_
    refine wp_iload_n 2 rfl rfl dX11_worst_145 ?_
    refine wp_iconst (2 : Int32) (by decide) dX11_worst_146 ?_
    refine WP.at 147 rfl ?_
    refine wp_icmp_ne 154 (by decide) dX11_worst_147 (fun c41 => ?_) (fun c41 => ?_)
    · replace H := H.1 c41
      refine wp_iload_n 3 rfl rfl dX11_worst_154 ?_
      refine WP.at 155 rfl ?_
      exact WP.pick [0, 1, 2, 3, 4, 5, 6, 7] rfl (t_M_worst_j155 l3 l7 l0 l1 l2 l3 l4 l5 l6 l7 _ _ _ _ hB143 hK143_282 H)
    · replace H := H.2 c41
      refine wp_iconst (0 : Int32) (by decide) dX11_worst_150 ?_
      refine WP.at 151 rfl ?_
      refine wp_goto 155 (by decide) dX11_worst_151 ?_
      exact WP.pick [0, 1, 2, 3, 4, 5, 6, 7] rfl (t_M_worst_j155 (0 : Int32) l7 l0 l1 l2 l3 l4 l5 l6 l7 _ _ _ _ hB143 hK143_282 H)
def p_M_worst_L125 (l0 : xN) (l1 : Int32) (l2 : Int32) (l3 : Int32) (l5 : Int32) (K125_288 : Int32 → xH → Prop) (Q : Int32 → xH → Prop) : Nat → Int32 → Int32 → xH → Prop
  | 0, _, _, _ => False
  | f + 1, l4, l6, h => ((l3 < l6 → K125_288 l4 h) ∧ (¬ l3 < l6 → ((¬ l2 = (2 : Int32) → (∃ f78, p_M_worst_L143 l0 l1 l2 l3 l5 l6 (fun (x74 : Int32) (h75 : xH) => ∀ v76 : Int32, v76 = l6 + (1 : Int32) → (p_M_worst_L125 l0 l1 l2 l3 l5 K125_288 Q f) x74 v76 h75) Q f78 l4 (1 : Int32) h)) ∧ (l2 = (2 : Int32) → (∃ f83, p_M_worst_L143 l0 l1 l2 l3 l5 l6 (fun (x79 : Int32) (h80 : xH) => ∀ v81 : Int32, v81 = l6 + (1 : Int32) → (p_M_worst_L125 l0 l1 l2 l3 l5 K125_288 Q f) x79 v81 h80) Q f83 l4 (0 : Int32) h)))))
set_option maxRecDepth 100000 in
set_option maxHeartbeats 4000000 in
theorem t_M_worst_L125 (l0 : xN) (l1 : Int32) (l2 : Int32) (l3 : Int32) (l5 : Int32) (K125_288 : Int32 → xH → Prop) (Q : Int32 → xH → Prop) (hK125_288 : ∀ (x4 : Int32) (h : xH), K125_288 x4 h → WP M_M_worst 288 [(0, xr l0), (1, xi l1), (2, xi l2), (3, xi l3), (4, xi x4), (5, xi l5)] [] h 0 (qi Q)) : ∀ (f : Nat) (l4 : Int32) (l6 : Int32) (h : xH), p_M_worst_L125 l0 l1 l2 l3 l5 K125_288 Q f l4 l6 h → WP M_M_worst 125 [(0, xr l0), (1, xi l1), (2, xi l2), (3, xi l3), (4, xi l4), (5, xi l5), (6, xi l6)] [] h 0 (qi Q) := by
  intro f
  induction f with
  | zero => exact fun _ _ _ H => H.elim
  | succ f hB125 =>
    intro l4 l6 h H
    unfold p_M_worst_L125 at H
    refine wp_iload rfl dX11_worst_125 ?_
    refine wp_iload_n 3 rfl rfl dX11_worst_127 ?_
    refine WP.at 128 rfl ?_
    refine wp_icmp_gt 288 (by decide) dX11_worst_128 (fun c39 => ?_) (fun c39 => ?_)
    · replace H := H.1 c39
      exact WP.pick [0, 1, 2, 3, 4, 5] rfl (hK125_288 l4 _ H)
    · replace H := H.2 c39
      refine wp_iload_n 2 rfl rfl dX11_worst_131 ?_
      refine wp_iconst (2 : Int32) (by decide) dX11_worst_132 ?_
      refine WP.at 133 rfl ?_
      refine wp_icmp_ne 140 (by decide) dX11_worst_133 (fun c40 => ?_) (fun c40 => ?_)
      · replace H := H.1 c40
        refine wp_iconst (1 : Int32) (by decide) dX11_worst_140 ?_
        refine wp_istore (Nat.le_of_ble_eq_true rfl) dX11_worst_141 (ls' := [(7, xi (1 : Int32)), (0, xr l0), (1, xi l1), (2, xi l2), (3, xi l3), (4, xi l4), (5, xi l5), (6, xi l6)]) rfl ?_
        refine WP.at 143 rfl ?_
        obtain ⟨f78, H⟩ := H
        refine WP.pick [1, 2, 3, 4, 5, 6, 7, 0] rfl (t_M_worst_L143 l0 l1 l2 l3 l5 l6 _ Q ?_ f78 l4 (1 : Int32) _ H)
        · intro x74 h75 H
          refine wp_iincN (1 : Int32) (by decide) rfl (Nat.le_of_ble_eq_true rfl) dX11_worst_282 (ls' := fun v76 => [(6, xi v76), (0, xr l0), (1, xi l1), (2, xi l2), (3, xi l3), (4, xi x74), (5, xi l5)]) (fun _ => rfl) (fun v76 e77 => ?_)
          replace H := H v76 e77
          refine WP.at 285 rfl ?_
          refine wp_goto 125 (by decide) dX11_worst_285 ?_
          exact WP.pick [1, 2, 3, 4, 5, 6, 0] rfl (hB125 x74 v76 _ H)
      · replace H := H.2 c40
        refine wp_iconst (0 : Int32) (by decide) dX11_worst_136 ?_
        refine WP.at 137 rfl ?_
        refine wp_goto 141 (by decide) dX11_worst_137 ?_
        refine wp_istore (Nat.le_of_ble_eq_true rfl) dX11_worst_141 (ls' := [(7, xi (0 : Int32)), (0, xr l0), (1, xi l1), (2, xi l2), (3, xi l3), (4, xi l4), (5, xi l5), (6, xi l6)]) rfl ?_
        refine WP.at 143 rfl ?_
        obtain ⟨f83, H⟩ := H
        refine WP.pick [1, 2, 3, 4, 5, 6, 7, 0] rfl (t_M_worst_L143 l0 l1 l2 l3 l5 l6 _ Q ?_ f83 l4 (0 : Int32) _ H)
        · intro x79 h80 H
          refine wp_iincN (1 : Int32) (by decide) rfl (Nat.le_of_ble_eq_true rfl) dX11_worst_282 (ls' := fun v81 => [(6, xi v81), (0, xr l0), (1, xi l1), (2, xi l2), (3, xi l3), (4, xi x79), (5, xi l5)]) (fun _ => rfl) (fun v81 e82 => ?_)
          replace H := H v81 e82
          refine WP.at 285 rfl ?_
          refine wp_goto 125 (by decide) dX11_worst_285 ?_
          exact WP.pick [1, 2, 3, 4, 5, 6, 0] rfl (hB125 x79 v81 _ H)
def p_M_worst_L116 (l0 : xN) (l1 : Int32) (l2 : Int32) (l3 : Int32) (K116_294 : Int32 → xH → Prop) (Q : Int32 → xH → Prop) : Nat → Int32 → Int32 → xH → Prop
  | 0, _, _, _ => False
  | f + 1, l4, l5, h => ((l3 < l5 → K116_294 l4 h) ∧ (¬ l3 < l5 → (∃ f88, p_M_worst_L125 l0 l1 l2 l3 l5 (fun (x84 : Int32) (h85 : xH) => ∀ v86 : Int32, v86 = l5 + (1 : Int32) → (p_M_worst_L116 l0 l1 l2 l3 K116_294 Q f) x84 v86 h85) Q f88 l4 (1 : Int32) h)))
set_option maxRecDepth 100000 in
set_option maxHeartbeats 4000000 in
theorem t_M_worst_L116 (l0 : xN) (l1 : Int32) (l2 : Int32) (l3 : Int32) (K116_294 : Int32 → xH → Prop) (Q : Int32 → xH → Prop) (hK116_294 : ∀ (x4 : Int32) (h : xH), K116_294 x4 h → WP M_M_worst 294 [(4, xi x4)] [] h 0 (qi Q)) : ∀ (f : Nat) (l4 : Int32) (l5 : Int32) (h : xH), p_M_worst_L116 l0 l1 l2 l3 K116_294 Q f l4 l5 h → WP M_M_worst 116 [(0, xr l0), (1, xi l1), (2, xi l2), (3, xi l3), (4, xi l4), (5, xi l5)] [] h 0 (qi Q) := by
  intro f
  induction f with
  | zero => exact fun _ _ _ H => H.elim
  | succ f hB116 =>
    intro l4 l5 h H
    unfold p_M_worst_L116 at H
    refine wp_iload rfl dX11_worst_116 ?_
    refine wp_iload_n 3 rfl rfl dX11_worst_118 ?_
    refine WP.at 119 rfl ?_
    refine wp_icmp_gt 294 (by decide) dX11_worst_119 (fun c38 => ?_) (fun c38 => ?_)
    · replace H := H.1 c38
      exact WP.pick [4] rfl (hK116_294 l4 _ H)
    · replace H := H.2 c38
      refine wp_iconst (1 : Int32) (by decide) dX11_worst_122 ?_
      refine wp_istore (Nat.le_of_ble_eq_true rfl) dX11_worst_123 (ls' := [(6, xi (1 : Int32)), (0, xr l0), (1, xi l1), (2, xi l2), (3, xi l3), (4, xi l4), (5, xi l5)]) rfl ?_
      refine WP.at 125 rfl ?_
      obtain ⟨f88, H⟩ := H
      refine WP.pick [1, 2, 3, 4, 5, 6, 0] rfl (t_M_worst_L125 l0 l1 l2 l3 l5 _ Q ?_ f88 l4 (1 : Int32) _ H)
      · intro x84 h85 H
        refine wp_iincN (1 : Int32) (by decide) rfl (Nat.le_of_ble_eq_true rfl) dX11_worst_288 (ls' := fun v86 => [(5, xi v86), (0, xr l0), (1, xi l1), (2, xi l2), (3, xi l3), (4, xi x84)]) (fun _ => rfl) (fun v86 e87 => ?_)
        replace H := H v86 e87
        refine WP.at 291 rfl ?_
        refine wp_goto 116 (by decide) dX11_worst_291 ?_
        exact WP.pick [1, 2, 3, 4, 5, 0] rfl (hB116 x84 v86 _ H)
def p_M_worst (l0 : xN) (l1 : Int32) (h : xH) (Q : Int32 → xH → Prop) : Prop := (kd l0.1 = (1, 10)) ∧ p_M_isRace l0 l1 h (fun (v3 : Int32) (h2 : xH) => ((¬ v3 = 0 → (kd (hR h2 l0 1).1 = (2, 0)) ∧ (vp_in l1 (hS h2 (hR h2 l0 1) - 1)) ∧ ((¬ (hI h2 (hR h2 l0 1) l1.toNatClampNeg) = (2 : Int32) → p_M_running l0 l1 h2 (fun (v9 : Int32) (h8 : xH) => (((2 : Int32) ≤ v9 → ∀ h11 : xH, h11 = sI h8 l0 35 (0 : Int32) → (∃ f92, p_M_worst_L45 l0 l1 v9 (fun (h27 : xH) => (kd (hR h27 l0 48).1 = (2, 0)) ∧ (vp_in (4 : Int32) (hS h27 (hR h27 l0 48) - 1)) ∧ ∀ h30 : xH, h30 = sI h27 (hR h27 l0 48) (4 : Int32).toNatClampNeg (hI h27 l0 35) → (kd (hR h30 l0 2).1 = (2, 0)) ∧ (vp_in l1 (hS h30 (hR h30 l0 2) - 1)) ∧ ∀ v34 : Int32, v34 = hI h30 (hR h30 l0 2) l1.toNatClampNeg → ∀ h36 : xH, h36 = sI h30 l0 47 (0 : Int32) → (∃ f91, p_M_worst_L116 l0 l1 v9 v34 (fun (x89 : Int32) (h90 : xH) => Q x89 h90) Q f91 (-1 : Int32) (1 : Int32) h36)) Q f92 (0 : Int32) h11)) ∧ (¬ (2 : Int32) ≤ v9 → Q (-5 : Int32) h8)))) ∧ ((hI h2 (hR h2 l0 1) l1.toNatClampNeg) = (2 : Int32) → Q (-6 : Int32) h2))) ∧ (v3 = 0 → Q (-2 : Int32) h2)))
set_option maxRecDepth 100000 in
set_option maxHeartbeats 4000000 in
theorem t_M_worst (l0 : xN) (l1 : Int32) (h : xH) (Q : Int32 → xH → Prop) (H : p_M_worst l0 l1 h Q) : WP M_M_worst 0 [(0, xr l0), (1, xi l1)] [] h 0 (qi Q) := by
  unfold p_M_worst at H
  refine wp_aload_n 0 rfl rfl dX11_worst_0 ?_
  refine wp_iload_n 1 rfl rfl dX11_worst_1 ?_
  refine WP.at 2 rfl ?_
  obtain ⟨q1, H⟩ := H
  refine wp_cVi (M2 := M_M_isRace) coX11 l0 q1 [xi l1] rfl lv_X11_179 mo_M_isRace (Nat.le_of_ble_eq_true rfl) ⟨(Nat.le_of_ble_eq_true rfl), (Nat.le_of_ble_eq_true rfl)⟩ (Nat.le_of_ble_eq_true rfl) (Nat.le_of_ble_eq_true rfl) dX11_worst_2 (t_M_isRace l0 l1 _ _ H) (fun v3 h2 H => ?_)
  refine WP.at 5 rfl ?_
  refine wp_if_ne 11 (by decide) dX11_worst_5 (fun c4 => ?_) (fun c4 => ?_)
  · replace H := H.1 c4
    refine wp_aload_n 0 rfl rfl dX11_worst_11 ?_
    refine wp_getr coX11 1 (Nat.le_of_ble_eq_true rfl) fl_X11_7 rfl q1 dX11_worst_12 ?_
    refine wp_iload_n 1 rfl rfl dX11_worst_15 ?_
    obtain ⟨q5, H⟩ := H
    obtain ⟨q6, H⟩ := H
    refine wp_iaload q5 q6 dX11_worst_16 ?_
    refine wp_iconst (2 : Int32) (by decide) dX11_worst_17 ?_
    refine WP.at 18 rfl ?_
    refine wp_icmp_ne 24 (by decide) dX11_worst_18 (fun c7 => ?_) (fun c7 => ?_)
    · replace H := H.1 c7
      refine wp_aload_n 0 rfl rfl dX11_worst_24 ?_
      refine wp_iload_n 1 rfl rfl dX11_worst_25 ?_
      refine WP.at 26 rfl ?_
      refine wp_cVi (M2 := M_M_running) coX11 l0 q1 [xi l1] rfl lv_X11_212 mo_M_running (Nat.le_of_ble_eq_true rfl) ⟨(Nat.le_of_ble_eq_true rfl), (Nat.le_of_ble_eq_true rfl)⟩ (Nat.le_of_ble_eq_true rfl) (Nat.le_of_ble_eq_true rfl) dX11_worst_26 (t_M_running l0 l1 _ _ H) (fun v9 h8 H => ?_)
      refine wp_istore_n 2 rfl (Nat.le_of_ble_eq_true rfl) dX11_worst_29 (ls' := [(2, xi v9), (0, xr l0), (1, xi l1)]) rfl ?_
      refine wp_iload_n 2 rfl rfl dX11_worst_30 ?_
      refine wp_iconst (2 : Int32) (by decide) dX11_worst_31 ?_
      refine WP.at 32 rfl ?_
      refine wp_icmp_ge 38 (by decide) dX11_worst_32 (fun c10 => ?_) (fun c10 => ?_)
      · replace H := H.1 c10
        refine wp_aload_n 0 rfl rfl dX11_worst_38 ?_
        refine wp_iconst (0 : Int32) (by decide) dX11_worst_39 ?_
        refine wp_puti coX11 35 (Nat.le_of_ble_eq_true rfl) fl_X11_215 rfl rfl ⟨rfl, rfl⟩ q1 dX11_worst_40 ?_
        refine wp_nh (fun h11 e12 => ?_)
        replace H := H h11 e12
        refine wp_iconst (0 : Int32) (by decide) dX11_worst_43 ?_
        refine wp_istore_n 3 rfl (Nat.le_of_ble_eq_true rfl) dX11_worst_44 (ls' := [(3, xi (0 : Int32)), (2, xi v9), (0, xr l0), (1, xi l1)]) rfl ?_
        refine WP.at 45 rfl ?_
        obtain ⟨f92, H⟩ := H
        refine WP.pick [2, 3, 1, 0] rfl (t_M_worst_L45 l0 l1 v9 _ Q ?_ f92 (0 : Int32) _ H)
        · intro h27 H
          refine wp_aload_n 0 rfl rfl dX11_worst_88 ?_
          refine wp_getr coX11 48 (Nat.le_of_ble_eq_true rfl) fl_X11_116 rfl q1 dX11_worst_89 ?_
          refine wp_iconst (4 : Int32) (by decide) dX11_worst_92 ?_
          refine wp_aload_n 0 rfl rfl dX11_worst_93 ?_
          refine wp_geti coX11 35 (Nat.le_of_ble_eq_true rfl) fl_X11_215 rfl q1 dX11_worst_94 ?_
          obtain ⟨q28, H⟩ := H
          obtain ⟨q29, H⟩ := H
          refine wp_iastore q28 q29 dX11_worst_97 ?_
          refine wp_nh (fun h30 e31 => ?_)
          replace H := H h30 e31
          refine wp_aload_n 0 rfl rfl dX11_worst_98 ?_
          refine WP.at 99 rfl ?_
          refine wp_getr coX11 2 (Nat.le_of_ble_eq_true rfl) fl_X11_13 rfl q1 dX11_worst_99 ?_
          refine wp_iload_n 1 rfl rfl dX11_worst_102 ?_
          obtain ⟨q32, H⟩ := H
          obtain ⟨q33, H⟩ := H
          refine wp_iaload q32 q33 dX11_worst_103 ?_
          refine wp_nm (fun v34 e35 => ?_)
          replace H := H v34 e35
          refine wp_istore_n 3 rfl (Nat.le_of_ble_eq_true rfl) dX11_worst_104 (ls' := [(3, xi v34), (0, xr l0), (1, xi l1), (2, xi v9)]) rfl ?_
          refine wp_iconst (-1 : Int32) (by decide) dX11_worst_105 ?_
          refine wp_istore (Nat.le_of_ble_eq_true rfl) dX11_worst_106 (ls' := [(4, xi (-1 : Int32)), (3, xi v34), (0, xr l0), (1, xi l1), (2, xi v9)]) rfl ?_
          refine wp_aload_n 0 rfl rfl dX11_worst_108 ?_
          refine wp_iconst (0 : Int32) (by decide) dX11_worst_109 ?_
          refine WP.at 110 rfl ?_
          refine wp_puti coX11 47 (Nat.le_of_ble_eq_true rfl) fl_X11_310 rfl rfl ⟨rfl, rfl⟩ q1 dX11_worst_110 ?_
          refine wp_nh (fun h36 e37 => ?_)
          replace H := H h36 e37
          refine wp_iconst (1 : Int32) (by decide) dX11_worst_113 ?_
          refine wp_istore (Nat.le_of_ble_eq_true rfl) dX11_worst_114 (ls' := [(5, xi (1 : Int32)), (4, xi (-1 : Int32)), (3, xi v34), (0, xr l0), (1, xi l1), (2, xi v9)]) rfl ?_
          refine WP.at 116 rfl ?_
          obtain ⟨f91, H⟩ := H
          refine WP.pick [3, 4, 5, 2, 1, 0] rfl (t_M_worst_L116 l0 l1 v9 v34 _ Q ?_ f91 (-1 : Int32) (1 : Int32) _ H)
          · intro x89 h90 H
            refine wp_iload rfl dX11_worst_294 ?_
            exact wp_iret trivial dX11_worst_296 H
      · replace H := H.2 c10
        refine wp_bipush (-5 : Int32) (by decide) dX11_worst_35 ?_
        exact wp_iret trivial dX11_worst_37 H
    · replace H := H.2 c7
      refine wp_bipush (-6 : Int32) (by decide) dX11_worst_21 ?_
      exact wp_iret trivial dX11_worst_23 H
  · replace H := H.2 c4
    refine wp_bipush (-2 : Int32) (by decide) dX11_worst_8 ?_
    exact wp_iret trivial dX11_worst_10 H
def p_T_worstDue (l0 : xN) (h : xH) (Q : Int32 → xH → Prop) : Prop := (kd l0.1 = (1, 9)) ∧ Q (hI h l0 13) h
set_option maxRecDepth 100000 in
set_option maxHeartbeats 4000000 in
theorem t_T_worstDue (l0 : xN) (h : xH) (Q : Int32 → xH → Prop) (H : p_T_worstDue l0 h Q) : WP M_T_worstDue 0 [(0, xr l0)] [] h 0 (qi Q) := by
  unfold p_T_worstDue at H
  refine wp_aload_n 0 rfl rfl dX10_worstDue_0 ?_
  obtain ⟨q1, H⟩ := H
  refine wp_geti coX10 13 (Nat.le_of_ble_eq_true rfl) fl_X10_269 rfl q1 dX10_worstDue_1 ?_
  exact wp_iret trivial dX10_worstDue_4 H
def p_M_worstDue (l0 : xN) (h : xH) (Q : Int32 → xH → Prop) : Prop := (kd l0.1 = (1, 10)) ∧ Q (hI h l0 47) h
set_option maxRecDepth 100000 in
set_option maxHeartbeats 4000000 in
theorem t_M_worstDue (l0 : xN) (h : xH) (Q : Int32 → xH → Prop) (H : p_M_worstDue l0 h Q) : WP M_M_worstDue 0 [(0, xr l0)] [] h 0 (qi Q) := by
  unfold p_M_worstDue at H
  refine wp_aload_n 0 rfl rfl dX11_worstDue_0 ?_
  obtain ⟨q1, H⟩ := H
  refine wp_geti coX11 47 (Nat.le_of_ble_eq_true rfl) fl_X11_310 rfl q1 dX11_worstDue_1 ?_
  exact wp_iret trivial dX11_worstDue_4 H
def p_T_found (l0 : xN) (l1 : Int32) (h : xH) (Q : Int32 → xH → Prop) : Prop := (kd l0.1 = (1, 9)) ∧ ∀ h2 : xH, h2 = sI h l0 15 l1 → (kd (hR h2 l0 9).1 = (2, 0)) ∧ (vp_in l1 (hS h2 (hR h2 l0 9) - 1)) ∧ (vp_in l1 (hS h2 (hR h2 l0 9) - 1)) ∧ ∀ h7 : xH, h7 = sI h2 (hR h2 l0 9) l1.toNatClampNeg ((hI h2 (hR h2 l0 9) l1.toNatClampNeg) + (1 : Int32)) → Q ((-10 : Int32) - l1) h7
set_option maxRecDepth 100000 in
set_option maxHeartbeats 4000000 in
theorem t_T_found (l0 : xN) (l1 : Int32) (h : xH) (Q : Int32 → xH → Prop) (H : p_T_found l0 l1 h Q) : WP M_T_found 0 [(0, xr l0), (1, xi l1)] [] h 0 (qi Q) := by
  unfold p_T_found at H
  refine wp_aload_n 0 rfl rfl dX10_found_0 ?_
  refine wp_iload_n 1 rfl rfl dX10_found_1 ?_
  obtain ⟨q1, H⟩ := H
  refine wp_puti coX10 15 (Nat.le_of_ble_eq_true rfl) fl_X10_397 rfl rfl ⟨rfl, rfl⟩ q1 dX10_found_2 ?_
  refine wp_nh (fun h2 e3 => ?_)
  replace H := H h2 e3
  refine wp_aload_n 0 rfl rfl dX10_found_5 ?_
  refine wp_getr coX10 9 (Nat.le_of_ble_eq_true rfl) fl_X10_64 rfl q1 dX10_found_6 ?_
  refine wp_iload_n 1 rfl rfl dX10_found_9 ?_
  refine wp_dup2 rfl rfl dX10_found_10 ?_
  refine WP.at 11 rfl ?_
  obtain ⟨q4, H⟩ := H
  obtain ⟨q5, H⟩ := H
  refine wp_iaload q4 q5 dX10_found_11 ?_
  refine wp_iconst (1 : Int32) (by decide) dX10_found_12 ?_
  refine wp_iadd dX10_found_13 ?_
  obtain ⟨q6, H⟩ := H
  refine wp_iastore q4 q6 dX10_found_14 ?_
  refine wp_nh (fun h7 e8 => ?_)
  replace H := H h7 e8
  refine wp_bipush (-10 : Int32) (by decide) dX10_found_15 ?_
  refine wp_iload_n 1 rfl rfl dX10_found_17 ?_
  refine wp_isub dX10_found_18 ?_
  exact wp_iret trivial dX10_found_19 H
def p_T_allDeducted_L4 (l0 : xN) (K4_44 : Int64 → xH → Prop) (Q : Int64 → xH → Prop) : Nat → Int64 → Int32 → xH → Prop
  | 0, _, _, _ => False
  | f + 1, l1, l3, h => (((48 : Int32) < l3 → K4_44 l1 h) ∧ (¬ (48 : Int32) < l3 → (kd l0.1 = (1, 9)) ∧ (kd (hR h l0 1).1 = (5, 3)) ∧ (vp_in l3 (hS h (hR h l0 1) - 1)) ∧ ((¬ (hR h (hR h l0 1) l3.toNatClampNeg).1 = 0 → (vp_in l3 (hS h (hR h l0 1) - 1)) ∧ (kd (hR h (hR h l0 1) l3.toNatClampNeg).1 = (1, 3)) ∧ (kd (hR h (hR h (hR h l0 1) l3.toNatClampNeg) 8).1 = (2, 0)) ∧ (vp_in (3 : Int32) (hS h (hR h (hR h (hR h l0 1) l3.toNatClampNeg) 8) - 1)) ∧ ∀ v10 : Int64, v10 = l1 + ((hI h (hR h (hR h (hR h l0 1) l3.toNatClampNeg) 8) (3 : Int32).toNatClampNeg).toInt64) → ∀ v12 : Int32, v12 = l3 + (1 : Int32) → (p_T_allDeducted_L4 l0 K4_44 Q f) v10 v12 h) ∧ ((hR h (hR h l0 1) l3.toNatClampNeg).1 = 0 → ∀ v14 : Int64, v14 = l1 + (0 : Int64) → ∀ v16 : Int32, v16 = l3 + (1 : Int32) → (p_T_allDeducted_L4 l0 K4_44 Q f) v14 v16 h))))
set_option maxRecDepth 100000 in
set_option maxHeartbeats 4000000 in
theorem t_T_allDeducted_L4 (l0 : xN) (K4_44 : Int64 → xH → Prop) (Q : Int64 → xH → Prop) (hK4_44 : ∀ (x1 : Int64) (h : xH), K4_44 x1 h → WP M_T_allDeducted 44 [(1, xl x1)] [] h 0 (ql Q)) : ∀ (f : Nat) (l1 : Int64) (l3 : Int32) (h : xH), p_T_allDeducted_L4 l0 K4_44 Q f l1 l3 h → WP M_T_allDeducted 4 [(0, xr l0), (1, xl l1), (3, xi l3)] [] h 0 (ql Q) := by
  intro f
  induction f with
  | zero => exact fun _ _ _ H => H.elim
  | succ f hB4 =>
    intro l1 l3 h H
    unfold p_T_allDeducted_L4 at H
    refine wp_iload_n 3 rfl rfl dX10_allDeducted_4 ?_
    refine wp_bipush (48 : Int32) (by decide) dX10_allDeducted_5 ?_
    refine WP.at 7 rfl ?_
    refine wp_icmp_gt 44 (by decide) dX10_allDeducted_7 (fun c1 => ?_) (fun c1 => ?_)
    · replace H := H.1 c1
      exact WP.pick [1] rfl (hK4_44 l1 _ H)
    · replace H := H.2 c1
      refine wp_lload_n 1 rfl rfl dX10_allDeducted_10 ?_
      refine wp_aload_n 0 rfl rfl dX10_allDeducted_11 ?_
      obtain ⟨q2, H⟩ := H
      refine wp_getr coX10 1 (Nat.le_of_ble_eq_true rfl) fl_X10_17 rfl q2 dX10_allDeducted_12 ?_
      refine wp_iload_n 3 rfl rfl dX10_allDeducted_15 ?_
      obtain ⟨q3, H⟩ := H
      obtain ⟨q4, H⟩ := H
      refine wp_aaload q3 q4 dX10_allDeducted_16 ?_
      refine WP.at 17 rfl ?_
      refine wp_ifnonnull 24 (by decide) dX10_allDeducted_17 (fun c5 => ?_) (fun c5 => ?_)
      · replace H := H.1 c5
        refine wp_aload_n 0 rfl rfl dX10_allDeducted_24 ?_
        refine wp_getr coX10 1 (Nat.le_of_ble_eq_true rfl) fl_X10_17 rfl q2 dX10_allDeducted_25 ?_
        refine wp_iload_n 3 rfl rfl dX10_allDeducted_28 ?_
        obtain ⟨q6, H⟩ := H
        refine wp_aaload q3 q6 dX10_allDeducted_29 ?_
        obtain ⟨q7, H⟩ := H
        refine wp_getr coX4 8 (Nat.le_of_ble_eq_true rfl) fl_X10_259 rfl q7 dX10_allDeducted_30 ?_
        refine wp_iconst (3 : Int32) (by decide) dX10_allDeducted_33 ?_
        obtain ⟨q8, H⟩ := H
        obtain ⟨q9, H⟩ := H
        refine wp_iaload q8 q9 dX10_allDeducted_34 ?_
        refine WP.at 35 rfl ?_
        refine wp_i2l dX10_allDeducted_35 ?_
        refine wp_ladd dX10_allDeducted_36 ?_
        refine wp_nml (fun v10 e11 => ?_)
        replace H := H v10 e11
        refine wp_lstore_n 1 rfl (Nat.le_of_ble_eq_true rfl) dX10_allDeducted_37 (ls' := [(1, xl v10), (0, xr l0), (3, xi l3)]) rfl ?_
        refine wp_iincN (1 : Int32) (by decide) rfl (Nat.le_of_ble_eq_true rfl) dX10_allDeducted_38 (ls' := fun v12 => [(3, xi v12), (1, xl v10), (0, xr l0)]) (fun _ => rfl) (fun v12 e13 => ?_)
        replace H := H v12 e13
        refine WP.at 41 rfl ?_
        refine wp_goto 4 (by decide) dX10_allDeducted_41 ?_
        exact WP.pick [2, 1, 0] rfl (hB4 v10 v12 _ H)
      · replace H := H.2 c5
        refine wp_lconst (0 : Int64) (by decide) dX10_allDeducted_20 ?_
        refine WP.at 21 rfl ?_
        refine wp_goto 36 (by decide) dX10_allDeducted_21 ?_
        refine wp_ladd dX10_allDeducted_36 ?_
        refine wp_nml (fun v14 e15 => ?_)
        replace H := H v14 e15
        refine wp_lstore_n 1 rfl (Nat.le_of_ble_eq_true rfl) dX10_allDeducted_37 (ls' := [(1, xl v14), (0, xr l0), (3, xi l3)]) rfl ?_
        refine wp_iincN (1 : Int32) (by decide) rfl (Nat.le_of_ble_eq_true rfl) dX10_allDeducted_38 (ls' := fun v16 => [(3, xi v16), (1, xl v14), (0, xr l0)]) (fun _ => rfl) (fun v16 e17 => ?_)
        replace H := H v16 e17
        refine WP.at 41 rfl ?_
        refine wp_goto 4 (by decide) dX10_allDeducted_41 ?_
        exact WP.pick [2, 1, 0] rfl (hB4 v14 v16 _ H)
def p_T_allDeducted (l0 : xN) (h : xH) (Q : Int64 → xH → Prop) : Prop := (∃ f20, p_T_allDeducted_L4 l0 (fun (x18 : Int64) (h19 : xH) => Q x18 h19) Q f20 (0 : Int64) (0 : Int32) h)
set_option maxRecDepth 100000 in
set_option maxHeartbeats 4000000 in
theorem t_T_allDeducted (l0 : xN) (h : xH) (Q : Int64 → xH → Prop) (H : p_T_allDeducted l0 h Q) : WP M_T_allDeducted 0 [(0, xr l0)] [] h 0 (ql Q) := by
  unfold p_T_allDeducted at H
  refine wp_lconst (0 : Int64) (by decide) dX10_allDeducted_0 ?_
  refine wp_lstore_n 1 rfl (Nat.le_of_ble_eq_true rfl) dX10_allDeducted_1 (ls' := [(1, xl (0 : Int64)), (0, xr l0)]) rfl ?_
  refine wp_iconst (0 : Int32) (by decide) dX10_allDeducted_2 ?_
  refine wp_istore_n 3 rfl (Nat.le_of_ble_eq_true rfl) dX10_allDeducted_3 (ls' := [(3, xi (0 : Int32)), (1, xl (0 : Int64)), (0, xr l0)]) rfl ?_
  refine WP.at 4 rfl ?_
  obtain ⟨f20, H⟩ := H
  refine WP.pick [2, 1, 0] rfl (t_T_allDeducted_L4 l0 _ Q ?_ f20 (0 : Int64) (0 : Int32) _ H)
  · intro x18 h19 H
    refine wp_lload_n 1 rfl rfl dX10_allDeducted_44 ?_
    exact wp_lret trivial dX10_allDeducted_45 H
def p_T_premium_L18 (l0 : xN) (l1 : Int32) (K18_81 : Int64 → Int64 → xH → Prop) (Q : Int32 → xH → Prop) : Nat → Int64 → Int64 → Int32 → xH → Prop
  | 0, _, _, _, _ => False
  | f + 1, l2, l4, l6, h => (kd l0.1 = (1, 9)) ∧ (((hI h l0 11) ≤ l6 → K18_81 l2 l4 h) ∧ (¬ (hI h l0 11) ≤ l6 → (kd (hR h l0 2).1 = (5, 8)) ∧ (vp_in l6 (hS h (hR h l0 2) - 1)) ∧ (kd (hR h (hR h l0 2) l6.toNatClampNeg).1 = (1, 8)) ∧ ∀ v9 : Int64, v9 = l4 + ((hI h (hR h (hR h l0 2) l6.toNatClampNeg) 2).toInt64) → (vp_in l6 (hS h (hR h l0 2) - 1)) ∧ ((¬ (hI h (hR h (hR h l0 2) l6.toNatClampNeg) 1) = l1 → ∀ v13 : Int64, v13 = l2 + (0 : Int64) → ∀ v15 : Int32, v15 = l6 + (1 : Int32) → (p_T_premium_L18 l0 l1 K18_81 Q f) v13 v9 v15 h) ∧ ((hI h (hR h (hR h l0 2) l6.toNatClampNeg) 1) = l1 → (vp_in l6 (hS h (hR h l0 2) - 1)) ∧ ∀ v18 : Int64, v18 = l2 + ((hI h (hR h (hR h l0 2) l6.toNatClampNeg) 2).toInt64) → ∀ v20 : Int32, v20 = l6 + (1 : Int32) → (p_T_premium_L18 l0 l1 K18_81 Q f) v18 v9 v20 h))))
set_option maxRecDepth 100000 in
set_option maxHeartbeats 4000000 in
theorem t_T_premium_L18 (l0 : xN) (l1 : Int32) (K18_81 : Int64 → Int64 → xH → Prop) (Q : Int32 → xH → Prop) (hK18_81 : ∀ (x2 : Int64) (x4 : Int64) (h : xH), K18_81 x2 x4 h → WP M_T_premium 81 [(0, xr l0), (2, xl x2), (4, xl x4)] [] h 0 (qi Q)) : ∀ (f : Nat) (l2 : Int64) (l4 : Int64) (l6 : Int32) (h : xH), p_T_premium_L18 l0 l1 K18_81 Q f l2 l4 l6 h → WP M_T_premium 18 [(0, xr l0), (1, xi l1), (2, xl l2), (4, xl l4), (6, xi l6)] [] h 0 (qi Q) := by
  intro f
  induction f with
  | zero => exact fun _ _ _ _ H => H.elim
  | succ f hB18 =>
    intro l2 l4 l6 h H
    unfold p_T_premium_L18 at H
    refine wp_iload rfl dX10_premium_18 ?_
    refine wp_aload_n 0 rfl rfl dX10_premium_20 ?_
    obtain ⟨q4, H⟩ := H
    refine wp_geti coX10 11 (Nat.le_of_ble_eq_true rfl) fl_X10_104 rfl q4 dX10_premium_21 ?_
    refine WP.at 24 rfl ?_
    refine wp_icmp_ge 81 (by decide) dX10_premium_24 (fun c5 => ?_) (fun c5 => ?_)
    · replace H := H.1 c5
      exact WP.pick [0, 2, 3] rfl (hK18_81 l2 l4 _ H)
    · replace H := H.2 c5
      refine wp_lload rfl dX10_premium_27 ?_
      refine wp_aload_n 0 rfl rfl dX10_premium_29 ?_
      refine wp_getr coX10 2 (Nat.le_of_ble_eq_true rfl) fl_X10_23 rfl q4 dX10_premium_30 ?_
      refine wp_iload rfl dX10_premium_33 ?_
      obtain ⟨q6, H⟩ := H
      obtain ⟨q7, H⟩ := H
      refine wp_aaload q6 q7 dX10_premium_35 ?_
      obtain ⟨q8, H⟩ := H
      refine wp_geti coX9 2 (Nat.le_of_ble_eq_true rfl) fl_X10_221 rfl q8 dX10_premium_36 ?_
      refine wp_i2l dX10_premium_39 ?_
      refine WP.at 40 rfl ?_
      refine wp_ladd dX10_premium_40 ?_
      refine wp_nml (fun v9 e10 => ?_)
      replace H := H v9 e10
      refine wp_lstore (Nat.le_of_ble_eq_true rfl) dX10_premium_41 (ls' := [(4, xl v9), (0, xr l0), (1, xi l1), (2, xl l2), (6, xi l6)]) rfl ?_
      refine wp_lload_n 2 rfl rfl dX10_premium_43 ?_
      refine wp_aload_n 0 rfl rfl dX10_premium_44 ?_
      refine wp_getr coX10 2 (Nat.le_of_ble_eq_true rfl) fl_X10_23 rfl q4 dX10_premium_45 ?_
      refine wp_iload rfl dX10_premium_48 ?_
      obtain ⟨q11, H⟩ := H
      refine wp_aaload q6 q11 dX10_premium_50 ?_
      refine wp_geti coX9 1 (Nat.le_of_ble_eq_true rfl) fl_X10_224 rfl q8 dX10_premium_51 ?_
      refine WP.at 54 rfl ?_
      refine wp_iload_n 1 rfl rfl dX10_premium_54 ?_
      refine WP.at 55 rfl ?_
      refine wp_icmp_ne 72 (by decide) dX10_premium_55 (fun c12 => ?_) (fun c12 => ?_)
      · replace H := H.1 c12
        refine wp_lconst (0 : Int64) (by decide) dX10_premium_72 ?_
        refine wp_ladd dX10_premium_73 ?_
        refine wp_nml (fun v13 e14 => ?_)
        replace H := H v13 e14
        refine wp_lstore_n 2 rfl (Nat.le_of_ble_eq_true rfl) dX10_premium_74 (ls' := [(2, xl v13), (4, xl v9), (0, xr l0), (1, xi l1), (6, xi l6)]) rfl ?_
        refine wp_iincN (1 : Int32) (by decide) rfl (Nat.le_of_ble_eq_true rfl) dX10_premium_75 (ls' := fun v15 => [(6, xi v15), (2, xl v13), (4, xl v9), (0, xr l0), (1, xi l1)]) (fun _ => rfl) (fun v15 e16 => ?_)
        replace H := H v15 e16
        refine WP.at 78 rfl ?_
        refine wp_goto 18 (by decide) dX10_premium_78 ?_
        exact WP.pick [3, 4, 1, 2, 0] rfl (hB18 v13 v9 v15 _ H)
      · replace H := H.2 c12
        refine wp_aload_n 0 rfl rfl dX10_premium_58 ?_
        refine wp_getr coX10 2 (Nat.le_of_ble_eq_true rfl) fl_X10_23 rfl q4 dX10_premium_59 ?_
        refine wp_iload rfl dX10_premium_62 ?_
        obtain ⟨q17, H⟩ := H
        refine wp_aaload q6 q17 dX10_premium_64 ?_
        refine wp_geti coX9 2 (Nat.le_of_ble_eq_true rfl) fl_X10_221 rfl q8 dX10_premium_65 ?_
        refine wp_i2l dX10_premium_68 ?_
        refine WP.at 69 rfl ?_
        refine wp_goto 73 (by decide) dX10_premium_69 ?_
        refine wp_ladd dX10_premium_73 ?_
        refine wp_nml (fun v18 e19 => ?_)
        replace H := H v18 e19
        refine wp_lstore_n 2 rfl (Nat.le_of_ble_eq_true rfl) dX10_premium_74 (ls' := [(2, xl v18), (4, xl v9), (0, xr l0), (1, xi l1), (6, xi l6)]) rfl ?_
        refine wp_iincN (1 : Int32) (by decide) rfl (Nat.le_of_ble_eq_true rfl) dX10_premium_75 (ls' := fun v20 => [(6, xi v20), (2, xl v18), (4, xl v9), (0, xr l0), (1, xi l1)]) (fun _ => rfl) (fun v20 e21 => ?_)
        replace H := H v20 e21
        refine WP.at 78 rfl ?_
        refine wp_goto 18 (by decide) dX10_premium_78 ?_
        exact WP.pick [3, 4, 1, 2, 0] rfl (hB18 v18 v9 v20 _ H)
def p_T_premium (l0 : xN) (l1 : Int32) (h : xH) (Q : Int32 → xH → Prop) : Prop := p_T_isWindow l1 h (fun (v2 : Int32) (h1 : xH) => ((¬ v2 = 0 → (∃ f33, p_T_premium_L18 l0 l1 (fun (x22 : Int64) (x23 : Int64) (h24 : xH) => ((¬ (lg_cmp x23 (0 : Int64)) = 0 → (kd l0.1 = (1, 9)) ∧ p_T_allDeducted l0 h24 (fun (v28 : Int64) (h27 : xH) => (¬ x23 = 0) ∧ Q (((v28 * x22) / x23).toInt32) h27)) ∧ ((lg_cmp x23 (0 : Int64)) = 0 → (kd l0.1 = (1, 9)) ∧ p_T_found l0 (6 : Int32) h24 (fun (v32 : Int32) (h31 : xH) => Q v32 h31)))) Q f33 (0 : Int64) (0 : Int64) (0 : Int32) h1)) ∧ (v2 = 0 → Q (-2 : Int32) h1)))
set_option maxRecDepth 100000 in
set_option maxHeartbeats 4000000 in
theorem t_T_premium (l0 : xN) (l1 : Int32) (h : xH) (Q : Int32 → xH → Prop) (H : p_T_premium l0 l1 h Q) : WP M_T_premium 0 [(0, xr l0), (1, xi l1)] [] h 0 (qi Q) := by
  unfold p_T_premium at H
  refine wp_iload_n 1 rfl rfl dX10_premium_0 ?_
  refine WP.at 1 rfl ?_
  refine wp_cSi (M2 := M_T_isWindow) [xi l1] rfl ls_X10_162 mo_T_isWindow (Nat.le_of_ble_eq_true rfl) ⟨(Nat.le_of_ble_eq_true rfl), (Nat.le_of_ble_eq_true rfl)⟩ (Nat.le_of_ble_eq_true rfl) (Nat.le_of_ble_eq_true rfl) dX10_premium_1 (t_T_isWindow l1 _ _ H) (fun v2 h1 H => ?_)
  refine WP.at 4 rfl ?_
  refine wp_if_ne 10 (by decide) dX10_premium_4 (fun c3 => ?_) (fun c3 => ?_)
  · replace H := H.1 c3
    refine wp_lconst (0 : Int64) (by decide) dX10_premium_10 ?_
    refine wp_lstore_n 2 rfl (Nat.le_of_ble_eq_true rfl) dX10_premium_11 (ls' := [(2, xl (0 : Int64)), (0, xr l0), (1, xi l1)]) rfl ?_
    refine wp_lconst (0 : Int64) (by decide) dX10_premium_12 ?_
    refine wp_lstore (Nat.le_of_ble_eq_true rfl) dX10_premium_13 (ls' := [(4, xl (0 : Int64)), (2, xl (0 : Int64)), (0, xr l0), (1, xi l1)]) rfl ?_
    refine wp_iconst (0 : Int32) (by decide) dX10_premium_15 ?_
    refine wp_istore (Nat.le_of_ble_eq_true rfl) dX10_premium_16 (ls' := [(6, xi (0 : Int32)), (4, xl (0 : Int64)), (2, xl (0 : Int64)), (0, xr l0), (1, xi l1)]) rfl ?_
    refine WP.at 18 rfl ?_
    obtain ⟨f33, H⟩ := H
    refine WP.pick [3, 4, 2, 1, 0] rfl (t_T_premium_L18 l0 l1 _ Q ?_ f33 (0 : Int64) (0 : Int64) (0 : Int32) _ H)
    · intro x22 x23 h24 H
      refine wp_lload rfl dX10_premium_81 ?_
      refine wp_lconst (0 : Int64) (by decide) dX10_premium_83 ?_
      refine wp_lcmp dX10_premium_84 ?_
      refine WP.at 85 rfl ?_
      refine wp_if_ne 95 (by decide) dX10_premium_85 (fun c25 => ?_) (fun c25 => ?_)
      · replace H := H.1 c25
        refine wp_aload_n 0 rfl rfl dX10_premium_95 ?_
        refine WP.at 96 rfl ?_
        obtain ⟨q26, H⟩ := H
        refine wp_cVl (M2 := M_T_allDeducted) coX10 l0 q26 [] rfl lv_X10_275 mo_T_allDeducted (Nat.le_of_ble_eq_true rfl) ⟨(Nat.le_of_ble_eq_true rfl), (Nat.le_of_ble_eq_true rfl)⟩ (Nat.le_of_ble_eq_true rfl) (Nat.le_of_ble_eq_true rfl) dX10_premium_96 (t_T_allDeducted l0 _ _ H) (fun v28 h27 H => ?_)
        refine wp_lload_n 2 rfl rfl dX10_premium_99 ?_
        refine wp_lmul dX10_premium_100 ?_
        refine wp_lload rfl dX10_premium_101 ?_
        obtain ⟨q29, H⟩ := H
        refine wp_ldiv q29 dX10_premium_103 ?_
        refine wp_l2i dX10_premium_104 ?_
        refine WP.at 105 rfl ?_
        exact wp_iret trivial dX10_premium_105 H
      · replace H := H.2 c25
        refine wp_aload_n 0 rfl rfl dX10_premium_88 ?_
        refine wp_bipush (6 : Int32) (by decide) dX10_premium_89 ?_
        refine WP.at 91 rfl ?_
        obtain ⟨q30, H⟩ := H
        refine wp_cVi (M2 := M_T_found) coX10 l0 q30 [xi (6 : Int32)] rfl lv_X10_272 mo_T_found (Nat.le_of_ble_eq_true rfl) ⟨(Nat.le_of_ble_eq_true rfl), (Nat.le_of_ble_eq_true rfl)⟩ (Nat.le_of_ble_eq_true rfl) (Nat.le_of_ble_eq_true rfl) dX10_premium_91 (t_T_found l0 (6 : Int32) _ _ H) (fun v32 h31 H => ?_)
        exact wp_iret trivial dX10_premium_94 H
  · replace H := H.2 c3
    refine wp_bipush (-2 : Int32) (by decide) dX10_premium_7 ?_
    exact wp_iret trivial dX10_premium_9 H
def p_M_meets (l0 : xN) (l1 : Int32) (h : xH) (Q : Int32 → xH → Prop) : Prop := (kd l0.1 = (1, 10)) ∧ ∀ h2 : xH, h2 = sI h l0 49 l1 → (kd (hR h2 l0 50).1 = (2, 0)) ∧ (vp_in l1 (hS h2 (hR h2 l0 50) - 1)) ∧ (vp_in l1 (hS h2 (hR h2 l0 50) - 1)) ∧ ∀ h7 : xH, h7 = sI h2 (hR h2 l0 50) l1.toNatClampNeg ((hI h2 (hR h2 l0 50) l1.toNatClampNeg) + (1 : Int32)) → Q ((-10 : Int32) - l1) h7
set_option maxRecDepth 100000 in
set_option maxHeartbeats 4000000 in
theorem t_M_meets (l0 : xN) (l1 : Int32) (h : xH) (Q : Int32 → xH → Prop) (H : p_M_meets l0 l1 h Q) : WP M_M_meets 0 [(0, xr l0), (1, xi l1)] [] h 0 (qi Q) := by
  unfold p_M_meets at H
  refine wp_aload_n 0 rfl rfl dX11_meets_0 ?_
  refine wp_iload_n 1 rfl rfl dX11_meets_1 ?_
  obtain ⟨q1, H⟩ := H
  refine wp_puti coX11 49 (Nat.le_of_ble_eq_true rfl) fl_X11_323 rfl rfl ⟨rfl, rfl⟩ q1 dX11_meets_2 ?_
  refine wp_nh (fun h2 e3 => ?_)
  replace H := H h2 e3
  refine wp_aload_n 0 rfl rfl dX11_meets_5 ?_
  refine wp_getr coX11 50 (Nat.le_of_ble_eq_true rfl) fl_X11_119 rfl q1 dX11_meets_6 ?_
  refine wp_iload_n 1 rfl rfl dX11_meets_9 ?_
  refine wp_dup2 rfl rfl dX11_meets_10 ?_
  refine WP.at 11 rfl ?_
  obtain ⟨q4, H⟩ := H
  obtain ⟨q5, H⟩ := H
  refine wp_iaload q4 q5 dX11_meets_11 ?_
  refine wp_iconst (1 : Int32) (by decide) dX11_meets_12 ?_
  refine wp_iadd dX11_meets_13 ?_
  obtain ⟨q6, H⟩ := H
  refine wp_iastore q4 q6 dX11_meets_14 ?_
  refine wp_nh (fun h7 e8 => ?_)
  replace H := H h7 e8
  refine wp_bipush (-10 : Int32) (by decide) dX11_meets_15 ?_
  refine wp_iload_n 1 rfl rfl dX11_meets_17 ?_
  refine wp_isub dX11_meets_18 ?_
  exact wp_iret trivial dX11_meets_19 H
def p_M_allDeducted_L4 (l0 : xN) (K4_25 : Int32 → xH → Prop) (Q : Int32 → xH → Prop) : Nat → Int32 → Int32 → xH → Prop
  | 0, _, _, _ => False
  | f + 1, l1, l2, h => (((49 : Int32) ≤ l2 → K4_25 l1 h) ∧ (¬ (49 : Int32) ≤ l2 → (kd l0.1 = (1, 10)) ∧ (kd (hR h l0 15).1 = (2, 0)) ∧ (vp_in l2 (hS h (hR h l0 15) - 1)) ∧ ∀ v5 : Int32, v5 = l1 + (hI h (hR h l0 15) l2.toNatClampNeg) → ∀ v7 : Int32, v7 = l2 + (1 : Int32) → (p_M_allDeducted_L4 l0 K4_25 Q f) v5 v7 h))
set_option maxRecDepth 100000 in
set_option maxHeartbeats 4000000 in
theorem t_M_allDeducted_L4 (l0 : xN) (K4_25 : Int32 → xH → Prop) (Q : Int32 → xH → Prop) (hK4_25 : ∀ (x1 : Int32) (h : xH), K4_25 x1 h → WP M_M_allDeducted 25 [(1, xi x1)] [] h 0 (qi Q)) : ∀ (f : Nat) (l1 : Int32) (l2 : Int32) (h : xH), p_M_allDeducted_L4 l0 K4_25 Q f l1 l2 h → WP M_M_allDeducted 4 [(0, xr l0), (1, xi l1), (2, xi l2)] [] h 0 (qi Q) := by
  intro f
  induction f with
  | zero => exact fun _ _ _ H => H.elim
  | succ f hB4 =>
    intro l1 l2 h H
    unfold p_M_allDeducted_L4 at H
    refine wp_iload_n 2 rfl rfl dX11_allDeducted_4 ?_
    refine wp_bipush (49 : Int32) (by decide) dX11_allDeducted_5 ?_
    refine WP.at 7 rfl ?_
    refine wp_icmp_ge 25 (by decide) dX11_allDeducted_7 (fun c1 => ?_) (fun c1 => ?_)
    · replace H := H.1 c1
      exact WP.pick [1] rfl (hK4_25 l1 _ H)
    · replace H := H.2 c1
      refine wp_iload_n 1 rfl rfl dX11_allDeducted_10 ?_
      refine wp_aload_n 0 rfl rfl dX11_allDeducted_11 ?_
      obtain ⟨q2, H⟩ := H
      refine wp_getr coX11 15 (Nat.le_of_ble_eq_true rfl) fl_X11_47 rfl q2 dX11_allDeducted_12 ?_
      refine wp_iload_n 2 rfl rfl dX11_allDeducted_15 ?_
      obtain ⟨q3, H⟩ := H
      obtain ⟨q4, H⟩ := H
      refine wp_iaload q3 q4 dX11_allDeducted_16 ?_
      refine wp_iadd dX11_allDeducted_17 ?_
      refine wp_nm (fun v5 e6 => ?_)
      replace H := H v5 e6
      refine wp_istore_n 1 rfl (Nat.le_of_ble_eq_true rfl) dX11_allDeducted_18 (ls' := [(1, xi v5), (0, xr l0), (2, xi l2)]) rfl ?_
      refine WP.at 19 rfl ?_
      refine wp_iincN (1 : Int32) (by decide) rfl (Nat.le_of_ble_eq_true rfl) dX11_allDeducted_19 (ls' := fun v7 => [(2, xi v7), (1, xi v5), (0, xr l0)]) (fun _ => rfl) (fun v7 e8 => ?_)
      replace H := H v7 e8
      refine WP.at 22 rfl ?_
      refine wp_goto 4 (by decide) dX11_allDeducted_22 ?_
      exact WP.pick [2, 1, 0] rfl (hB4 v5 v7 _ H)
def p_M_allDeducted (l0 : xN) (h : xH) (Q : Int32 → xH → Prop) : Prop := (∃ f11, p_M_allDeducted_L4 l0 (fun (x9 : Int32) (h10 : xH) => Q x9 h10) Q f11 (0 : Int32) (0 : Int32) h)
set_option maxRecDepth 100000 in
set_option maxHeartbeats 4000000 in
theorem t_M_allDeducted (l0 : xN) (h : xH) (Q : Int32 → xH → Prop) (H : p_M_allDeducted l0 h Q) : WP M_M_allDeducted 0 [(0, xr l0)] [] h 0 (qi Q) := by
  unfold p_M_allDeducted at H
  refine wp_iconst (0 : Int32) (by decide) dX11_allDeducted_0 ?_
  refine wp_istore_n 1 rfl (Nat.le_of_ble_eq_true rfl) dX11_allDeducted_1 (ls' := [(1, xi (0 : Int32)), (0, xr l0)]) rfl ?_
  refine wp_iconst (0 : Int32) (by decide) dX11_allDeducted_2 ?_
  refine wp_istore_n 2 rfl (Nat.le_of_ble_eq_true rfl) dX11_allDeducted_3 (ls' := [(2, xi (0 : Int32)), (1, xi (0 : Int32)), (0, xr l0)]) rfl ?_
  refine WP.at 4 rfl ?_
  obtain ⟨f11, H⟩ := H
  refine WP.pick [2, 1, 0] rfl (t_M_allDeducted_L4 l0 _ Q ?_ f11 (0 : Int32) (0 : Int32) _ H)
  · intro x9 h10 H
    refine wp_iload_n 1 rfl rfl dX11_allDeducted_25 ?_
    exact wp_iret trivial dX11_allDeducted_26 H
def p_M_premium_L34 (l0 : xN) (l1 : Int32) (K34_88 : Int64 → Int64 → xH → Prop) (Q : Int32 → xH → Prop) : Nat → Int64 → Int64 → Int32 → xH → Prop
  | 0, _, _, _, _ => False
  | f + 1, l2, l4, l6, h => (kd l0.1 = (1, 10)) ∧ (((hI h l0 23) ≤ l6 → K34_88 l2 l4 h) ∧ (¬ (hI h l0 23) ≤ l6 → (kd (hR h l0 28).1 = (2, 0)) ∧ (vp_in l6 (hS h (hR h l0 28) - 1)) ∧ ∀ v10 : Int64, v10 = l2 + ((hI h (hR h l0 28) l6.toNatClampNeg).toInt64) → (kd (hR h l0 30).1 = (2, 0)) ∧ (vp_in l6 (hS h (hR h l0 30) - 1)) ∧ ((¬ (hI h (hR h l0 30) l6.toNatClampNeg) = l1 → ∀ v15 : Int64, v15 = l4 + (0 : Int64) → ∀ v17 : Int32, v17 = l6 + (1 : Int32) → (p_M_premium_L34 l0 l1 K34_88 Q f) v10 v15 v17 h) ∧ ((hI h (hR h l0 30) l6.toNatClampNeg) = l1 → (vp_in l6 (hS h (hR h l0 28) - 1)) ∧ ∀ v20 : Int64, v20 = l4 + ((hI h (hR h l0 28) l6.toNatClampNeg).toInt64) → ∀ v22 : Int32, v22 = l6 + (1 : Int32) → (p_M_premium_L34 l0 l1 K34_88 Q f) v10 v20 v22 h))))
set_option maxRecDepth 100000 in
set_option maxHeartbeats 4000000 in
theorem t_M_premium_L34 (l0 : xN) (l1 : Int32) (K34_88 : Int64 → Int64 → xH → Prop) (Q : Int32 → xH → Prop) (hK34_88 : ∀ (x2 : Int64) (x4 : Int64) (h : xH), K34_88 x2 x4 h → WP M_M_premium 88 [(0, xr l0), (2, xl x2), (4, xl x4)] [] h 0 (qi Q)) : ∀ (f : Nat) (l2 : Int64) (l4 : Int64) (l6 : Int32) (h : xH), p_M_premium_L34 l0 l1 K34_88 Q f l2 l4 l6 h → WP M_M_premium 34 [(0, xr l0), (1, xi l1), (2, xl l2), (4, xl l4), (6, xi l6)] [] h 0 (qi Q) := by
  intro f
  induction f with
  | zero => exact fun _ _ _ _ H => H.elim
  | succ f hB34 =>
    intro l2 l4 l6 h H
    unfold p_M_premium_L34 at H
    refine wp_iload rfl dX11_premium_34 ?_
    refine wp_aload_n 0 rfl rfl dX11_premium_36 ?_
    obtain ⟨q6, H⟩ := H
    refine wp_geti coX11 23 (Nat.le_of_ble_eq_true rfl) fl_X11_205 rfl q6 dX11_premium_37 ?_
    refine WP.at 40 rfl ?_
    refine wp_icmp_ge 88 (by decide) dX11_premium_40 (fun c7 => ?_) (fun c7 => ?_)
    · replace H := H.1 c7
      exact WP.pick [0, 2, 3] rfl (hK34_88 l2 l4 _ H)
    · replace H := H.2 c7
      refine wp_lload_n 2 rfl rfl dX11_premium_43 ?_
      refine wp_aload_n 0 rfl rfl dX11_premium_44 ?_
      refine wp_getr coX11 28 (Nat.le_of_ble_eq_true rfl) fl_X11_80 rfl q6 dX11_premium_45 ?_
      refine wp_iload rfl dX11_premium_48 ?_
      obtain ⟨q8, H⟩ := H
      obtain ⟨q9, H⟩ := H
      refine wp_iaload q8 q9 dX11_premium_50 ?_
      refine wp_i2l dX11_premium_51 ?_
      refine wp_ladd dX11_premium_52 ?_
      refine WP.at 53 rfl ?_
      refine wp_nml (fun v10 e11 => ?_)
      replace H := H v10 e11
      refine wp_lstore_n 2 rfl (Nat.le_of_ble_eq_true rfl) dX11_premium_53 (ls' := [(2, xl v10), (0, xr l0), (1, xi l1), (4, xl l4), (6, xi l6)]) rfl ?_
      refine wp_lload rfl dX11_premium_54 ?_
      refine wp_aload_n 0 rfl rfl dX11_premium_56 ?_
      refine wp_getr coX11 30 (Nat.le_of_ble_eq_true rfl) fl_X11_86 rfl q6 dX11_premium_57 ?_
      refine wp_iload rfl dX11_premium_60 ?_
      obtain ⟨q12, H⟩ := H
      obtain ⟨q13, H⟩ := H
      refine wp_iaload q12 q13 dX11_premium_62 ?_
      refine wp_iload_n 1 rfl rfl dX11_premium_63 ?_
      refine WP.at 64 rfl ?_
      refine wp_icmp_ne 78 (by decide) dX11_premium_64 (fun c14 => ?_) (fun c14 => ?_)
      · replace H := H.1 c14
        refine wp_lconst (0 : Int64) (by decide) dX11_premium_78 ?_
        refine wp_ladd dX11_premium_79 ?_
        refine wp_nml (fun v15 e16 => ?_)
        replace H := H v15 e16
        refine wp_lstore (Nat.le_of_ble_eq_true rfl) dX11_premium_80 (ls' := [(4, xl v15), (2, xl v10), (0, xr l0), (1, xi l1), (6, xi l6)]) rfl ?_
        refine wp_iincN (1 : Int32) (by decide) rfl (Nat.le_of_ble_eq_true rfl) dX11_premium_82 (ls' := fun v17 => [(6, xi v17), (4, xl v15), (2, xl v10), (0, xr l0), (1, xi l1)]) (fun _ => rfl) (fun v17 e18 => ?_)
        replace H := H v17 e18
        refine WP.at 85 rfl ?_
        refine wp_goto 34 (by decide) dX11_premium_85 ?_
        exact WP.pick [3, 4, 2, 1, 0] rfl (hB34 v10 v15 v17 _ H)
      · replace H := H.2 c14
        refine wp_aload_n 0 rfl rfl dX11_premium_67 ?_
        refine wp_getr coX11 28 (Nat.le_of_ble_eq_true rfl) fl_X11_80 rfl q6 dX11_premium_68 ?_
        refine wp_iload rfl dX11_premium_71 ?_
        obtain ⟨q19, H⟩ := H
        refine wp_iaload q8 q19 dX11_premium_73 ?_
        refine wp_i2l dX11_premium_74 ?_
        refine WP.at 75 rfl ?_
        refine wp_goto 79 (by decide) dX11_premium_75 ?_
        refine wp_ladd dX11_premium_79 ?_
        refine wp_nml (fun v20 e21 => ?_)
        replace H := H v20 e21
        refine wp_lstore (Nat.le_of_ble_eq_true rfl) dX11_premium_80 (ls' := [(4, xl v20), (2, xl v10), (0, xr l0), (1, xi l1), (6, xi l6)]) rfl ?_
        refine wp_iincN (1 : Int32) (by decide) rfl (Nat.le_of_ble_eq_true rfl) dX11_premium_82 (ls' := fun v22 => [(6, xi v22), (4, xl v20), (2, xl v10), (0, xr l0), (1, xi l1)]) (fun _ => rfl) (fun v22 e23 => ?_)
        replace H := H v22 e23
        refine WP.at 85 rfl ?_
        refine wp_goto 34 (by decide) dX11_premium_85 ?_
        exact WP.pick [3, 4, 2, 1, 0] rfl (hB34 v10 v20 v22 _ H)
def p_M_premium (l0 : xN) (l1 : Int32) (h : xH) (Q : Int32 → xH → Prop) : Prop := p_M_in l1 (0 : Int32) (5 : Int32) h (fun (v2 : Int32) (h1 : xH) => ((¬ v2 = 0 → (kd l0.1 = (1, 10)) ∧ ((¬ (hI h1 l0 23) = 0 → (∃ f30, p_M_premium_L34 l0 l1 (fun (x24 : Int64) (x25 : Int64) (h26 : xH) => p_M_allDeducted l0 h26 (fun (v28 : Int32) (h27 : xH) => (¬ x24 = 0) ∧ Q ((((v28.toInt64) * x25) / x24).toInt32) h27)) Q f30 (0 : Int64) (0 : Int64) (0 : Int32) h1)) ∧ ((hI h1 l0 23) = 0 → p_M_meets l0 (6 : Int32) h1 (fun (v32 : Int32) (h31 : xH) => Q v32 h31)))) ∧ (v2 = 0 → Q (-2 : Int32) h1)))
set_option maxRecDepth 100000 in
set_option maxHeartbeats 4000000 in
theorem t_M_premium (l0 : xN) (l1 : Int32) (h : xH) (Q : Int32 → xH → Prop) (H : p_M_premium l0 l1 h Q) : WP M_M_premium 0 [(0, xr l0), (1, xi l1)] [] h 0 (qi Q) := by
  unfold p_M_premium at H
  refine wp_iload_n 1 rfl rfl dX11_premium_0 ?_
  refine wp_iconst (0 : Int32) (by decide) dX11_premium_1 ?_
  refine wp_iconst (5 : Int32) (by decide) dX11_premium_2 ?_
  refine WP.at 3 rfl ?_
  refine wp_cSi (M2 := M_M_in) [xi l1, xi (0 : Int32), xi (5 : Int32)] rfl ls_X11_172 mo_M_in (Nat.le_of_ble_eq_true rfl) ⟨(Nat.le_of_ble_eq_true rfl), (Nat.le_of_ble_eq_true rfl)⟩ (Nat.le_of_ble_eq_true rfl) (Nat.le_of_ble_eq_true rfl) dX11_premium_3 (t_M_in l1 (0 : Int32) (5 : Int32) _ _ H) (fun v2 h1 H => ?_)
  refine WP.at 6 rfl ?_
  refine wp_if_ne 12 (by decide) dX11_premium_6 (fun c3 => ?_) (fun c3 => ?_)
  · replace H := H.1 c3
    refine wp_aload_n 0 rfl rfl dX11_premium_12 ?_
    obtain ⟨q4, H⟩ := H
    refine wp_geti coX11 23 (Nat.le_of_ble_eq_true rfl) fl_X11_205 rfl q4 dX11_premium_13 ?_
    refine WP.at 16 rfl ?_
    refine wp_if_ne 26 (by decide) dX11_premium_16 (fun c5 => ?_) (fun c5 => ?_)
    · replace H := H.1 c5
      refine wp_lconst (0 : Int64) (by decide) dX11_premium_26 ?_
      refine wp_lstore_n 2 rfl (Nat.le_of_ble_eq_true rfl) dX11_premium_27 (ls' := [(2, xl (0 : Int64)), (0, xr l0), (1, xi l1)]) rfl ?_
      refine wp_lconst (0 : Int64) (by decide) dX11_premium_28 ?_
      refine wp_lstore (Nat.le_of_ble_eq_true rfl) dX11_premium_29 (ls' := [(4, xl (0 : Int64)), (2, xl (0 : Int64)), (0, xr l0), (1, xi l1)]) rfl ?_
      refine wp_iconst (0 : Int32) (by decide) dX11_premium_31 ?_
      refine wp_istore (Nat.le_of_ble_eq_true rfl) dX11_premium_32 (ls' := [(6, xi (0 : Int32)), (4, xl (0 : Int64)), (2, xl (0 : Int64)), (0, xr l0), (1, xi l1)]) rfl ?_
      refine WP.at 34 rfl ?_
      obtain ⟨f30, H⟩ := H
      refine WP.pick [3, 4, 2, 1, 0] rfl (t_M_premium_L34 l0 l1 _ Q ?_ f30 (0 : Int64) (0 : Int64) (0 : Int32) _ H)
      · intro x24 x25 h26 H
        refine wp_aload_n 0 rfl rfl dX11_premium_88 ?_
        refine WP.at 89 rfl ?_
        refine wp_cVi (M2 := M_M_allDeducted) coX11 l0 q4 [] rfl lv_X11_319 mo_M_allDeducted (Nat.le_of_ble_eq_true rfl) ⟨(Nat.le_of_ble_eq_true rfl), (Nat.le_of_ble_eq_true rfl)⟩ (Nat.le_of_ble_eq_true rfl) (Nat.le_of_ble_eq_true rfl) dX11_premium_89 (t_M_allDeducted l0 _ _ H) (fun v28 h27 H => ?_)
        refine wp_i2l dX11_premium_92 ?_
        refine wp_lload rfl dX11_premium_93 ?_
        refine wp_lmul dX11_premium_95 ?_
        refine wp_lload_n 2 rfl rfl dX11_premium_96 ?_
        obtain ⟨q29, H⟩ := H
        refine wp_ldiv q29 dX11_premium_97 ?_
        refine WP.at 98 rfl ?_
        refine wp_l2i dX11_premium_98 ?_
        exact wp_iret trivial dX11_premium_99 H
    · replace H := H.2 c5
      refine wp_aload_n 0 rfl rfl dX11_premium_19 ?_
      refine wp_bipush (6 : Int32) (by decide) dX11_premium_20 ?_
      refine WP.at 22 rfl ?_
      refine wp_cVi (M2 := M_M_meets) coX11 l0 q4 [xi (6 : Int32)] rfl lv_X11_316 mo_M_meets (Nat.le_of_ble_eq_true rfl) ⟨(Nat.le_of_ble_eq_true rfl), (Nat.le_of_ble_eq_true rfl)⟩ (Nat.le_of_ble_eq_true rfl) (Nat.le_of_ble_eq_true rfl) dX11_premium_22 (t_M_meets l0 (6 : Int32) _ _ H) (fun v32 h31 H => ?_)
      exact wp_iret trivial dX11_premium_25 H
  · replace H := H.2 c3
    refine wp_bipush (-2 : Int32) (by decide) dX11_premium_9 ?_
    exact wp_iret trivial dX11_premium_11 H
def p_Sl_holdNothing (l0 : xN) (h : xH) (Q : xH → Prop) : Prop := (kd l0.1 = (1, 7)) ∧ ∀ h2 : xH, h2 = sI h l0 1 (0 : Int32) → Q h2
set_option maxRecDepth 100000 in
set_option maxHeartbeats 4000000 in
theorem t_Sl_holdNothing (l0 : xN) (h : xH) (Q : xH → Prop) (H : p_Sl_holdNothing l0 h Q) : WP M_Sl_holdNothing 0 [(0, xr l0)] [] h 0 (qv Q) := by
  unfold p_Sl_holdNothing at H
  refine wp_aload_n 0 rfl rfl dX8_holdNothing_0 ?_
  refine wp_iconst (0 : Int32) (by decide) dX8_holdNothing_1 ?_
  obtain ⟨q1, H⟩ := H
  refine wp_puti coX8 1 (Nat.le_of_ble_eq_true rfl) fl_X8_15 rfl rfl ⟨rfl, rfl⟩ q1 dX8_holdNothing_2 ?_
  refine wp_nh (fun h2 e3 => ?_)
  replace H := H h2 e3
  exact wp_vret trivial dX8_holdNothing_5 H
def p_D_open_L7 (l0 : xN) (l1 : Int32) (K7_27 : xH → Prop) (Q : xH → Prop) : Nat → Int32 → xH → Prop
  | 0, _, _ => False
  | f + 1, l2, h => ((l1 ≤ l2 → K7_27 h) ∧ (¬ l1 ≤ l2 → (kd l0.1 = (1, 1)) ∧ (kd (hR h l0 0).1 = (5, 7)) ∧ (vp_in l2 (hS h (hR h l0 0) - 1)) ∧ (kd (hR h (hR h l0 0) l2.toNatClampNeg).1 = (1, 7)) ∧ p_Sl_holdNothing (hR h (hR h l0 0) l2.toNatClampNeg) h (fun h9 : xH => ∀ v10 : Int32, v10 = l2 + (1 : Int32) → (p_D_open_L7 l0 l1 K7_27 Q f) v10 h9)))
set_option maxRecDepth 100000 in
set_option maxHeartbeats 4000000 in
theorem t_D_open_L7 (l0 : xN) (l1 : Int32) (K7_27 : xH → Prop) (Q : xH → Prop) (hK7_27 : ∀ (h : xH), K7_27 h → WP M_D_open 27 [] [] h 0 (qv Q)) : ∀ (f : Nat) (l2 : Int32) (h : xH), p_D_open_L7 l0 l1 K7_27 Q f l2 h → WP M_D_open 7 [(0, xr l0), (1, xi l1), (2, xi l2)] [] h 0 (qv Q) := by
  intro f
  induction f with
  | zero => exact fun _ _ H => H.elim
  | succ f hB7 =>
    intro l2 h H
    unfold p_D_open_L7 at H
    refine wp_iload_n 2 rfl rfl dX1_open_7 ?_
    refine wp_iload_n 1 rfl rfl dX1_open_8 ?_
    refine WP.at 9 rfl ?_
    refine wp_icmp_ge 27 (by decide) dX1_open_9 (fun c4 => ?_) (fun c4 => ?_)
    · replace H := H.1 c4
      exact WP.pick [] rfl (hK7_27 _ H)
    · replace H := H.2 c4
      refine wp_aload_n 0 rfl rfl dX1_open_12 ?_
      obtain ⟨q5, H⟩ := H
      refine wp_getr coX1 0 (Nat.le_of_ble_eq_true rfl) fl_X1_11 rfl q5 dX1_open_13 ?_
      refine wp_iload_n 2 rfl rfl dX1_open_16 ?_
      obtain ⟨q6, H⟩ := H
      obtain ⟨q7, H⟩ := H
      refine wp_aaload q6 q7 dX1_open_17 ?_
      refine WP.at 18 rfl ?_
      obtain ⟨q8, H⟩ := H
      refine wp_cVv (M2 := M_Sl_holdNothing) coX8 (hR h (hR h l0 0) l2.toNatClampNeg) q8 [] rfl lv_X1_22 mo_Sl_holdNothing (Nat.le_of_ble_eq_true rfl) ⟨(Nat.le_of_ble_eq_true rfl), (Nat.le_of_ble_eq_true rfl)⟩ (Nat.le_of_ble_eq_true rfl) (Nat.le_of_ble_eq_true rfl) dX1_open_18 (t_Sl_holdNothing (hR h (hR h l0 0) l2.toNatClampNeg) _ _ H) (fun h9 H => ?_)
      refine wp_iincN (1 : Int32) (by decide) rfl (Nat.le_of_ble_eq_true rfl) dX1_open_21 (ls' := fun v10 => [(2, xi v10), (0, xr l0), (1, xi l1)]) (fun _ => rfl) (fun v10 e11 => ?_)
      replace H := H v10 e11
      refine WP.at 24 rfl ?_
      refine wp_goto 7 (by decide) dX1_open_24 ?_
      exact WP.pick [1, 2, 0] rfl (hB7 v10 _ H)
def p_D_open (l0 : xN) (l1 : Int32) (h : xH) (Q : xH → Prop) : Prop := (kd l0.1 = (1, 1)) ∧ ∀ h2 : xH, h2 = sI h l0 1 l1 → (∃ f13, p_D_open_L7 l0 l1 (fun (h12 : xH) => Q h12) Q f13 (0 : Int32) h2)
set_option maxRecDepth 100000 in
set_option maxHeartbeats 4000000 in
theorem t_D_open (l0 : xN) (l1 : Int32) (h : xH) (Q : xH → Prop) (H : p_D_open l0 l1 h Q) : WP M_D_open 0 [(0, xr l0), (1, xi l1)] [] h 0 (qv Q) := by
  unfold p_D_open at H
  refine wp_aload_n 0 rfl rfl dX1_open_0 ?_
  refine wp_iload_n 1 rfl rfl dX1_open_1 ?_
  obtain ⟨q1, H⟩ := H
  refine wp_puti coX1 1 (Nat.le_of_ble_eq_true rfl) fl_X1_17 rfl rfl ⟨rfl, rfl⟩ q1 dX1_open_2 ?_
  refine wp_nh (fun h2 e3 => ?_)
  replace H := H h2 e3
  refine wp_iconst (0 : Int32) (by decide) dX1_open_5 ?_
  refine wp_istore_n 2 rfl (Nat.le_of_ble_eq_true rfl) dX1_open_6 (ls' := [(2, xi (0 : Int32)), (0, xr l0), (1, xi l1)]) rfl ?_
  refine WP.at 7 rfl ?_
  obtain ⟨f13, H⟩ := H
  refine WP.pick [1, 2, 0] rfl (t_D_open_L7 l0 l1 _ Q ?_ f13 (0 : Int32) _ H)
  · intro h12 H
    exact wp_vret trivial dX1_open_27 H
def p_T_drawer (l0 : xN) (l1 : Int32) (l2 : Int32) (h : xH) (Q : Int32 → xH → Prop) : Prop := p_T_isWindow l1 h (fun (v2 : Int32) (h1 : xH) => ((¬ v2 = 0 → ((l2 ≤ (12 : Int32) → ((0 ≤ l2 → (kd l0.1 = (1, 9)) ∧ (kd (hR h1 l0 3).1 = (5, 1)) ∧ (vp_in l1 (hS h1 (hR h1 l0 3) - 1)) ∧ (kd (hR h1 (hR h1 l0 3) l1.toNatClampNeg).1 = (1, 1)) ∧ p_D_open (hR h1 (hR h1 l0 3) l1.toNatClampNeg) l2 h1 (fun h10 : xH => Q l2 h10)) ∧ (¬ 0 ≤ l2 → (kd l0.1 = (1, 9)) ∧ p_T_found l0 (5 : Int32) h1 (fun (v13 : Int32) (h12 : xH) => Q v13 h12)))) ∧ (¬ l2 ≤ (12 : Int32) → Q (-3 : Int32) h1))) ∧ (v2 = 0 → Q (-2 : Int32) h1)))
set_option maxRecDepth 100000 in
set_option maxHeartbeats 4000000 in
theorem t_T_drawer (l0 : xN) (l1 : Int32) (l2 : Int32) (h : xH) (Q : Int32 → xH → Prop) (H : p_T_drawer l0 l1 l2 h Q) : WP M_T_drawer 0 [(0, xr l0), (1, xi l1), (2, xi l2)] [] h 0 (qi Q) := by
  unfold p_T_drawer at H
  refine wp_iload_n 1 rfl rfl dX10_drawer_0 ?_
  refine WP.at 1 rfl ?_
  refine wp_cSi (M2 := M_T_isWindow) [xi l1] rfl ls_X10_162 mo_T_isWindow (Nat.le_of_ble_eq_true rfl) ⟨(Nat.le_of_ble_eq_true rfl), (Nat.le_of_ble_eq_true rfl)⟩ (Nat.le_of_ble_eq_true rfl) (Nat.le_of_ble_eq_true rfl) dX10_drawer_1 (t_T_isWindow l1 _ _ H) (fun v2 h1 H => ?_)
  refine WP.at 4 rfl ?_
  refine wp_if_ne 10 (by decide) dX10_drawer_4 (fun c3 => ?_) (fun c3 => ?_)
  · replace H := H.1 c3
    refine wp_iload_n 2 rfl rfl dX10_drawer_10 ?_
    refine wp_bipush (12 : Int32) (by decide) dX10_drawer_11 ?_
    refine WP.at 13 rfl ?_
    refine wp_icmp_le 19 (by decide) dX10_drawer_13 (fun c4 => ?_) (fun c4 => ?_)
    · replace H := H.1 c4
      refine wp_iload_n 2 rfl rfl dX10_drawer_19 ?_
      refine WP.at 20 rfl ?_
      refine wp_if_ge 29 (by decide) dX10_drawer_20 (fun c5 => ?_) (fun c5 => ?_)
      · replace H := H.1 c5
        refine wp_aload_n 0 rfl rfl dX10_drawer_29 ?_
        obtain ⟨q6, H⟩ := H
        refine wp_getr coX10 3 (Nat.le_of_ble_eq_true rfl) fl_X10_29 rfl q6 dX10_drawer_30 ?_
        refine wp_iload_n 1 rfl rfl dX10_drawer_33 ?_
        obtain ⟨q7, H⟩ := H
        obtain ⟨q8, H⟩ := H
        refine wp_aaload q7 q8 dX10_drawer_34 ?_
        refine wp_iload_n 2 rfl rfl dX10_drawer_35 ?_
        refine WP.at 36 rfl ?_
        obtain ⟨q9, H⟩ := H
        refine wp_cVv (M2 := M_D_open) coX1 (hR h1 (hR h1 l0 3) l1.toNatClampNeg) q9 [xi l2] rfl lv_X10_279 mo_D_open (Nat.le_of_ble_eq_true rfl) ⟨(Nat.le_of_ble_eq_true rfl), (Nat.le_of_ble_eq_true rfl)⟩ (Nat.le_of_ble_eq_true rfl) (Nat.le_of_ble_eq_true rfl) dX10_drawer_36 (t_D_open (hR h1 (hR h1 l0 3) l1.toNatClampNeg) l2 _ _ H) (fun h10 H => ?_)
        refine wp_iload_n 2 rfl rfl dX10_drawer_39 ?_
        refine WP.at 40 rfl ?_
        exact wp_iret trivial dX10_drawer_40 H
      · replace H := H.2 c5
        refine wp_aload_n 0 rfl rfl dX10_drawer_23 ?_
        refine wp_iconst (5 : Int32) (by decide) dX10_drawer_24 ?_
        refine WP.at 25 rfl ?_
        obtain ⟨q11, H⟩ := H
        refine wp_cVi (M2 := M_T_found) coX10 l0 q11 [xi (5 : Int32)] rfl lv_X10_272 mo_T_found (Nat.le_of_ble_eq_true rfl) ⟨(Nat.le_of_ble_eq_true rfl), (Nat.le_of_ble_eq_true rfl)⟩ (Nat.le_of_ble_eq_true rfl) (Nat.le_of_ble_eq_true rfl) dX10_drawer_25 (t_T_found l0 (5 : Int32) _ _ H) (fun v13 h12 H => ?_)
        exact wp_iret trivial dX10_drawer_28 H
    · replace H := H.2 c4
      refine wp_bipush (-3 : Int32) (by decide) dX10_drawer_16 ?_
      exact wp_iret trivial dX10_drawer_18 H
  · replace H := H.2 c3
    refine wp_bipush (-2 : Int32) (by decide) dX10_drawer_7 ?_
    exact wp_iret trivial dX10_drawer_9 H
def p_M_isWindow (l0 : Int32) (h : xH) (Q : Int32 → xH → Prop) : Prop := p_M_in l0 (0 : Int32) (5 : Int32) h (fun (v2 : Int32) (h1 : xH) => (v2 = 0 ∨ v2 = 1) ∧ Q v2 h1)
set_option maxRecDepth 100000 in
set_option maxHeartbeats 4000000 in
theorem t_M_isWindow (l0 : Int32) (h : xH) (Q : Int32 → xH → Prop) (H : p_M_isWindow l0 h Q) : WP M_M_isWindow 0 [(0, xi l0)] [] h 0 (qi Q) := by
  unfold p_M_isWindow at H
  refine wp_iload_n 0 rfl rfl dX11_isWindow_0 ?_
  refine wp_iconst (0 : Int32) (by decide) dX11_isWindow_1 ?_
  refine wp_iconst (5 : Int32) (by decide) dX11_isWindow_2 ?_
  refine WP.at 3 rfl ?_
  refine wp_cSi (M2 := M_M_in) [xi l0, xi (0 : Int32), xi (5 : Int32)] rfl ls_X11_172 mo_M_in (Nat.le_of_ble_eq_true rfl) ⟨(Nat.le_of_ble_eq_true rfl), (Nat.le_of_ble_eq_true rfl)⟩ (Nat.le_of_ble_eq_true rfl) (Nat.le_of_ble_eq_true rfl) dX11_isWindow_3 (t_M_in l0 (0 : Int32) (5 : Int32) _ _ H) (fun v2 h1 H => ?_)
  obtain ⟨q3, H⟩ := H
  exact wp_iret q3 dX11_isWindow_6 H
def p_M_drawer_L45 (l0 : xN) (l1 : Int32) (l2 : Int32) (K45_69 : xH → Prop) (Q : Int32 → xH → Prop) : Nat → Int32 → xH → Prop
  | 0, _, _ => False
  | f + 1, l3, h => (((12 : Int32) ≤ l3 → K45_69 h) ∧ (¬ (12 : Int32) ≤ l3 → (kd l0.1 = (1, 10)) ∧ (kd (hR h l0 53).1 = (2, 0)) ∧ (vp_in (((12 : Int32) * l1) + l3) (hS h (hR h l0 53) - 1)) ∧ ∀ h19 : xH, h19 = sI h (hR h l0 53) (((12 : Int32) * l1) + l3).toNatClampNeg (0 : Int32) → ∀ v21 : Int32, v21 = l3 + (1 : Int32) → (p_M_drawer_L45 l0 l1 l2 K45_69 Q f) v21 h19))
set_option maxRecDepth 100000 in
set_option maxHeartbeats 4000000 in
theorem t_M_drawer_L45 (l0 : xN) (l1 : Int32) (l2 : Int32) (K45_69 : xH → Prop) (Q : Int32 → xH → Prop) (hK45_69 : ∀ (h : xH), K45_69 h → WP M_M_drawer 69 [(2, xi l2)] [] h 0 (qi Q)) : ∀ (f : Nat) (l3 : Int32) (h : xH), p_M_drawer_L45 l0 l1 l2 K45_69 Q f l3 h → WP M_M_drawer 45 [(0, xr l0), (1, xi l1), (2, xi l2), (3, xi l3)] [] h 0 (qi Q) := by
  intro f
  induction f with
  | zero => exact fun _ _ H => H.elim
  | succ f hB45 =>
    intro l3 h H
    unfold p_M_drawer_L45 at H
    refine wp_iload_n 3 rfl rfl dX11_drawer_45 ?_
    refine wp_bipush (12 : Int32) (by decide) dX11_drawer_46 ?_
    refine WP.at 48 rfl ?_
    refine wp_icmp_ge 69 (by decide) dX11_drawer_48 (fun c15 => ?_) (fun c15 => ?_)
    · replace H := H.1 c15
      exact WP.pick [2] rfl (hK45_69 _ H)
    · replace H := H.2 c15
      refine wp_aload_n 0 rfl rfl dX11_drawer_51 ?_
      obtain ⟨q16, H⟩ := H
      refine wp_getr coX11 53 (Nat.le_of_ble_eq_true rfl) fl_X11_128 rfl q16 dX11_drawer_52 ?_
      refine wp_bipush (12 : Int32) (by decide) dX11_drawer_55 ?_
      refine wp_iload_n 1 rfl rfl dX11_drawer_57 ?_
      refine wp_imul dX11_drawer_58 ?_
      refine wp_iload_n 3 rfl rfl dX11_drawer_59 ?_
      refine wp_iadd dX11_drawer_60 ?_
      refine WP.at 61 rfl ?_
      refine wp_iconst (0 : Int32) (by decide) dX11_drawer_61 ?_
      obtain ⟨q17, H⟩ := H
      obtain ⟨q18, H⟩ := H
      refine wp_iastore q17 q18 dX11_drawer_62 ?_
      refine wp_nh (fun h19 e20 => ?_)
      replace H := H h19 e20
      refine wp_iincN (1 : Int32) (by decide) rfl (Nat.le_of_ble_eq_true rfl) dX11_drawer_63 (ls' := fun v21 => [(3, xi v21), (0, xr l0), (1, xi l1), (2, xi l2)]) (fun _ => rfl) (fun v21 e22 => ?_)
      replace H := H v21 e22
      refine WP.at 66 rfl ?_
      refine wp_goto 45 (by decide) dX11_drawer_66 ?_
      exact WP.pick [1, 2, 3, 0] rfl (hB45 v21 _ H)
def p_M_drawer (l0 : xN) (l1 : Int32) (l2 : Int32) (h : xH) (Q : Int32 → xH → Prop) : Prop := p_M_isWindow l1 h (fun (v2 : Int32) (h1 : xH) => ((¬ v2 = 0 → ((l2 ≤ (12 : Int32) → ((0 ≤ l2 → (kd l0.1 = (1, 10)) ∧ (kd (hR h1 l0 51).1 = (3, 0)) ∧ (vp_in l1 (hS h1 (hR h1 l0 51) - 1)) ∧ ∀ h9 : xH, h9 = sI h1 (hR h1 l0 51) l1.toNatClampNeg (1 : Int32) → (kd (hR h9 l0 52).1 = (2, 0)) ∧ (vp_in l1 (hS h9 (hR h9 l0 52) - 1)) ∧ ∀ h13 : xH, h13 = sI h9 (hR h9 l0 52) l1.toNatClampNeg l2 → (∃ f24, p_M_drawer_L45 l0 l1 l2 (fun (h23 : xH) => Q l2 h23) Q f24 (0 : Int32) h13)) ∧ (¬ 0 ≤ l2 → (kd l0.1 = (1, 10)) ∧ p_M_meets l0 (5 : Int32) h1 (fun (v27 : Int32) (h26 : xH) => Q v27 h26)))) ∧ (¬ l2 ≤ (12 : Int32) → Q (-3 : Int32) h1))) ∧ (v2 = 0 → Q (-2 : Int32) h1)))
set_option maxRecDepth 100000 in
set_option maxHeartbeats 4000000 in
theorem t_M_drawer (l0 : xN) (l1 : Int32) (l2 : Int32) (h : xH) (Q : Int32 → xH → Prop) (H : p_M_drawer l0 l1 l2 h Q) : WP M_M_drawer 0 [(0, xr l0), (1, xi l1), (2, xi l2)] [] h 0 (qi Q) := by
  unfold p_M_drawer at H
  refine wp_iload_n 1 rfl rfl dX11_drawer_0 ?_
  refine WP.at 1 rfl ?_
  refine wp_cSi (M2 := M_M_isWindow) [xi l1] rfl ls_X11_326 mo_M_isWindow (Nat.le_of_ble_eq_true rfl) ⟨(Nat.le_of_ble_eq_true rfl), (Nat.le_of_ble_eq_true rfl)⟩ (Nat.le_of_ble_eq_true rfl) (Nat.le_of_ble_eq_true rfl) dX11_drawer_1 (t_M_isWindow l1 _ _ H) (fun v2 h1 H => ?_)
  refine WP.at 4 rfl ?_
  refine wp_if_ne 10 (by decide) dX11_drawer_4 (fun c3 => ?_) (fun c3 => ?_)
  · replace H := H.1 c3
    refine wp_iload_n 2 rfl rfl dX11_drawer_10 ?_
    refine wp_bipush (12 : Int32) (by decide) dX11_drawer_11 ?_
    refine WP.at 13 rfl ?_
    refine wp_icmp_le 19 (by decide) dX11_drawer_13 (fun c4 => ?_) (fun c4 => ?_)
    · replace H := H.1 c4
      refine wp_iload_n 2 rfl rfl dX11_drawer_19 ?_
      refine WP.at 20 rfl ?_
      refine wp_if_ge 29 (by decide) dX11_drawer_20 (fun c5 => ?_) (fun c5 => ?_)
      · replace H := H.1 c5
        refine wp_aload_n 0 rfl rfl dX11_drawer_29 ?_
        obtain ⟨q6, H⟩ := H
        refine wp_getr coX11 51 (Nat.le_of_ble_eq_true rfl) fl_X11_122 rfl q6 dX11_drawer_30 ?_
        refine wp_iload_n 1 rfl rfl dX11_drawer_33 ?_
        refine wp_iconst (1 : Int32) (by decide) dX11_drawer_34 ?_
        obtain ⟨q7, H⟩ := H
        obtain ⟨q8, H⟩ := H
        refine wp_bastore (Or.inr rfl) q7 q8 dX11_drawer_35 ?_
        refine wp_nh (fun h9 e10 => ?_)
        replace H := H h9 e10
        refine wp_aload_n 0 rfl rfl dX11_drawer_36 ?_
        refine wp_getr coX11 52 (Nat.le_of_ble_eq_true rfl) fl_X11_125 rfl q6 dX11_drawer_37 ?_
        refine WP.at 40 rfl ?_
        refine wp_iload_n 1 rfl rfl dX11_drawer_40 ?_
        refine wp_iload_n 2 rfl rfl dX11_drawer_41 ?_
        obtain ⟨q11, H⟩ := H
        obtain ⟨q12, H⟩ := H
        refine wp_iastore q11 q12 dX11_drawer_42 ?_
        refine wp_nh (fun h13 e14 => ?_)
        replace H := H h13 e14
        refine wp_iconst (0 : Int32) (by decide) dX11_drawer_43 ?_
        refine wp_istore_n 3 rfl (Nat.le_of_ble_eq_true rfl) dX11_drawer_44 (ls' := [(3, xi (0 : Int32)), (0, xr l0), (1, xi l1), (2, xi l2)]) rfl ?_
        refine WP.at 45 rfl ?_
        obtain ⟨f24, H⟩ := H
        refine WP.pick [1, 2, 3, 0] rfl (t_M_drawer_L45 l0 l1 l2 _ Q ?_ f24 (0 : Int32) _ H)
        · intro h23 H
          refine wp_iload_n 2 rfl rfl dX11_drawer_69 ?_
          exact wp_iret trivial dX11_drawer_70 H
      · replace H := H.2 c5
        refine wp_aload_n 0 rfl rfl dX11_drawer_23 ?_
        refine wp_iconst (5 : Int32) (by decide) dX11_drawer_24 ?_
        refine WP.at 25 rfl ?_
        obtain ⟨q25, H⟩ := H
        refine wp_cVi (M2 := M_M_meets) coX11 l0 q25 [xi (5 : Int32)] rfl lv_X11_316 mo_M_meets (Nat.le_of_ble_eq_true rfl) ⟨(Nat.le_of_ble_eq_true rfl), (Nat.le_of_ble_eq_true rfl)⟩ (Nat.le_of_ble_eq_true rfl) (Nat.le_of_ble_eq_true rfl) dX11_drawer_25 (t_M_meets l0 (5 : Int32) _ _ H) (fun v27 h26 H => ?_)
        exact wp_iret trivial dX11_drawer_28 H
    · replace H := H.2 c4
      refine wp_bipush (-3 : Int32) (by decide) dX11_drawer_16 ?_
      exact wp_iret trivial dX11_drawer_18 H
  · replace H := H.2 c3
    refine wp_bipush (-2 : Int32) (by decide) dX11_drawer_7 ?_
    exact wp_iret trivial dX11_drawer_9 H
def p_T_lose (l0 : xN) (l1 : Int32) (h : xH) (Q : Int32 → xH → Prop) : Prop := p_T_isWindow l1 h (fun (v2 : Int32) (h1 : xH) => ((¬ v2 = 0 → (kd l0.1 = (1, 9)) ∧ (kd (hR h1 l0 3).1 = (5, 1)) ∧ (vp_in l1 (hS h1 (hR h1 l0 3) - 1)) ∧ (kd (hR h1 (hR h1 l0 3) l1.toNatClampNeg).1 = (1, 1)) ∧ ∀ v8 : Int32, v8 = hI h1 (hR h1 (hR h1 l0 3) l1.toNatClampNeg) 1 → ((¬ v8 = (-1 : Int32) → (vp_in l1 (hS h1 (hR h1 l0 3) - 1)) ∧ ∀ h12 : xH, h12 = sI h1 (hR h1 (hR h1 l0 3) l1.toNatClampNeg) 1 (-1 : Int32) → Q v8 h12) ∧ (v8 = (-1 : Int32) → p_T_found l0 (1 : Int32) h1 (fun (v15 : Int32) (h14 : xH) => Q v15 h14)))) ∧ (v2 = 0 → Q (-2 : Int32) h1)))
set_option maxRecDepth 100000 in
set_option maxHeartbeats 4000000 in
theorem t_T_lose (l0 : xN) (l1 : Int32) (h : xH) (Q : Int32 → xH → Prop) (H : p_T_lose l0 l1 h Q) : WP M_T_lose 0 [(0, xr l0), (1, xi l1)] [] h 0 (qi Q) := by
  unfold p_T_lose at H
  refine wp_iload_n 1 rfl rfl dX10_lose_0 ?_
  refine WP.at 1 rfl ?_
  refine wp_cSi (M2 := M_T_isWindow) [xi l1] rfl ls_X10_162 mo_T_isWindow (Nat.le_of_ble_eq_true rfl) ⟨(Nat.le_of_ble_eq_true rfl), (Nat.le_of_ble_eq_true rfl)⟩ (Nat.le_of_ble_eq_true rfl) (Nat.le_of_ble_eq_true rfl) dX10_lose_1 (t_T_isWindow l1 _ _ H) (fun v2 h1 H => ?_)
  refine WP.at 4 rfl ?_
  refine wp_if_ne 10 (by decide) dX10_lose_4 (fun c3 => ?_) (fun c3 => ?_)
  · replace H := H.1 c3
    refine wp_aload_n 0 rfl rfl dX10_lose_10 ?_
    obtain ⟨q4, H⟩ := H
    refine wp_getr coX10 3 (Nat.le_of_ble_eq_true rfl) fl_X10_29 rfl q4 dX10_lose_11 ?_
    refine wp_iload_n 1 rfl rfl dX10_lose_14 ?_
    obtain ⟨q5, H⟩ := H
    obtain ⟨q6, H⟩ := H
    refine wp_aaload q5 q6 dX10_lose_15 ?_
    obtain ⟨q7, H⟩ := H
    refine wp_geti coX1 1 (Nat.le_of_ble_eq_true rfl) fl_X10_282 rfl q7 dX10_lose_16 ?_
    refine wp_nm (fun v8 e9 => ?_)
    replace H := H v8 e9
    refine wp_istore_n 2 rfl (Nat.le_of_ble_eq_true rfl) dX10_lose_19 (ls' := [(2, xi v8), (0, xr l0), (1, xi l1)]) rfl ?_
    refine wp_iload_n 2 rfl rfl dX10_lose_20 ?_
    refine WP.at 21 rfl ?_
    refine wp_iconst (-1 : Int32) (by decide) dX10_lose_21 ?_
    refine WP.at 22 rfl ?_
    refine wp_icmp_ne 31 (by decide) dX10_lose_22 (fun c10 => ?_) (fun c10 => ?_)
    · replace H := H.1 c10
      refine wp_aload_n 0 rfl rfl dX10_lose_31 ?_
      refine wp_getr coX10 3 (Nat.le_of_ble_eq_true rfl) fl_X10_29 rfl q4 dX10_lose_32 ?_
      refine wp_iload_n 1 rfl rfl dX10_lose_35 ?_
      obtain ⟨q11, H⟩ := H
      refine wp_aaload q5 q11 dX10_lose_36 ?_
      refine wp_iconst (-1 : Int32) (by decide) dX10_lose_37 ?_
      refine wp_puti coX1 1 (Nat.le_of_ble_eq_true rfl) fl_X10_282 rfl rfl ⟨rfl, rfl⟩ q7 dX10_lose_38 ?_
      refine wp_nh (fun h12 e13 => ?_)
      replace H := H h12 e13
      refine wp_iload_n 2 rfl rfl dX10_lose_41 ?_
      refine WP.at 42 rfl ?_
      exact wp_iret trivial dX10_lose_42 H
    · replace H := H.2 c10
      refine wp_aload_n 0 rfl rfl dX10_lose_25 ?_
      refine wp_iconst (1 : Int32) (by decide) dX10_lose_26 ?_
      refine WP.at 27 rfl ?_
      refine wp_cVi (M2 := M_T_found) coX10 l0 q4 [xi (1 : Int32)] rfl lv_X10_272 mo_T_found (Nat.le_of_ble_eq_true rfl) ⟨(Nat.le_of_ble_eq_true rfl), (Nat.le_of_ble_eq_true rfl)⟩ (Nat.le_of_ble_eq_true rfl) (Nat.le_of_ble_eq_true rfl) dX10_lose_27 (t_T_found l0 (1 : Int32) _ _ H) (fun v15 h14 H => ?_)
      exact wp_iret trivial dX10_lose_30 H
  · replace H := H.2 c3
    refine wp_bipush (-2 : Int32) (by decide) dX10_lose_7 ?_
    exact wp_iret trivial dX10_lose_9 H
def p_M_lose (l0 : xN) (l1 : Int32) (h : xH) (Q : Int32 → xH → Prop) : Prop := p_M_isWindow l1 h (fun (v2 : Int32) (h1 : xH) => ((¬ v2 = 0 → (kd l0.1 = (1, 10)) ∧ (kd (hR h1 l0 51).1 = (3, 0)) ∧ (vp_in l1 (hS h1 (hR h1 l0 51) - 1)) ∧ ((¬ (hI h1 (hR h1 l0 51) l1.toNatClampNeg) = 0 → (vp_in l1 (hS h1 (hR h1 l0 51) - 1)) ∧ ∀ h9 : xH, h9 = sI h1 (hR h1 l0 51) l1.toNatClampNeg (0 : Int32) → (kd (hR h9 l0 52).1 = (2, 0)) ∧ (vp_in l1 (hS h9 (hR h9 l0 52) - 1)) ∧ Q (hI h9 (hR h9 l0 52) l1.toNatClampNeg) h9) ∧ ((hI h1 (hR h1 l0 51) l1.toNatClampNeg) = 0 → p_M_meets l0 (1 : Int32) h1 (fun (v14 : Int32) (h13 : xH) => Q v14 h13)))) ∧ (v2 = 0 → Q (-2 : Int32) h1)))
set_option maxRecDepth 100000 in
set_option maxHeartbeats 4000000 in
theorem t_M_lose (l0 : xN) (l1 : Int32) (h : xH) (Q : Int32 → xH → Prop) (H : p_M_lose l0 l1 h Q) : WP M_M_lose 0 [(0, xr l0), (1, xi l1)] [] h 0 (qi Q) := by
  unfold p_M_lose at H
  refine wp_iload_n 1 rfl rfl dX11_lose_0 ?_
  refine WP.at 1 rfl ?_
  refine wp_cSi (M2 := M_M_isWindow) [xi l1] rfl ls_X11_326 mo_M_isWindow (Nat.le_of_ble_eq_true rfl) ⟨(Nat.le_of_ble_eq_true rfl), (Nat.le_of_ble_eq_true rfl)⟩ (Nat.le_of_ble_eq_true rfl) (Nat.le_of_ble_eq_true rfl) dX11_lose_1 (t_M_isWindow l1 _ _ H) (fun v2 h1 H => ?_)
  refine WP.at 4 rfl ?_
  refine wp_if_ne 10 (by decide) dX11_lose_4 (fun c3 => ?_) (fun c3 => ?_)
  · replace H := H.1 c3
    refine wp_aload_n 0 rfl rfl dX11_lose_10 ?_
    obtain ⟨q4, H⟩ := H
    refine wp_getr coX11 51 (Nat.le_of_ble_eq_true rfl) fl_X11_122 rfl q4 dX11_lose_11 ?_
    refine wp_iload_n 1 rfl rfl dX11_lose_14 ?_
    obtain ⟨q5, H⟩ := H
    obtain ⟨q6, H⟩ := H
    refine wp_baload q5 q6 dX11_lose_15 ?_
    refine WP.at 16 rfl ?_
    refine wp_if_ne 25 (by decide) dX11_lose_16 (fun c7 => ?_) (fun c7 => ?_)
    · replace H := H.1 c7
      refine wp_aload_n 0 rfl rfl dX11_lose_25 ?_
      refine wp_getr coX11 51 (Nat.le_of_ble_eq_true rfl) fl_X11_122 rfl q4 dX11_lose_26 ?_
      refine wp_iload_n 1 rfl rfl dX11_lose_29 ?_
      refine wp_iconst (0 : Int32) (by decide) dX11_lose_30 ?_
      obtain ⟨q8, H⟩ := H
      refine wp_bastore (Or.inl rfl) q5 q8 dX11_lose_31 ?_
      refine wp_nh (fun h9 e10 => ?_)
      replace H := H h9 e10
      refine wp_aload_n 0 rfl rfl dX11_lose_32 ?_
      refine wp_getr coX11 52 (Nat.le_of_ble_eq_true rfl) fl_X11_125 rfl q4 dX11_lose_33 ?_
      refine WP.at 36 rfl ?_
      refine wp_iload_n 1 rfl rfl dX11_lose_36 ?_
      obtain ⟨q11, H⟩ := H
      obtain ⟨q12, H⟩ := H
      refine wp_iaload q11 q12 dX11_lose_37 ?_
      exact wp_iret trivial dX11_lose_38 H
    · replace H := H.2 c7
      refine wp_aload_n 0 rfl rfl dX11_lose_19 ?_
      refine wp_iconst (1 : Int32) (by decide) dX11_lose_20 ?_
      refine WP.at 21 rfl ?_
      refine wp_cVi (M2 := M_M_meets) coX11 l0 q4 [xi (1 : Int32)] rfl lv_X11_316 mo_M_meets (Nat.le_of_ble_eq_true rfl) ⟨(Nat.le_of_ble_eq_true rfl), (Nat.le_of_ble_eq_true rfl)⟩ (Nat.le_of_ble_eq_true rfl) (Nat.le_of_ble_eq_true rfl) dX11_lose_21 (t_M_meets l0 (1 : Int32) _ _ H) (fun v14 h13 H => ?_)
      exact wp_iret trivial dX11_lose_24 H
  · replace H := H.2 c3
    refine wp_bipush (-2 : Int32) (by decide) dX11_lose_7 ?_
    exact wp_iret trivial dX11_lose_9 H
def p_T_refuseSlip_j46 (l0 : xN) (h : xH) (Q : Int32 → xH → Prop) : Prop := (kd l0.1 = (1, 9)) ∧ p_T_found l0 (2 : Int32) h (fun (v12 : Int32) (h11 : xH) => Q v12 h11)
set_option maxRecDepth 100000 in
set_option maxHeartbeats 4000000 in
theorem t_T_refuseSlip_j46 (l0 : xN) (h : xH) (Q : Int32 → xH → Prop) (H : p_T_refuseSlip_j46 l0 h Q) : WP M_T_refuseSlip 46 [(0, xr l0)] [] h 0 (qi Q) := by
  unfold p_T_refuseSlip_j46 at H
  refine wp_aload_n 0 rfl rfl dX10_refuseSlip_46 ?_
  refine wp_iconst (2 : Int32) (by decide) dX10_refuseSlip_47 ?_
  refine WP.at 48 rfl ?_
  obtain ⟨q10, H⟩ := H
  refine wp_cVi (M2 := M_T_found) coX10 l0 q10 [xi (2 : Int32)] rfl lv_X10_272 mo_T_found (Nat.le_of_ble_eq_true rfl) ⟨(Nat.le_of_ble_eq_true rfl), (Nat.le_of_ble_eq_true rfl)⟩ (Nat.le_of_ble_eq_true rfl) (Nat.le_of_ble_eq_true rfl) dX10_refuseSlip_48 (t_T_found l0 (2 : Int32) _ _ H) (fun v12 h11 H => ?_)
  refine WP.at 51 rfl ?_
  refine wp_goto 55 (by decide) dX10_refuseSlip_51 ?_
  exact wp_iret trivial dX10_refuseSlip_55 H
def p_T_refuseSlip (l0 : xN) (l1 : Int32) (l2 : Int32) (h : xH) (Q : Int32 → xH → Prop) : Prop := p_T_isWindow l1 h (fun (v2 : Int32) (h1 : xH) => ((¬ v2 = 0 → (kd l0.1 = (1, 9)) ∧ (kd (hR h1 l0 3).1 = (5, 1)) ∧ (vp_in l1 (hS h1 (hR h1 l0 3) - 1)) ∧ (kd (hR h1 (hR h1 l0 3) l1.toNatClampNeg).1 = (1, 1)) ∧ ((¬ (hI h1 (hR h1 (hR h1 l0 3) l1.toNatClampNeg) 1) = (-1 : Int32) → ((l2 < 0 → p_T_refuseSlip_j46 l0 h1 Q) ∧ (¬ l2 < 0 → (vp_in l1 (hS h1 (hR h1 l0 3) - 1)) ∧ ((l2 < (hI h1 (hR h1 (hR h1 l0 3) l1.toNatClampNeg) 1) → Q (0 : Int32) h1) ∧ (¬ l2 < (hI h1 (hR h1 (hR h1 l0 3) l1.toNatClampNeg) 1) → p_T_refuseSlip_j46 l0 h1 Q))))) ∧ ((hI h1 (hR h1 (hR h1 l0 3) l1.toNatClampNeg) 1) = (-1 : Int32) → p_T_found l0 (1 : Int32) h1 (fun (v16 : Int32) (h15 : xH) => Q v16 h15)))) ∧ (v2 = 0 → Q (-2 : Int32) h1)))
set_option maxRecDepth 100000 in
set_option maxHeartbeats 4000000 in
theorem t_T_refuseSlip (l0 : xN) (l1 : Int32) (l2 : Int32) (h : xH) (Q : Int32 → xH → Prop) (H : p_T_refuseSlip l0 l1 l2 h Q) : WP M_T_refuseSlip 0 [(0, xr l0), (1, xi l1), (2, xi l2)] [] h 0 (qi Q) := by
  unfold p_T_refuseSlip at H
  refine wp_iload_n 1 rfl rfl dX10_refuseSlip_0 ?_
  refine WP.at 1 rfl ?_
  refine wp_cSi (M2 := M_T_isWindow) [xi l1] rfl ls_X10_162 mo_T_isWindow (Nat.le_of_ble_eq_true rfl) ⟨(Nat.le_of_ble_eq_true rfl), (Nat.le_of_ble_eq_true rfl)⟩ (Nat.le_of_ble_eq_true rfl) (Nat.le_of_ble_eq_true rfl) dX10_refuseSlip_1 (t_T_isWindow l1 _ _ H) (fun v2 h1 H => ?_)
  refine WP.at 4 rfl ?_
  refine wp_if_ne 10 (by decide) dX10_refuseSlip_4 (fun c3 => ?_) (fun c3 => ?_)
  · replace H := H.1 c3
    refine wp_aload_n 0 rfl rfl dX10_refuseSlip_10 ?_
    obtain ⟨q4, H⟩ := H
    refine wp_getr coX10 3 (Nat.le_of_ble_eq_true rfl) fl_X10_29 rfl q4 dX10_refuseSlip_11 ?_
    refine wp_iload_n 1 rfl rfl dX10_refuseSlip_14 ?_
    obtain ⟨q5, H⟩ := H
    obtain ⟨q6, H⟩ := H
    refine wp_aaload q5 q6 dX10_refuseSlip_15 ?_
    obtain ⟨q7, H⟩ := H
    refine wp_geti coX1 1 (Nat.le_of_ble_eq_true rfl) fl_X10_282 rfl q7 dX10_refuseSlip_16 ?_
    refine wp_iconst (-1 : Int32) (by decide) dX10_refuseSlip_19 ?_
    refine WP.at 20 rfl ?_
    refine wp_icmp_ne 29 (by decide) dX10_refuseSlip_20 (fun c8 => ?_) (fun c8 => ?_)
    · replace H := H.1 c8
      refine wp_iload_n 2 rfl rfl dX10_refuseSlip_29 ?_
      refine WP.at 30 rfl ?_
      refine wp_if_lt 46 (by decide) dX10_refuseSlip_30 (fun c9 => ?_) (fun c9 => ?_)
      · replace H := H.1 c9
        exact WP.pick [0] rfl (t_T_refuseSlip_j46 l0 _ _ H)
      · replace H := H.2 c9
        refine wp_iload_n 2 rfl rfl dX10_refuseSlip_33 ?_
        refine wp_aload_n 0 rfl rfl dX10_refuseSlip_34 ?_
        refine wp_getr coX10 3 (Nat.le_of_ble_eq_true rfl) fl_X10_29 rfl q4 dX10_refuseSlip_35 ?_
        refine wp_iload_n 1 rfl rfl dX10_refuseSlip_38 ?_
        obtain ⟨q13, H⟩ := H
        refine wp_aaload q5 q13 dX10_refuseSlip_39 ?_
        refine wp_geti coX1 1 (Nat.le_of_ble_eq_true rfl) fl_X10_282 rfl q7 dX10_refuseSlip_40 ?_
        refine WP.at 43 rfl ?_
        refine wp_icmp_lt 54 (by decide) dX10_refuseSlip_43 (fun c14 => ?_) (fun c14 => ?_)
        · replace H := H.1 c14
          refine wp_iconst (0 : Int32) (by decide) dX10_refuseSlip_54 ?_
          exact wp_iret trivial dX10_refuseSlip_55 H
        · replace H := H.2 c14
          exact WP.pick [0] rfl (t_T_refuseSlip_j46 l0 _ _ H)
    · replace H := H.2 c8
      refine wp_aload_n 0 rfl rfl dX10_refuseSlip_23 ?_
      refine wp_iconst (1 : Int32) (by decide) dX10_refuseSlip_24 ?_
      refine WP.at 25 rfl ?_
      refine wp_cVi (M2 := M_T_found) coX10 l0 q4 [xi (1 : Int32)] rfl lv_X10_272 mo_T_found (Nat.le_of_ble_eq_true rfl) ⟨(Nat.le_of_ble_eq_true rfl), (Nat.le_of_ble_eq_true rfl)⟩ (Nat.le_of_ble_eq_true rfl) (Nat.le_of_ble_eq_true rfl) dX10_refuseSlip_25 (t_T_found l0 (1 : Int32) _ _ H) (fun v16 h15 H => ?_)
      exact wp_iret trivial dX10_refuseSlip_28 H
  · replace H := H.2 c3
    refine wp_bipush (-2 : Int32) (by decide) dX10_refuseSlip_7 ?_
    exact wp_iret trivial dX10_refuseSlip_9 H
def p_Sl_holdTicket (l0 : xN) (l1 : Int32) (h : xH) (Q : xH → Prop) : Prop := (kd l0.1 = (1, 7)) ∧ ∀ h2 : xH, h2 = sI h l0 1 (1 : Int32) → ∀ h4 : xH, h4 = sI h2 l0 2 l1 → Q h4
set_option maxRecDepth 100000 in
set_option maxHeartbeats 4000000 in
theorem t_Sl_holdTicket (l0 : xN) (l1 : Int32) (h : xH) (Q : xH → Prop) (H : p_Sl_holdTicket l0 l1 h Q) : WP M_Sl_holdTicket 0 [(0, xr l0), (1, xi l1)] [] h 0 (qv Q) := by
  unfold p_Sl_holdTicket at H
  refine wp_aload_n 0 rfl rfl dX8_holdTicket_0 ?_
  refine wp_iconst (1 : Int32) (by decide) dX8_holdTicket_1 ?_
  obtain ⟨q1, H⟩ := H
  refine wp_puti coX8 1 (Nat.le_of_ble_eq_true rfl) fl_X8_15 rfl rfl ⟨rfl, rfl⟩ q1 dX8_holdTicket_2 ?_
  refine wp_nh (fun h2 e3 => ?_)
  replace H := H h2 e3
  refine wp_aload_n 0 rfl rfl dX8_holdTicket_5 ?_
  refine wp_iload_n 1 rfl rfl dX8_holdTicket_6 ?_
  refine wp_puti coX8 2 (Nat.le_of_ble_eq_true rfl) fl_X8_19 rfl rfl ⟨rfl, rfl⟩ q1 dX8_holdTicket_7 ?_
  refine wp_nh (fun h4 e5 => ?_)
  replace H := H h4 e5
  exact wp_vret trivial dX8_holdTicket_10 H
def p_T_keep (l0 : xN) (l1 : Int32) (l2 : Int32) (l3 : Int32) (h : xH) (Q : Int32 → xH → Prop) : Prop := p_T_isWindow l1 h (fun (v2 : Int32) (h1 : xH) => ((v2 = 0 → Q (-2 : Int32) h1) ∧ (¬ v2 = 0 → (kd l0.1 = (1, 9)) ∧ p_T_findTicket l0 l3 h1 (fun (v6 : xN) (h5 : xH) => ((¬ v6.1 = 0 → p_T_refuseSlip l0 l1 l2 h5 (fun (v9 : Int32) (h8 : xH) => ((v9 = 0 → (kd (hR h8 l0 3).1 = (5, 1)) ∧ (vp_in l1 (hS h8 (hR h8 l0 3) - 1)) ∧ (kd (hR h8 (hR h8 l0 3) l1.toNatClampNeg).1 = (1, 1)) ∧ (kd (hR h8 (hR h8 (hR h8 l0 3) l1.toNatClampNeg) 0).1 = (5, 7)) ∧ (vp_in l2 (hS h8 (hR h8 (hR h8 (hR h8 l0 3) l1.toNatClampNeg) 0) - 1)) ∧ (kd (hR h8 (hR h8 (hR h8 (hR h8 l0 3) l1.toNatClampNeg) 0) l2.toNatClampNeg).1 = (1, 7)) ∧ p_Sl_holdTicket (hR h8 (hR h8 (hR h8 (hR h8 l0 3) l1.toNatClampNeg) 0) l2.toNatClampNeg) l3 h8 (fun h17 : xH => Q (1 : Int32) h17)) ∧ (¬ v9 = 0 → Q v9 h8)))) ∧ (v6.1 = 0 → Q (-2 : Int32) h5))))))
set_option maxRecDepth 100000 in
set_option maxHeartbeats 4000000 in
theorem t_T_keep (l0 : xN) (l1 : Int32) (l2 : Int32) (l3 : Int32) (h : xH) (Q : Int32 → xH → Prop) (H : p_T_keep l0 l1 l2 l3 h Q) : WP M_T_keep 0 [(0, xr l0), (1, xi l1), (2, xi l2), (3, xi l3)] [] h 0 (qi Q) := by
  unfold p_T_keep at H
  refine wp_iload_n 1 rfl rfl dX10_keep_0 ?_
  refine WP.at 1 rfl ?_
  refine wp_cSi (M2 := M_T_isWindow) [xi l1] rfl ls_X10_162 mo_T_isWindow (Nat.le_of_ble_eq_true rfl) ⟨(Nat.le_of_ble_eq_true rfl), (Nat.le_of_ble_eq_true rfl)⟩ (Nat.le_of_ble_eq_true rfl) (Nat.le_of_ble_eq_true rfl) dX10_keep_1 (t_T_isWindow l1 _ _ H) (fun v2 h1 H => ?_)
  refine WP.at 4 rfl ?_
  refine wp_if_eq 15 (by decide) dX10_keep_4 (fun c3 => ?_) (fun c3 => ?_)
  · replace H := H.1 c3
    refine wp_bipush (-2 : Int32) (by decide) dX10_keep_15 ?_
    exact wp_iret trivial dX10_keep_17 H
  · replace H := H.2 c3
    refine wp_aload_n 0 rfl rfl dX10_keep_7 ?_
    refine wp_iload_n 3 rfl rfl dX10_keep_8 ?_
    refine WP.at 9 rfl ?_
    obtain ⟨q4, H⟩ := H
    refine wp_cVr (M2 := M_T_findTicket) coX10 l0 q4 [xi l3] rfl lv_X10_187 mo_T_findTicket (Nat.le_of_ble_eq_true rfl) ⟨(Nat.le_of_ble_eq_true rfl), (Nat.le_of_ble_eq_true rfl)⟩ (Nat.le_of_ble_eq_true rfl) (Nat.le_of_ble_eq_true rfl) dX10_keep_9 (t_T_findTicket l0 l3 _ _ H) (fun v6 h5 H => ?_)
    refine WP.at 12 rfl ?_
    refine wp_ifnonnull 18 (by decide) dX10_keep_12 (fun c7 => ?_) (fun c7 => ?_)
    · replace H := H.1 c7
      refine wp_aload_n 0 rfl rfl dX10_keep_18 ?_
      refine wp_iload_n 1 rfl rfl dX10_keep_19 ?_
      refine wp_iload_n 2 rfl rfl dX10_keep_20 ?_
      refine WP.at 21 rfl ?_
      refine wp_cVi (M2 := M_T_refuseSlip) coX10 l0 q4 [xi l1, xi l2] rfl lv_X10_285 mo_T_refuseSlip (Nat.le_of_ble_eq_true rfl) ⟨(Nat.le_of_ble_eq_true rfl), (Nat.le_of_ble_eq_true rfl)⟩ (Nat.le_of_ble_eq_true rfl) (Nat.le_of_ble_eq_true rfl) dX10_keep_21 (t_T_refuseSlip l0 l1 l2 _ _ H) (fun v9 h8 H => ?_)
      refine wp_istore (Nat.le_of_ble_eq_true rfl) dX10_keep_24 (ls' := [(4, xi v9), (0, xr l0), (1, xi l1), (2, xi l2), (3, xi l3)]) rfl ?_
      refine wp_iload rfl dX10_keep_26 ?_
      refine WP.at 28 rfl ?_
      refine wp_if_eq 34 (by decide) dX10_keep_28 (fun c10 => ?_) (fun c10 => ?_)
      · replace H := H.1 c10
        refine wp_aload_n 0 rfl rfl dX10_keep_34 ?_
        refine wp_getr coX10 3 (Nat.le_of_ble_eq_true rfl) fl_X10_29 rfl q4 dX10_keep_35 ?_
        refine wp_iload_n 1 rfl rfl dX10_keep_38 ?_
        obtain ⟨q11, H⟩ := H
        obtain ⟨q12, H⟩ := H
        refine wp_aaload q11 q12 dX10_keep_39 ?_
        obtain ⟨q13, H⟩ := H
        refine wp_getr coX1 0 (Nat.le_of_ble_eq_true rfl) fl_X10_288 rfl q13 dX10_keep_40 ?_
        refine wp_iload_n 2 rfl rfl dX10_keep_43 ?_
        obtain ⟨q14, H⟩ := H
        obtain ⟨q15, H⟩ := H
        refine wp_aaload q14 q15 dX10_keep_44 ?_
        refine WP.at 45 rfl ?_
        refine wp_iload_n 3 rfl rfl dX10_keep_45 ?_
        refine WP.at 46 rfl ?_
        obtain ⟨q16, H⟩ := H
        refine wp_cVv (M2 := M_Sl_holdTicket) coX8 (hR h8 (hR h8 (hR h8 (hR h8 l0 3) l1.toNatClampNeg) 0) l2.toNatClampNeg) q16 [xi l3] rfl lv_X10_292 mo_Sl_holdTicket (Nat.le_of_ble_eq_true rfl) ⟨(Nat.le_of_ble_eq_true rfl), (Nat.le_of_ble_eq_true rfl)⟩ (Nat.le_of_ble_eq_true rfl) (Nat.le_of_ble_eq_true rfl) dX10_keep_46 (t_Sl_holdTicket (hR h8 (hR h8 (hR h8 (hR h8 l0 3) l1.toNatClampNeg) 0) l2.toNatClampNeg) l3 _ _ H) (fun h17 H => ?_)
        refine wp_iconst (1 : Int32) (by decide) dX10_keep_49 ?_
        exact wp_iret trivial dX10_keep_50 H
      · replace H := H.2 c10
        refine wp_iload rfl dX10_keep_31 ?_
        exact wp_iret trivial dX10_keep_33 H
    · replace H := H.2 c7
      refine wp_bipush (-2 : Int32) (by decide) dX10_keep_15 ?_
      exact wp_iret trivial dX10_keep_17 H
def p_M_lacks (l0 : xN) (l1 : Int32) (l2 : Int32) (h : xH) (Q : Int32 → xH → Prop) : Prop := (kd l0.1 = (1, 10)) ∧ (kd (hR h l0 51).1 = (3, 0)) ∧ (vp_in l1 (hS h (hR h l0 51) - 1)) ∧ ((¬ (hI h (hR h l0 51) l1.toNatClampNeg) = 0 → (kd (hR h l0 52).1 = (2, 0)) ∧ (vp_in l1 (hS h (hR h l0 52) - 1)) ∧ p_M_in l2 (0 : Int32) ((hI h (hR h l0 52) l1.toNatClampNeg) - (1 : Int32)) h (fun (v8 : Int32) (h7 : xH) => ((v8 = 0 → Q (2 : Int32) h7) ∧ (¬ v8 = 0 → Q (0 : Int32) h7)))) ∧ ((hI h (hR h l0 51) l1.toNatClampNeg) = 0 → Q (1 : Int32) h))
set_option maxRecDepth 100000 in
set_option maxHeartbeats 4000000 in
theorem t_M_lacks (l0 : xN) (l1 : Int32) (l2 : Int32) (h : xH) (Q : Int32 → xH → Prop) (H : p_M_lacks l0 l1 l2 h Q) : WP M_M_lacks 0 [(0, xr l0), (1, xi l1), (2, xi l2)] [] h 0 (qi Q) := by
  unfold p_M_lacks at H
  refine wp_aload_n 0 rfl rfl dX11_lacks_0 ?_
  obtain ⟨q1, H⟩ := H
  refine wp_getr coX11 51 (Nat.le_of_ble_eq_true rfl) fl_X11_122 rfl q1 dX11_lacks_1 ?_
  refine wp_iload_n 1 rfl rfl dX11_lacks_4 ?_
  obtain ⟨q2, H⟩ := H
  obtain ⟨q3, H⟩ := H
  refine wp_baload q2 q3 dX11_lacks_5 ?_
  refine WP.at 6 rfl ?_
  refine wp_if_ne 13 (by decide) dX11_lacks_6 (fun c4 => ?_) (fun c4 => ?_)
  · replace H := H.1 c4
    refine wp_iload_n 2 rfl rfl dX11_lacks_13 ?_
    refine wp_iconst (0 : Int32) (by decide) dX11_lacks_14 ?_
    refine wp_aload_n 0 rfl rfl dX11_lacks_15 ?_
    refine wp_getr coX11 52 (Nat.le_of_ble_eq_true rfl) fl_X11_125 rfl q1 dX11_lacks_16 ?_
    refine wp_iload_n 1 rfl rfl dX11_lacks_19 ?_
    obtain ⟨q5, H⟩ := H
    obtain ⟨q6, H⟩ := H
    refine wp_iaload q5 q6 dX11_lacks_20 ?_
    refine wp_iconst (1 : Int32) (by decide) dX11_lacks_21 ?_
    refine WP.at 22 rfl ?_
    refine wp_isub dX11_lacks_22 ?_
    refine WP.at 23 rfl ?_
    refine wp_cSi (M2 := M_M_in) [xi l2, xi (0 : Int32), xi ((hI h (hR h l0 52) l1.toNatClampNeg) - (1 : Int32))] rfl ls_X11_172 mo_M_in (Nat.le_of_ble_eq_true rfl) ⟨(Nat.le_of_ble_eq_true rfl), (Nat.le_of_ble_eq_true rfl)⟩ (Nat.le_of_ble_eq_true rfl) (Nat.le_of_ble_eq_true rfl) dX11_lacks_23 (t_M_in l2 (0 : Int32) ((hI h (hR h l0 52) l1.toNatClampNeg) - (1 : Int32)) _ _ H) (fun v8 h7 H => ?_)
    refine WP.at 26 rfl ?_
    refine wp_if_eq 33 (by decide) dX11_lacks_26 (fun c9 => ?_) (fun c9 => ?_)
    · replace H := H.1 c9
      refine wp_iconst (2 : Int32) (by decide) dX11_lacks_33 ?_
      exact wp_iret trivial dX11_lacks_34 H
    · replace H := H.2 c9
      refine wp_iconst (0 : Int32) (by decide) dX11_lacks_29 ?_
      refine WP.at 30 rfl ?_
      refine wp_goto 34 (by decide) dX11_lacks_30 ?_
      exact wp_iret trivial dX11_lacks_34 H
  · replace H := H.2 c4
    refine wp_iconst (1 : Int32) (by decide) dX11_lacks_9 ?_
    refine WP.at 10 rfl ?_
    refine wp_goto 34 (by decide) dX11_lacks_10 ?_
    exact wp_iret trivial dX11_lacks_34 H
def p_M_keep (l0 : xN) (l1 : Int32) (l2 : Int32) (l3 : Int32) (h : xH) (Q : Int32 → xH → Prop) : Prop := p_M_isWindow l1 h (fun (v2 : Int32) (h1 : xH) => ((v2 = 0 → Q (-2 : Int32) h1) ∧ (¬ v2 = 0 → (kd l0.1 = (1, 10)) ∧ p_M_isTicket l0 l3 h1 (fun (v6 : Int32) (h5 : xH) => ((¬ v6 = 0 → p_M_lacks l0 l1 l2 h5 (fun (v9 : Int32) (h8 : xH) => ((v9 ≤ 0 → (kd (hR h8 l0 53).1 = (2, 0)) ∧ (vp_in (((12 : Int32) * l1) + l2) (hS h8 (hR h8 l0 53) - 1)) ∧ ∀ h13 : xH, h13 = sI h8 (hR h8 l0 53) (((12 : Int32) * l1) + l2).toNatClampNeg (1 : Int32) → (kd (hR h13 l0 54).1 = (2, 0)) ∧ (vp_in (((12 : Int32) * l1) + l2) (hS h13 (hR h13 l0 54) - 1)) ∧ ∀ h17 : xH, h17 = sI h13 (hR h13 l0 54) (((12 : Int32) * l1) + l2).toNatClampNeg l3 → Q (1 : Int32) h17) ∧ (¬ v9 ≤ 0 → p_M_meets l0 v9 h8 (fun (v20 : Int32) (h19 : xH) => Q v20 h19))))) ∧ (v6 = 0 → Q (-2 : Int32) h5))))))
set_option maxRecDepth 100000 in
set_option maxHeartbeats 4000000 in
theorem t_M_keep (l0 : xN) (l1 : Int32) (l2 : Int32) (l3 : Int32) (h : xH) (Q : Int32 → xH → Prop) (H : p_M_keep l0 l1 l2 l3 h Q) : WP M_M_keep 0 [(0, xr l0), (1, xi l1), (2, xi l2), (3, xi l3)] [] h 0 (qi Q) := by
  unfold p_M_keep at H
  refine wp_iload_n 1 rfl rfl dX11_keep_0 ?_
  refine WP.at 1 rfl ?_
  refine wp_cSi (M2 := M_M_isWindow) [xi l1] rfl ls_X11_326 mo_M_isWindow (Nat.le_of_ble_eq_true rfl) ⟨(Nat.le_of_ble_eq_true rfl), (Nat.le_of_ble_eq_true rfl)⟩ (Nat.le_of_ble_eq_true rfl) (Nat.le_of_ble_eq_true rfl) dX11_keep_1 (t_M_isWindow l1 _ _ H) (fun v2 h1 H => ?_)
  refine WP.at 4 rfl ?_
  refine wp_if_eq 15 (by decide) dX11_keep_4 (fun c3 => ?_) (fun c3 => ?_)
  · replace H := H.1 c3
    refine wp_bipush (-2 : Int32) (by decide) dX11_keep_15 ?_
    exact wp_iret trivial dX11_keep_17 H
  · replace H := H.2 c3
    refine wp_aload_n 0 rfl rfl dX11_keep_7 ?_
    refine wp_iload_n 3 rfl rfl dX11_keep_8 ?_
    refine WP.at 9 rfl ?_
    obtain ⟨q4, H⟩ := H
    refine wp_cVi (M2 := M_M_isTicket) coX11 l0 q4 [xi l3] rfl lv_X11_291 mo_M_isTicket (Nat.le_of_ble_eq_true rfl) ⟨(Nat.le_of_ble_eq_true rfl), (Nat.le_of_ble_eq_true rfl)⟩ (Nat.le_of_ble_eq_true rfl) (Nat.le_of_ble_eq_true rfl) dX11_keep_9 (t_M_isTicket l0 l3 _ _ H) (fun v6 h5 H => ?_)
    refine WP.at 12 rfl ?_
    refine wp_if_ne 18 (by decide) dX11_keep_12 (fun c7 => ?_) (fun c7 => ?_)
    · replace H := H.1 c7
      refine wp_aload_n 0 rfl rfl dX11_keep_18 ?_
      refine wp_iload_n 1 rfl rfl dX11_keep_19 ?_
      refine wp_iload_n 2 rfl rfl dX11_keep_20 ?_
      refine WP.at 21 rfl ?_
      refine wp_cVi (M2 := M_M_lacks) coX11 l0 q4 [xi l1, xi l2] rfl lv_X11_329 mo_M_lacks (Nat.le_of_ble_eq_true rfl) ⟨(Nat.le_of_ble_eq_true rfl), (Nat.le_of_ble_eq_true rfl)⟩ (Nat.le_of_ble_eq_true rfl) (Nat.le_of_ble_eq_true rfl) dX11_keep_21 (t_M_lacks l0 l1 l2 _ _ H) (fun v9 h8 H => ?_)
      refine wp_istore (Nat.le_of_ble_eq_true rfl) dX11_keep_24 (ls' := [(4, xi v9), (0, xr l0), (1, xi l1), (2, xi l2), (3, xi l3)]) rfl ?_
      refine wp_iload rfl dX11_keep_26 ?_
      refine WP.at 28 rfl ?_
      refine wp_if_le 38 (by decide) dX11_keep_28 (fun c10 => ?_) (fun c10 => ?_)
      · replace H := H.1 c10
        refine wp_aload_n 0 rfl rfl dX11_keep_38 ?_
        refine wp_getr coX11 53 (Nat.le_of_ble_eq_true rfl) fl_X11_128 rfl q4 dX11_keep_39 ?_
        refine wp_bipush (12 : Int32) (by decide) dX11_keep_42 ?_
        refine wp_iload_n 1 rfl rfl dX11_keep_44 ?_
        refine wp_imul dX11_keep_45 ?_
        refine wp_iload_n 2 rfl rfl dX11_keep_46 ?_
        refine wp_iadd dX11_keep_47 ?_
        refine WP.at 48 rfl ?_
        refine wp_iconst (1 : Int32) (by decide) dX11_keep_48 ?_
        obtain ⟨q11, H⟩ := H
        obtain ⟨q12, H⟩ := H
        refine wp_iastore q11 q12 dX11_keep_49 ?_
        refine wp_nh (fun h13 e14 => ?_)
        replace H := H h13 e14
        refine wp_aload_n 0 rfl rfl dX11_keep_50 ?_
        refine wp_getr coX11 54 (Nat.le_of_ble_eq_true rfl) fl_X11_131 rfl q4 dX11_keep_51 ?_
        refine wp_bipush (12 : Int32) (by decide) dX11_keep_54 ?_
        refine wp_iload_n 1 rfl rfl dX11_keep_56 ?_
        refine wp_imul dX11_keep_57 ?_
        refine wp_iload_n 2 rfl rfl dX11_keep_58 ?_
        refine WP.at 59 rfl ?_
        refine wp_iadd dX11_keep_59 ?_
        refine wp_iload_n 3 rfl rfl dX11_keep_60 ?_
        obtain ⟨q15, H⟩ := H
        obtain ⟨q16, H⟩ := H
        refine wp_iastore q15 q16 dX11_keep_61 ?_
        refine wp_nh (fun h17 e18 => ?_)
        replace H := H h17 e18
        refine wp_iconst (1 : Int32) (by decide) dX11_keep_62 ?_
        exact wp_iret trivial dX11_keep_63 H
      · replace H := H.2 c10
        refine wp_aload_n 0 rfl rfl dX11_keep_31 ?_
        refine wp_iload rfl dX11_keep_32 ?_
        refine WP.at 34 rfl ?_
        refine wp_cVi (M2 := M_M_meets) coX11 l0 q4 [xi v9] rfl lv_X11_316 mo_M_meets (Nat.le_of_ble_eq_true rfl) ⟨(Nat.le_of_ble_eq_true rfl), (Nat.le_of_ble_eq_true rfl)⟩ (Nat.le_of_ble_eq_true rfl) (Nat.le_of_ble_eq_true rfl) dX11_keep_34 (t_M_meets l0 v9 _ _ H) (fun v20 h19 H => ?_)
        exact wp_iret trivial dX11_keep_37 H
    · replace H := H.2 c7
      refine wp_bipush (-2 : Int32) (by decide) dX11_keep_15 ?_
      exact wp_iret trivial dX11_keep_17 H
def p_Sl_holdNote_L13 (l0 : xN) (l1 : Int64) (l3 : Int32) (K13_47 : xH → Prop) (Q : xH → Prop) : Nat → Int32 → xH → Prop
  | 0, _, _ => False
  | f + 1, l4, h => ((l3 ≤ l4 → K13_47 h) ∧ (¬ l3 ≤ l4 → (kd l0.1 = (1, 7)) ∧ (kd (hR h l0 0).1 = (2, 0)) ∧ (vp_in l4 (hS h (hR h l0 0) - 1)) ∧ ∀ h10 : xH, h10 = sI h (hR h l0 0) l4.toNatClampNeg ((((l1.toUInt64 >>> (((16 : Int32) * ((l3 - (1 : Int32)) - l4)).toInt64.toUInt64 &&& Int64.toUInt64 63)).toInt64).toInt32) &&& (65535 : Int32)) → ∀ v12 : Int32, v12 = l4 + (1 : Int32) → (p_Sl_holdNote_L13 l0 l1 l3 K13_47 Q f) v12 h10))
set_option maxRecDepth 100000 in
set_option maxHeartbeats 4000000 in
theorem t_Sl_holdNote_L13 (l0 : xN) (l1 : Int64) (l3 : Int32) (K13_47 : xH → Prop) (Q : xH → Prop) (hK13_47 : ∀ (h : xH), K13_47 h → WP M_Sl_holdNote 47 [] [] h 0 (qv Q)) : ∀ (f : Nat) (l4 : Int32) (h : xH), p_Sl_holdNote_L13 l0 l1 l3 K13_47 Q f l4 h → WP M_Sl_holdNote 13 [(0, xr l0), (1, xl l1), (3, xi l3), (4, xi l4)] [] h 0 (qv Q) := by
  intro f
  induction f with
  | zero => exact fun _ _ H => H.elim
  | succ f hB13 =>
    intro l4 h H
    unfold p_Sl_holdNote_L13 at H
    refine wp_iload rfl dX8_holdNote_13 ?_
    refine wp_iload_n 3 rfl rfl dX8_holdNote_15 ?_
    refine WP.at 16 rfl ?_
    refine wp_icmp_ge 47 (by decide) dX8_holdNote_16 (fun c6 => ?_) (fun c6 => ?_)
    · replace H := H.1 c6
      exact WP.pick [] rfl (hK13_47 _ H)
    · replace H := H.2 c6
      refine wp_aload_n 0 rfl rfl dX8_holdNote_19 ?_
      obtain ⟨q7, H⟩ := H
      refine wp_getr coX8 0 (Nat.le_of_ble_eq_true rfl) fl_X8_9 rfl q7 dX8_holdNote_20 ?_
      refine wp_iload rfl dX8_holdNote_23 ?_
      refine wp_lload_n 1 rfl rfl dX8_holdNote_25 ?_
      refine wp_bipush (16 : Int32) (by decide) dX8_holdNote_26 ?_
      refine wp_iload_n 3 rfl rfl dX8_holdNote_28 ?_
      refine wp_iconst (1 : Int32) (by decide) dX8_holdNote_29 ?_
      refine WP.at 30 rfl ?_
      refine wp_isub dX8_holdNote_30 ?_
      refine wp_iload rfl dX8_holdNote_31 ?_
      refine wp_isub dX8_holdNote_33 ?_
      refine wp_imul dX8_holdNote_34 ?_
      refine wp_lushr dX8_holdNote_35 ?_
      refine wp_l2i dX8_holdNote_36 ?_
      refine wp_ldc (65535 : Int32) cI_X8_25 dX8_holdNote_37 ?_
      refine wp_iand dX8_holdNote_39 ?_
      refine WP.at 40 rfl ?_
      obtain ⟨q8, H⟩ := H
      obtain ⟨q9, H⟩ := H
      refine wp_iastore q8 q9 dX8_holdNote_40 ?_
      refine wp_nh (fun h10 e11 => ?_)
      replace H := H h10 e11
      refine wp_iincN (1 : Int32) (by decide) rfl (Nat.le_of_ble_eq_true rfl) dX8_holdNote_41 (ls' := fun v12 => [(4, xi v12), (0, xr l0), (1, xl l1), (3, xi l3)]) (fun _ => rfl) (fun v12 e13 => ?_)
      replace H := H v12 e13
      refine WP.at 44 rfl ?_
      refine wp_goto 13 (by decide) dX8_holdNote_44 ?_
      exact WP.pick [1, 2, 3, 0] rfl (hB13 v12 _ H)
def p_Sl_holdNote (l0 : xN) (l1 : Int64) (l3 : Int32) (h : xH) (Q : xH → Prop) : Prop := (kd l0.1 = (1, 7)) ∧ ∀ h2 : xH, h2 = sI h l0 1 (2 : Int32) → ∀ h4 : xH, h4 = sI h2 l0 3 l3 → (∃ f15, p_Sl_holdNote_L13 l0 l1 l3 (fun (h14 : xH) => Q h14) Q f15 (0 : Int32) h4)
set_option maxRecDepth 100000 in
set_option maxHeartbeats 4000000 in
theorem t_Sl_holdNote (l0 : xN) (l1 : Int64) (l3 : Int32) (h : xH) (Q : xH → Prop) (H : p_Sl_holdNote l0 l1 l3 h Q) : WP M_Sl_holdNote 0 [(0, xr l0), (1, xl l1), (3, xi l3)] [] h 0 (qv Q) := by
  unfold p_Sl_holdNote at H
  refine wp_aload_n 0 rfl rfl dX8_holdNote_0 ?_
  refine wp_iconst (2 : Int32) (by decide) dX8_holdNote_1 ?_
  obtain ⟨q1, H⟩ := H
  refine wp_puti coX8 1 (Nat.le_of_ble_eq_true rfl) fl_X8_15 rfl rfl ⟨rfl, rfl⟩ q1 dX8_holdNote_2 ?_
  refine wp_nh (fun h2 e3 => ?_)
  replace H := H h2 e3
  refine wp_aload_n 0 rfl rfl dX8_holdNote_5 ?_
  refine wp_iload_n 3 rfl rfl dX8_holdNote_6 ?_
  refine wp_puti coX8 3 (Nat.le_of_ble_eq_true rfl) fl_X8_22 rfl rfl ⟨rfl, rfl⟩ q1 dX8_holdNote_7 ?_
  refine wp_nh (fun h4 e5 => ?_)
  replace H := H h4 e5
  refine wp_iconst (0 : Int32) (by decide) dX8_holdNote_10 ?_
  refine WP.at 11 rfl ?_
  refine wp_istore (Nat.le_of_ble_eq_true rfl) dX8_holdNote_11 (ls' := [(4, xi (0 : Int32)), (0, xr l0), (1, xl l1), (3, xi l3)]) rfl ?_
  refine WP.at 13 rfl ?_
  obtain ⟨f15, H⟩ := H
  refine WP.pick [1, 2, 3, 0] rfl (t_Sl_holdNote_L13 l0 l1 l3 _ Q ?_ f15 (0 : Int32) _ H)
  · intro h14 H
    exact wp_vret trivial dX8_holdNote_47 H
def p_T_note (l0 : xN) (l1 : Int32) (l2 : Int32) (l3 : Int64) (l5 : Int32) (h : xH) (Q : Int32 → xH → Prop) : Prop := p_T_isWindow l1 h (fun (v2 : Int32) (h1 : xH) => ((¬ v2 = 0 → ((l5 < (1 : Int32) → Q (-3 : Int32) h1) ∧ (¬ l5 < (1 : Int32) → ((l5 ≤ (4 : Int32) → (kd l0.1 = (1, 9)) ∧ p_T_refuseSlip l0 l1 l2 h1 (fun (v8 : Int32) (h7 : xH) => ((v8 = 0 → (kd (hR h7 l0 3).1 = (5, 1)) ∧ (vp_in l1 (hS h7 (hR h7 l0 3) - 1)) ∧ (kd (hR h7 (hR h7 l0 3) l1.toNatClampNeg).1 = (1, 1)) ∧ (kd (hR h7 (hR h7 (hR h7 l0 3) l1.toNatClampNeg) 0).1 = (5, 7)) ∧ (vp_in l2 (hS h7 (hR h7 (hR h7 (hR h7 l0 3) l1.toNatClampNeg) 0) - 1)) ∧ (kd (hR h7 (hR h7 (hR h7 (hR h7 l0 3) l1.toNatClampNeg) 0) l2.toNatClampNeg).1 = (1, 7)) ∧ p_Sl_holdNote (hR h7 (hR h7 (hR h7 (hR h7 l0 3) l1.toNatClampNeg) 0) l2.toNatClampNeg) l3 l5 h7 (fun h16 : xH => Q l5 h16)) ∧ (¬ v8 = 0 → Q v8 h7)))) ∧ (¬ l5 ≤ (4 : Int32) → Q (-3 : Int32) h1))))) ∧ (v2 = 0 → Q (-2 : Int32) h1)))
set_option maxRecDepth 100000 in
set_option maxHeartbeats 4000000 in
theorem t_T_note (l0 : xN) (l1 : Int32) (l2 : Int32) (l3 : Int64) (l5 : Int32) (h : xH) (Q : Int32 → xH → Prop) (H : p_T_note l0 l1 l2 l3 l5 h Q) : WP M_T_note 0 [(0, xr l0), (1, xi l1), (2, xi l2), (3, xl l3), (5, xi l5)] [] h 0 (qi Q) := by
  unfold p_T_note at H
  refine wp_iload_n 1 rfl rfl dX10_note_0 ?_
  refine WP.at 1 rfl ?_
  refine wp_cSi (M2 := M_T_isWindow) [xi l1] rfl ls_X10_162 mo_T_isWindow (Nat.le_of_ble_eq_true rfl) ⟨(Nat.le_of_ble_eq_true rfl), (Nat.le_of_ble_eq_true rfl)⟩ (Nat.le_of_ble_eq_true rfl) (Nat.le_of_ble_eq_true rfl) dX10_note_1 (t_T_isWindow l1 _ _ H) (fun v2 h1 H => ?_)
  refine WP.at 4 rfl ?_
  refine wp_if_ne 10 (by decide) dX10_note_4 (fun c3 => ?_) (fun c3 => ?_)
  · replace H := H.1 c3
    refine wp_iload rfl dX10_note_10 ?_
    refine wp_iconst (1 : Int32) (by decide) dX10_note_12 ?_
    refine WP.at 13 rfl ?_
    refine wp_icmp_lt 22 (by decide) dX10_note_13 (fun c4 => ?_) (fun c4 => ?_)
    · replace H := H.1 c4
      refine wp_bipush (-3 : Int32) (by decide) dX10_note_22 ?_
      exact wp_iret trivial dX10_note_24 H
    · replace H := H.2 c4
      refine wp_iload rfl dX10_note_16 ?_
      refine wp_iconst (4 : Int32) (by decide) dX10_note_18 ?_
      refine WP.at 19 rfl ?_
      refine wp_icmp_le 25 (by decide) dX10_note_19 (fun c5 => ?_) (fun c5 => ?_)
      · replace H := H.1 c5
        refine wp_aload_n 0 rfl rfl dX10_note_25 ?_
        refine wp_iload_n 1 rfl rfl dX10_note_26 ?_
        refine wp_iload_n 2 rfl rfl dX10_note_27 ?_
        refine WP.at 28 rfl ?_
        obtain ⟨q6, H⟩ := H
        refine wp_cVi (M2 := M_T_refuseSlip) coX10 l0 q6 [xi l1, xi l2] rfl lv_X10_285 mo_T_refuseSlip (Nat.le_of_ble_eq_true rfl) ⟨(Nat.le_of_ble_eq_true rfl), (Nat.le_of_ble_eq_true rfl)⟩ (Nat.le_of_ble_eq_true rfl) (Nat.le_of_ble_eq_true rfl) dX10_note_28 (t_T_refuseSlip l0 l1 l2 _ _ H) (fun v8 h7 H => ?_)
        refine wp_istore (Nat.le_of_ble_eq_true rfl) dX10_note_31 (ls' := [(6, xi v8), (0, xr l0), (1, xi l1), (2, xi l2), (3, xl l3), (5, xi l5)]) rfl ?_
        refine wp_iload rfl dX10_note_33 ?_
        refine WP.at 35 rfl ?_
        refine wp_if_eq 41 (by decide) dX10_note_35 (fun c9 => ?_) (fun c9 => ?_)
        · replace H := H.1 c9
          refine wp_aload_n 0 rfl rfl dX10_note_41 ?_
          refine wp_getr coX10 3 (Nat.le_of_ble_eq_true rfl) fl_X10_29 rfl q6 dX10_note_42 ?_
          refine wp_iload_n 1 rfl rfl dX10_note_45 ?_
          obtain ⟨q10, H⟩ := H
          obtain ⟨q11, H⟩ := H
          refine wp_aaload q10 q11 dX10_note_46 ?_
          obtain ⟨q12, H⟩ := H
          refine wp_getr coX1 0 (Nat.le_of_ble_eq_true rfl) fl_X10_288 rfl q12 dX10_note_47 ?_
          refine wp_iload_n 2 rfl rfl dX10_note_50 ?_
          obtain ⟨q13, H⟩ := H
          obtain ⟨q14, H⟩ := H
          refine wp_aaload q13 q14 dX10_note_51 ?_
          refine WP.at 52 rfl ?_
          refine wp_lload_n 3 rfl rfl dX10_note_52 ?_
          refine wp_iload rfl dX10_note_53 ?_
          refine WP.at 55 rfl ?_
          obtain ⟨q15, H⟩ := H
          refine wp_cVv (M2 := M_Sl_holdNote) coX8 (hR h7 (hR h7 (hR h7 (hR h7 l0 3) l1.toNatClampNeg) 0) l2.toNatClampNeg) q15 [xl l3, xi l5] rfl lv_X10_297 mo_Sl_holdNote (Nat.le_of_ble_eq_true rfl) ⟨(Nat.le_of_ble_eq_true rfl), (Nat.le_of_ble_eq_true rfl)⟩ (Nat.le_of_ble_eq_true rfl) (Nat.le_of_ble_eq_true rfl) dX10_note_55 (t_Sl_holdNote (hR h7 (hR h7 (hR h7 (hR h7 l0 3) l1.toNatClampNeg) 0) l2.toNatClampNeg) l3 l5 _ _ H) (fun h16 H => ?_)
          refine wp_iload rfl dX10_note_58 ?_
          exact wp_iret trivial dX10_note_60 H
        · replace H := H.2 c9
          refine wp_iload rfl dX10_note_38 ?_
          exact wp_iret trivial dX10_note_40 H
      · replace H := H.2 c5
        refine wp_bipush (-3 : Int32) (by decide) dX10_note_22 ?_
        exact wp_iret trivial dX10_note_24 H
  · replace H := H.2 c3
    refine wp_bipush (-2 : Int32) (by decide) dX10_note_7 ?_
    exact wp_iret trivial dX10_note_9 H
