section Group
variable {qq : Prop} {L : Nat} {xs : Nat → Int32} {nr nt : Nat} {v g g0 : xH}
/-- how many tickets a pool has -/
def tkc (I : xN → Nat → Int32) (nt p : Nat) : Nat := cn (fun t => decide (I (58, 0) t = nI p)) nt
theorem live_le2 (I : xN → Nat → Int32) (p M : Nat) : ∀ nt, cn (fun l => decide (0 < lvl I nt p l)) M ≤ tkc I nt p
  | 0 => by
    have := live_le I p M 0
    unfold tkc; simp [cn]; omega
  | nt + 1 => by
    have ih := live_le2 I p M nt
    have e : ∀ l, lvl I (nt + 1) p l = lvl I nt p l + (if I (58, 0) nt = nI p ∧ I (63, 0) nt = 0 ∧ tl I nt = l then (I (62, 0) nt).toNatClampNeg else 0) := fun l => rfl
    have ht : tkc I (nt + 1) p = tkc I nt p + (if decide (I (58, 0) nt = nI p) = true then 1 else 0) := rfl
    rw [ht]
    by_cases c : I (58, 0) nt = nI p
    · have q := cn_one (f := fun l => decide (0 < lvl I nt p l)) (g := fun l => decide (0 < lvl I (nt + 1) p l)) (x := tl I nt) (fun l hl => by rw [e, if_neg (fun z => hl z.2.2.symm), Nat.add_zero]) M
      simp only [c, decide_true, if_true]
      omega
    · have q : cn (fun l => decide (0 < lvl I (nt + 1) p l)) M = cn (fun l => decide (0 < lvl I nt p l)) M := cn_congr M (fun l _ => by rw [e, if_neg (fun z => c z.1), Nat.add_zero])
      rw [q]; omega
theorem en_le2 {I : xN → Nat → Int32} {p nt : Nat} {ln : Nat → Nat} {n M : Nat} {S : Nat → Prop} (e : En ln n M S) (h : ∀ l, l < M → S l → 0 < lvl I nt p l) : n ≤ tkc I nt p := by
  have e2 : En ln n M (fun l => decide (∃ i, i < n ∧ ln i = l) = true) := e.congr (fun l hl => by
    simp only [decide_eq_true_eq]
    exact ⟨fun z => e.2.2 l hl z, fun ⟨i, hi, ei⟩ => by rw [← ei]; exact (e.1 i hi).2⟩)
  have c := en_card n _ e2
  have m := cn_mono (f := fun l => decide (∃ i, i < n ∧ ln i = l)) (g := fun l => decide (0 < lvl I nt p l)) M (fun l hl z => by
    simp only [decide_eq_true_eq] at z ⊢
    obtain ⟨i, hi, ei⟩ := z
    rw [← ei]; exact h _ (e.1 i hi).1 (e.1 i hi).2)
  have := live_le2 I p M nt
  omega
theorem tkc_mono (I : xN → Nat → Int32) (p : Nat) {a b : Nat} (h : a ≤ b) : tkc I a p ≤ tkc I b p := by
  induction b with
  | zero => rw [show a = 0 by omega]; exact Nat.le_refl _
  | succ b ih =>
    by_cases e : a = b + 1
    · rw [e]; exact Nat.le_refl _
    · have := ih (by omega)
      have : tkc I (b + 1) p = tkc I b p + (if decide (I (58, 0) b = nI p) = true then 1 else 0) := rfl
      omega
/-- runners of the right form for a kind -/
def trp (k a b c : Nat) : Prop := a ≤ 12 ∧ b ≤ 12 ∧ c ≤ 12 ∧ 1 ≤ a ∧ (k < 2 → b = 0) ∧ (2 ≤ k → 1 ≤ b) ∧ (k ≠ 3 → c = 0) ∧ (k = 3 → 1 ≤ c ∧ a ≠ b ∧ a ≠ c ∧ b ≠ c) ∧ (k = 2 → a < b)
theorem TkF.trp {I : xN → Nat → Int32} {t p a b c u : Nat} (k : TkF I t p a b c u) : trp (kf p) a b c := ⟨k.a12, k.b12, k.c12, k.form⟩
theorem trp_eq {k a b c a' b' c' : Nat} (hk : k ≤ 4) (x : trp k a b c) (y : trp k a' b' c') : (a = a' ∧ b = b' ∧ c = c') ↔ lin k a b c = lin k a' b' c' := by
  obtain ⟨x1, x2, x3, x4, x5, x6, x7, x8, x9⟩ := x
  obtain ⟨y1, y2, y3, y4, y5, y6, y7, y8, y9⟩ := y
  rw [← lin2_lin y9, ← isF_line hk x1 x2 x3 y1 y2 y3 x5 x7 x9 y5 y7]
  constructor
  · exact fun z => Or.inl z
  · rintro (z | ⟨z, z1, z2⟩)
    · exact z
    · have := x9 z; have := y9 z; omega
/-- the places of the groups -/
def KG : xN → Nat → Prop := fun n j => (n = (12, 0) ∧ j = 35) ∨ n = (70, 0) ∨ n = (71, 0) ∨ n = (72, 0) ∨ n = (73, 0)
/-- groups F to G of pool p, of the first a tickets -/
def GRr (g : xH) (I : xN → Nat → Int32) (p a F G : Nat) (gl : Nat → Nat) : Prop := hI g (12, 0) 35 = nI G ∧ F ≤ G ∧ En (fun i => gl (F + i)) (G - F) (lls p) (fun l => 0 < lvl I a p l) ∧ ∀ x, F ≤ x → x < G → ∃ A B C, trp (kf p) A B C ∧ lin (kf p) A B C = gl x ∧ hI g (70, 0) x = nI A ∧ hI g (71, 0) x = nI B ∧ hI g (72, 0) x = nI C ∧ hI g (73, 0) x = nI (lvl I a p (gl x))
theorem GRr.G {p a F G : Nat} {gl : Nat → Nat} (r : GRr g (hI v) p a F G gl) {nt : Nat} (hb : F + tkc (hI v) nt p ≤ 200) (ha : a ≤ nt) : G ≤ 200 := by
  have := en_le2 r.2.2.1 (fun l _ z => z)
  have := tkc_mono (hI v) p ha
  have := r.2.1
  omega
theorem w_group (i : InvQ qq L xs nr nt v) (s : SM v g0) {p F : Nat} (hp : p < 49) (e35 : hI g0 (12, 0) 35 = nI F) (hb : F + tkc (hI v) nt p ≤ 200) {Q : xH → Prop} (q : ∀ g' G gl, Sm KG g0 g' → (∀ k x, 70 ≤ k → k ≤ 73 → x < F → hI g' (k, 0) x = hI g0 (k, 0) x) → GRr g' (hI v) p nt F G gl → Q g') : p_M_group (12, 0) (nI p) g0 Q := by
  have hnt := i.vc.2.1
  have m0 := SM.m i s
  have hk := kf_le (p := p)
  have l2 := lls_le (p := p)
  unfold p_M_group
  refine ⟨rfl, fun v2 e2 => ⟨nt + 1, ?_⟩⟩
  rw [e35] at e2
  subst e2
  have key : ∀ (m a : Nat) (g : xH) (G : Nat) (gl : Nat → Nat), a + m = nt → Sm KG g0 g → (∀ k x, 70 ≤ k → k ≤ 73 → x < F → hI g (k, 0) x = hI g0 (k, 0) x) → GRr g (hI v) p a F G gl → p_M_group_L7 (12, 0) (nI p) (nI F) (fun h => Q h) Q (m + 1) (nI a) g := by
    intro m
    induction m with
    | zero =>
      intro a g G gl ha S old r
      unfold p_M_group_L7
      rw [S.1 (12, 0) 23 (by simp [KG]), s.i 12, i.vc.2.2.2.2.2]
      refine ⟨rfl, fun _ => q g G gl S old ?_, fun c => absurd (by rw [le_nn (by omega) (by omega)]; omega) c⟩
      rw [show nt = a by omega]; exact r
    | succ m ih =>
      intro a g G gl ha S old r
      have hG := r.G hb (a := a) (by omega)
      have r' := r
      obtain ⟨r1, r2, r3, r4⟩ := r'
      obtain ⟨p', A, B, C, u, k⟩ := tkf i (t := a) (by omega)
      have hp' := k.p49; have kA := k.a12; have kB := k.b12; have kC := k.c12; have ku := k.u2
      have mg : ShM (hS g) (hR g) := by rw [S.2.1, S.2.2]; exact m0
      have ot : ∀ k' t, 58 ≤ k' → k' ≤ 63 → hI g (k', 0) t = hI v (k', 0) t := fun k' t h1 h2 => by rw [S.1 _ _ (by simp [KG]; omega), s.1 _ _ (Or.inl (by simp; omega))]
      have lv : ∀ l, lvl (hI v) (a + 1) p l = lvl (hI v) a p l + (if hI v (58, 0) a = nI p ∧ hI v (63, 0) a = 0 ∧ tl (hI v) a = l then (hI v (62, 0) a).toNatClampNeg else 0) := fun l => rfl
      have skip : ¬ (hI v (58, 0) a = nI p ∧ hI v (63, 0) a = 0) → ∀ x, x = nI a + 1 → p_M_group_L7 (12, 0) (nI p) (nI F) (fun h => Q h) Q (m + 1) x g := fun z x hx => by
        rw [hx, nI_1]
        have lv' : ∀ l, lvl (hI v) (a + 1) p l = lvl (hI v) a p l := fun l => by rw [lv, if_neg (fun y => z ⟨y.1, y.2.1⟩), Nat.add_zero]
        refine ih (a + 1) g G gl (by omega) S old ⟨r1, r2, r3.congr (fun l _ => by rw [lv']), fun x h1 h2 => ?_⟩
        obtain ⟨A', B', C', y1, y2, y3, y4, y5, y6⟩ := r4 x h1 h2
        exact ⟨A', B', C', y1, y2, y3, y4, y5, by rw [lv']; exact y6⟩
      unfold p_M_group_L7
      rw [S.1 (12, 0) 23 (by simp [KG]), s.i 12, i.vc.2.2.2.2.2, mR24 mg, mS24 mg, mR29 mg, mS29 mg, cl_n (by omega), ot 58 a (by omega) (by omega), ot 63 a (by omega) (by omega)]
      refine ⟨rfl, fun c => ?_, fun _ => ⟨rfl, in_n (by omega) (by omega), fun z => skip (fun y => z y.1), fun z => ⟨rfl, in_n (by omega) (by omega), fun live => ?_, fun live => skip (fun y => live y.2)⟩⟩⟩
      · rw [le_nn (by omega) (by omega)] at c; omega
      have ep : p' = p := by have := k.pool; rw [z, nI_inj (by omega) (by omega)] at this; exact this.symm
      subst ep
      have etl : tl (hI v) a = lin (kf p') A B C := tl_eq k
      generalize hl : lin (kf p') A B C = lt at *
      have llt : lt < lls p' := by rw [← hl]; exact lin_lt kA kB kC
      have lv' : ∀ l, lvl (hI v) (a + 1) p' l = lvl (hI v) a p' l + (if lt = l then u else 0) := fun l => by
        rw [lv, k.eu, cl_n (by omega), etl]
        by_cases e : lt = l
        · rw [if_pos ⟨z, live, e⟩, if_pos e]
        · rw [if_neg (fun y => e y.2.2), if_neg e]
      -- the units of group x
      have j169 : ∀ (x G' : Nat) (g' : xH) (gl' : Nat → Nat), x < 200 → Sm KG g0 g' → (∀ k x, 70 ≤ k → k ≤ 73 → x < F → hI g' (k, 0) x = hI g0 (k, 0) x) → F ≤ x → (∀ w, w = nI (a + 1) → ∀ g'', g'' = sI g' (73, 0) x (hI g' (73, 0) x + nI u) → GRr g'' (hI v) p' (a + 1) F G' gl') → p_M_group_j169 (12, 0) (nI p') (nI F) (nI a) (nI x) (p_M_group_L7 (12, 0) (nI p') (nI F) (fun h => Q h) Q (m + 1)) g' Q := by
        intro x G' g' gl' hx S' old' hFx hr
        have mg' : ShM (hS g') (hR g') := by rw [S'.2.1, S'.2.2]; exact m0
        have e62 : hI g' (62, 0) a = nI u := by rw [S'.1 _ _ (by simp [KG]), s.i 62]; exact k.eu
        unfold p_M_group_j169
        rw [mR39 mg', mS39 mg', mR28 mg', mS28 mg', cl_n (by omega), cl_n (by omega), e62]
        refine ⟨rfl, rfl, in_n (by omega) (by omega), rfl, in_n (by omega) (by omega), in_n (by omega) (by omega), fun g'' q'' w hw => ?_⟩
        rw [hw, nI_1]
        refine ih (a + 1) g'' G' gl' (by omega) (by rw [q'']; exact S'.si _ (by simp [KG])) (fun k y h1 h2 h3 => ?_) (hr _ rfl g'' q'')
        rw [q'', hI_sI, if_neg (fun z => by have := z.2; omega)]; exact old' k y h1 h2 h3
      have found : ∀ x, F ≤ x → x < G → gl x = lt → p_M_group_j103 (12, 0) (nI p') (nI F) (nI a) (nI x) (p_M_group_L7 (12, 0) (nI p') (nI F) (fun h => Q h) Q (m + 1)) g Q := by
        intro x h1 h2 e
        unfold p_M_group_j103
        rw [r1, nI_inj (by omega) (by omega)]
        refine ⟨rfl, fun _ => j169 x G g gl (by omega) S old h1 (fun _ _ g'' q'' => ⟨?_, r2, r3.congr (fun l _ => ?_), fun y h3 h4 => ?_⟩), fun z => by omega⟩
        · rw [q'', hI_sI, if_neg (by simp)]; exact r1
        · rw [lv']
          by_cases el : lt = l
          · rw [if_pos el]
            have : 0 < lvl (hI v) a p' l := by
              have : 0 < lvl (hI v) a p' (gl (F + (x - F))) := (r3.1 (x - F) (by omega)).2
              rw [show F + (x - F) = x by omega, e, el] at this; exact this
            exact ⟨fun _ => by omega, fun _ => this⟩
          · rw [if_neg el, Nat.add_zero]
        · obtain ⟨A', B', C', y1, y2, y3, y4, y5, y6⟩ := r4 y h3 h4
          refine ⟨A', B', C', y1, y2, by rw [q'', hI_sI, if_neg (by simp)]; exact y3, by rw [q'', hI_sI, if_neg (by simp)]; exact y4, by rw [q'', hI_sI, if_neg (by simp)]; exact y5, ?_⟩
          rw [q'', hI_sI, lv']
          by_cases ey : y = x
          · subst ey
            rw [if_pos ⟨rfl, rfl⟩, if_pos e.symm, y6, nI_add]
          · have : lt ≠ gl y := fun z => ey (by
              have := r3.2.1 (y - F) (x - F) (by omega) (by omega) (show gl (F + (y - F)) = gl (F + (x - F)) by rw [show F + (y - F) = y by omega, show F + (x - F) = x by omega, e, ← z])
              omega)
            rw [if_neg (fun z => ey z.2), if_neg this, Nat.add_zero]; exact y6
      have fresh : (∀ x, F ≤ x → x < G → gl x ≠ lt) → p_M_group_j103 (12, 0) (nI p') (nI F) (nI a) (nI G) (p_M_group_L7 (12, 0) (nI p') (nI F) (fun h => Q h) Q (m + 1)) g Q := by
        intro no
        have l0 : lvl (hI v) a p' lt = 0 := by
          refine Classical.not_not.mp (fun z => ?_)
          obtain ⟨x, hx, ex⟩ := r3.2.2 lt llt (by omega)
          exact no (F + x) (by omega) (by omega) ex
        obtain ⟨gl', gl1, gl2⟩ : ∃ gl' : Nat → Nat, gl' G = lt ∧ ∀ y, y ≠ G → gl' y = gl y := ⟨fun y => if y = G then lt else gl y, if_pos rfl, fun y h => if_neg h⟩
        have ens : En (fun x => gl' (F + x)) (G - F + 1) (lls p') (fun l => 0 < lvl (hI v) (a + 1) p' l) := r3.snoc llt (by rw [l0]; omega) (fun l _ => by
          rw [lv']
          by_cases el : lt = l
          · rw [if_pos el]
            have := k.u1
            exact ⟨fun _ => Or.inr el.symm, fun _ => by omega⟩
          · rw [if_neg el, Nat.add_zero]
            exact ⟨Or.inl, fun y => y.elim id (fun y => absurd y.symm el)⟩) (by simp only [show F + (G - F) = G by omega]; exact gl1) (fun x hx => gl2 _ (by omega))
        have hG1 : G < 200 := by
          have := en_le2 ens (fun l _ z => z)
          have := tkc_mono (hI v) p' (show a + 1 ≤ nt by omega)
          omega
        unfold p_M_group_j103
        rw [r1, mR25 mg, mS25 mg, mR36 mg, mS36 mg, cl_n (by omega), cl_n (by omega), ot 59 a (by omega) (by omega), k.ea]
        refine ⟨rfl, fun z => absurd rfl z, fun _ => ⟨rfl, in_n (by omega) (by omega), rfl, in_n (by omega) (by omega), fun h55 q55 => ?_⟩⟩
        have m55 : ShM (hS h55) (hR h55) := by rw [q55]; exact mg
        have e60 : hI h55 (60, 0) a = nI B := by rw [q55, hI_sI, if_neg (by simp), ot 60 a (by omega) (by omega)]; exact k.eb
        rw [mR26 m55, mS26 m55, mR37 m55, mS37 m55, e60]
        refine ⟨rfl, in_n (by omega) (by omega), rfl, in_n (by omega) (by omega), fun h61 q61 => ?_⟩
        have m61 : ShM (hS h61) (hR h61) := by rw [q61]; exact m55
        have e61 : hI h61 (61, 0) a = nI C := by rw [q61, hI_sI, if_neg (by simp), q55, hI_sI, if_neg (by simp), ot 61 a (by omega) (by omega)]; exact k.ec
        rw [mR27 m61, mS27 m61, mR38 m61, mS38 m61, e61]
        refine ⟨rfl, in_n (by omega) (by omega), rfl, in_n (by omega) (by omega), fun h67 q67 => ?_⟩
        have m67 : ShM (hS h67) (hR h67) := by rw [q67]; exact m61
        rw [mR39 m67, mS39 m67]
        refine ⟨rfl, in_n (by omega) (by omega), fun h71 q71 h73 q73 => ?_⟩
        have e35' : hI h71 (12, 0) 35 = nI G := by rw [q71, q67, q61, q55]; simp only [hI_sI]; simp [r1]
        rw [e35', nI_1] at q73
        have S73 : Sm KG g0 h73 := by
          rw [q73, q71, q67, q61, q55]
          exact ((((S.si _ (by simp [KG])).si _ (by simp [KG])).si _ (by simp [KG])).si _ (by simp [KG])).si _ (by simp [KG])
        have o73 : ∀ k' x, 70 ≤ k' → k' ≤ 73 → x ≠ G → hI h73 (k', 0) x = hI g (k', 0) x := fun k' x h1 h2 h3 => by
          rw [q73, q71, q67, q61, q55]; simp [hI_sI, h3]; intro; omega
        have n70 : hI h73 (70, 0) G = nI A := by rw [q73, q71, q67, q61, q55]; simp [hI_sI]
        have n71 : hI h73 (71, 0) G = nI B := by rw [q73, q71, q67, q61, q55]; simp [hI_sI]
        have n72 : hI h73 (72, 0) G = nI C := by rw [q73, q71, q67, q61, q55]; simp [hI_sI]
        have n73 : hI h73 (73, 0) G = 0 := by rw [q73, q71, q67, q61, q55]; simp [hI_sI]
        have n35 : hI h73 (12, 0) 35 = nI (G + 1) := by rw [q73, hI_sI, if_pos ⟨rfl, rfl⟩]
        clear q73 q71 q67 q61 q55
        refine j169 G (G + 1) h73 gl' hG1 S73 (fun k' x h1 h2 h3 => by rw [o73 k' x h1 h2 (by omega)]; exact old k' x h1 h2 h3) r2 (fun _ _ g'' q'' => ⟨?_, by omega, by rw [show G + 1 - F = G - F + 1 by omega]; exact ens, fun y h3 h4 => ?_⟩)
        · rw [q'', hI_sI, if_neg (by simp)]; exact n35
        · by_cases ey : y = G
          · subst ey
            refine ⟨A, B, C, k.trp, by rw [gl1]; exact hl, by rw [q'', hI_sI, if_neg (by simp)]; exact n70, by rw [q'', hI_sI, if_neg (by simp)]; exact n71, by rw [q'', hI_sI, if_neg (by simp)]; exact n72, ?_⟩
            rw [q'', hI_sI, if_pos ⟨rfl, rfl⟩, n73, gl1, lv', l0, if_pos rfl]
            exact nI_add 0 u
          · obtain ⟨A', B', C', y1, y2, y3, y4, y5, y6⟩ := r4 y h3 (by omega)
            refine ⟨A', B', C', y1, by rw [gl2 y ey]; exact y2, by rw [q'', hI_sI, if_neg (by simp), o73 70 y (by omega) (by omega) ey]; exact y3, by rw [q'', hI_sI, if_neg (by simp), o73 71 y (by omega) (by omega) ey]; exact y4, by rw [q'', hI_sI, if_neg (by simp), o73 72 y (by omega) (by omega) ey]; exact y5, ?_⟩
            rw [q'', hI_sI, if_neg (fun z => ey z.2), o73 73 y (by omega) (by omega) ey, y6, gl2 y ey, lv', if_neg (fun z => no y h3 (by omega) z.symm), Nat.add_zero]
      refine ⟨G - F + 1, ?_⟩
      have key2 : ∀ (m2 x : Nat), x + m2 = G → F ≤ x → (∀ y, F ≤ y → y < x → gl y ≠ lt) → p_M_group_L40 (12, 0) (nI p') (nI F) (nI a) (fun (x37 : Int32) (h38 : xH) => p_M_group_j103 (12, 0) (nI p') (nI F) (nI a) x37 (p_M_group_L7 (12, 0) (nI p') (nI F) (fun h => Q h) Q (m + 1)) h38 Q) Q (m2 + 1) (nI x) g := by
        intro m2
        induction m2 with
        | zero =>
          intro x hx hF no
          unfold p_M_group_L40
          rw [r1]
          refine ⟨rfl, fun _ => ?_, fun c => absurd (by rw [le_nn (by omega) (by omega)]; omega) c⟩
          rw [show x = G by omega]; exact fresh (fun y h1 h2 => no y h1 (by omega))
        | succ m2 ih2 =>
          intro x hx hF no
          obtain ⟨A', B', C', y1, y2, y3, y4, y5, y6⟩ := r4 x hF (by omega)
          have te := trp_eq hk y1 k.trp
          rw [y2, hl] at te
          have nxt : ¬ (A' = A ∧ B' = B ∧ C' = C) → ∀ w, w = nI x + 1 → p_M_group_L40 (12, 0) (nI p') (nI F) (nI a) (fun (x37 : Int32) (h38 : xH) => p_M_group_j103 (12, 0) (nI p') (nI F) (nI a) x37 (p_M_group_L7 (12, 0) (nI p') (nI F) (fun h => Q h) Q (m + 1)) h38 Q) Q (m2 + 1) w g := fun z w hw => by
            rw [hw, nI_1]
            refine ih2 (x + 1) (by omega) (by omega) (fun y h1 h2 => ?_)
            by_cases e : y = x
            · rw [e]; exact fun q => z (te.mpr q)
            · exact no y h1 (by omega)
          have iA : nI A' = nI A ↔ A' = A := nI_inj (by have := y1.1; omega) (by omega)
          have iB : nI B' = nI B ↔ B' = B := nI_inj (by have := y1.2.1; omega) (by omega)
          have iC : nI C' = nI C ↔ C' = C := nI_inj (by have := y1.2.2.1; omega) (by omega)
          unfold p_M_group_L40
          rw [r1, mR36 mg, mS36 mg, mR37 mg, mS37 mg, mR38 mg, mS38 mg, mR25 mg, mS25 mg, mR26 mg, mS26 mg, mR27 mg, mS27 mg, cl_n (by omega), cl_n (by omega), y3, y4, y5, ot 59 a (by omega) (by omega), ot 60 a (by omega) (by omega), ot 61 a (by omega) (by omega), k.ea, k.eb, k.ec, iA, iB, iC]
          have va : vp_in (nI a) (201 - 1) := in_n (by omega) (by omega)
          have vx : vp_in (nI x) (201 - 1) := in_n (by omega) (by omega)
          refine ⟨rfl, fun c => ?_, fun _ => ⟨rfl, vx, rfl, va, fun z => nxt (fun y => z y.1), fun zA => ⟨rfl, vx, rfl, va, fun z => nxt (fun y => z y.2.1), fun zB => ⟨rfl, vx, rfl, va, fun zC => found x hF (by omega) (te.mp ⟨zA, zB, zC⟩), fun z => nxt (fun y => z y.2.2)⟩⟩⟩⟩
          rw [le_nn (by omega) (by omega)] at c; omega
      exact key2 (G - F) F (by omega) (Nat.le_refl _) (fun y h1 h2 => by omega)
  exact key nt 0 g0 F (fun _ => 0) (by omega) (Sm.rf _ g0) (fun _ _ _ _ _ => rfl) ⟨e35, Nat.le_refl _, by rw [Nat.sub_self]; exact En.zero (fun l _ z => absurd z (by simp [lvl, sm])), fun x h1 h2 => by omega⟩
end Group
