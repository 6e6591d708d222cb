section InitT
variable {L : Nat} {xs : Nat → Int32} {h hb : xH}
def h_in (L : Nat) (xs : Nat → Int32) : xH := ((fun n => if n = (1, 0) then L + 1 else 0), (fun n j => if n = (1, 0) then xs j else 0), fun _ _ => (0, 0))
theorem hS_in (n : xN) : hS (h_in L xs) n = if n = (1, 0) then L + 1 else 0 := rfl
theorem hI_in (n : xN) (j : Nat) : hI (h_in L xs) n j = if n = (1, 0) then xs j else 0 := rfl
theorem hR_in (n : xN) (j : Nat) : hR (h_in L xs) n j = (0, 0) := rfl
def DrI (d : Nat) (h : xH) : Prop := (∀ w, w < d → hR h (30, 0) w = (3, w) ∧ hR h (3, w) 0 = (14, w) ∧ hI h (3, w) 1 = -1 ∧ hS h (14, w) = 13 ∧ ∀ t, t < 12 → hR h (14, w) t = (9, 12 * w + t) ∧ hR h (9, 12 * w + t) 0 = (26, 12 * w + t) ∧ hS h (26, 12 * w + t) = 9) ∧ (∀ w, d ≤ w → w < 6 → hS h (3, w) = 0 ∧ hS h (14, w) = 0 ∧ ∀ t, t < 12 → hS h (9, 12 * w + t) = 0 ∧ hS h (26, 12 * w + t) = 0)
def StI (d : Nat) (h : xH) : Prop := (∀ s, s < d → hR h (31, 0) s = (7, s) ∧ hR h (7, s) 0 = (23, s) ∧ hI h (7, s) 2 = -1 ∧ hS h (23, s) = 11) ∧ (∀ s, d ≤ s → s < 4 → hS h (7, s) = 0 ∧ hS h (23, s) = 0)
def KDs : xN → Prop := fun n => n = (30, 0) ∨ n.1 = 3 ∨ n.1 = 14 ∨ n.1 = 9 ∨ n.1 = 26
def KSs : xN → Prop := fun n => n = (31, 0) ∨ n.1 = 7 ∨ n.1 = 23
theorem w_T100 (r3 : hR hb (11, 0) 3 = (30, 0)) (s30 : hS hb (30, 0) = 7) (I : DrI 0 hb) {K : Nat → xH → Prop} {Q : xH → Prop} (q : ∀ h', KN KDs hb h' → hS h' (30, 0) = 7 → DrI 6 h' → K 171 h') : ∃ f, p_T_init_L100 (11, 0) K Q f 0 15 hb := by
  have key : ∀ (m d k : Nat) (g : xH), d + m = 6 → k = 15 + 26 * d → KN KDs hb g → hS g (30, 0) = 7 → DrI d g → p_T_init_L100 (11, 0) K Q (m + 1) (nI d) k g := by
    intro m
    induction m with
    | zero =>
      intro d k g hd hk N s D
      have e : d = 6 := by omega
      have ek : k = 171 := by omega
      subst e; subst ek
      unfold p_T_init_L100
      exact ⟨fun _ => q g N s D, fun z => absurd (by decide) z⟩
    | succ m ih =>
      intro d k g hd hk N s D
      have fr := D.2 d (Nat.le_refl _) (by omega)
      have g3 : hR g (11, 0) 3 = (30, 0) := by rw [((N (11, 0) (by simp [KDs])).2 3).2]; exact r3
      unfold p_T_init_L100
      rw [show (6 : Int32) = nI 6 from rfl, le_nn (by omega) (by omega), cl_n (by omega), g3]
      refine ⟨fun z => by omega, fun _ => ⟨rfl, fr.1, by omega, fun h60 e60 => ⟨by omega, ?_⟩⟩⟩
      have o60 : ∀ n, n ≠ (3, d) → hS h60 n = hS g n ∧ ∀ j, hI h60 n j = hI g n j ∧ hR h60 n j = hR g n j := fun n hn => by
        rw [e60, hS_nW, if_neg hn]
        exact ⟨rfl, fun j => ⟨by rw [hI_nW, if_neg hn], by rw [hR_nW, if_neg hn]⟩⟩
      refine w_DI (by rw [(o60 (14, d) (by simp)).1]; exact fr.2.1) (fun t ht => by rw [(o60 (9, _) (by simp)).1, (o60 (26, _) (by simp)).1]; exact fr.2.2 t ht) (fun h63 K63 a0 a1 a2 a3 => ?_)
      have o63 : ∀ n, ¬ KDr d n → hS h63 n = hS g n ∧ ∀ j, hI h63 n j = hI g n j ∧ hR h63 n j = hR g n j := fun n hn => by
        have x := K63 n hn
        have y := o60 n (fun e => hn (Or.inl e))
        exact ⟨x.1.trans y.1, fun j => ⟨(x.2 j).1.trans (y.2 j).1, (x.2 j).2.trans (y.2 j).2⟩⟩
      have n30 : ¬ KDr d (30, 0) := by simp [KDr]
      show _ ∧ _
      rw [(o63 (30, 0) n30).1, s]
      refine ⟨rfl, in_n (by omega) (by omega), fun h66 e66 v68 e68 => ?_⟩
      rw [e68, nI_1]
      have o66 : ∀ n, n ≠ (30, 0) → hS h66 n = hS h63 n ∧ ∀ j, hI h66 n j = hI h63 n j ∧ hR h66 n j = hR h63 n j := fun n hn => by
        rw [e66]
        exact ⟨rfl, fun j => ⟨rfl, by rw [hR_sR, if_neg (fun z => hn z.1)]⟩⟩
      refine ih (d + 1) (k + 26) h66 (by omega) (by omega) (N.tr (fun n hn => ?_)) ?_ ⟨fun w hw => ?_, fun w h1 h2 => ?_⟩
      · have nk : ¬ KDr d n := fun z => hn (by
          rcases z with z | z | z
          · rw [z]; simp [KDs]
          · rw [z]; simp [KDs]
          · exact z.1.elim (fun y => by simp [KDs, y]) (fun y => by simp [KDs, y]))
        have x := o66 n (fun e => hn (by rw [e]; simp [KDs]))
        have y := o63 n nk
        exact ⟨x.1.trans y.1, fun j => ⟨(x.2 j).1.trans (y.2 j).1, (x.2 j).2.trans (y.2 j).2⟩⟩
      · rw [e66, hS_sR, (o63 (30, 0) n30).1]; exact s
      · by_cases c : w = d
        · subst c
          refine ⟨by rw [e66, hR_sR, if_pos ⟨rfl, rfl⟩], ?_, ?_, ?_, fun t ht => ?_⟩
          · rw [((o66 (3, w) (by simp)).2 0).2]; exact a0
          · rw [((o66 (3, w) (by simp)).2 1).1]; exact a1
          · rw [(o66 (14, w) (by simp)).1]; exact a2
          · rw [((o66 (14, w) (by simp)).2 t).2, ((o66 (9, 12 * w + t) (by simp)).2 0).2, (o66 (26, 12 * w + t) (by simp)).1]; exact a3 t ht
        · have d' := D.1 w (by omega)
          have q3 : ¬ KDr d (3, w) := by simp [KDr, c]
          have q14 : ¬ KDr d (14, w) := by simp [KDr, c]
          have q9 : ∀ t, t < 12 → ¬ KDr d (9, 12 * w + t) := fun t ht => by simp [KDr]; omega
          have q26 : ∀ t, t < 12 → ¬ KDr d (26, 12 * w + t) := fun t ht => by simp [KDr]; omega
          refine ⟨?_, ?_, ?_, ?_, fun t ht => ?_⟩
          · rw [e66, hR_sR, if_neg (fun z => c z.2), ((o63 (30, 0) n30).2 w).2]; exact d'.1
          · rw [((o66 (3, w) (by simp)).2 0).2, ((o63 _ q3).2 0).2]; exact d'.2.1
          · rw [((o66 (3, w) (by simp)).2 1).1, ((o63 _ q3).2 1).1]; exact d'.2.2.1
          · rw [(o66 (14, w) (by simp)).1, (o63 _ q14).1]; exact d'.2.2.2.1
          · rw [((o66 (14, w) (by simp)).2 t).2, ((o63 _ q14).2 t).2, ((o66 (9, 12 * w + t) (by simp)).2 0).2, ((o63 _ (q9 t ht)).2 0).2, (o66 (26, 12 * w + t) (by simp)).1, (o63 _ (q26 t ht)).1]; exact d'.2.2.2.2 t ht
      · have d' := D.2 w (by omega) h2
        have c : w ≠ d := by omega
        have q3 : ¬ KDr d (3, w) := by simp [KDr, c]
        have q14 : ¬ KDr d (14, w) := by simp [KDr, c]
        have q9 : ∀ t, t < 12 → ¬ KDr d (9, 12 * w + t) := fun t ht => by simp [KDr]; omega
        have q26 : ∀ t, t < 12 → ¬ KDr d (26, 12 * w + t) := fun t ht => by simp [KDr]; omega
        refine ⟨?_, ?_, fun t ht => ?_⟩
        · rw [(o66 (3, w) (by simp)).1, (o63 _ q3).1]; exact d'.1
        · rw [(o66 (14, w) (by simp)).1, (o63 _ q14).1]; exact d'.2.1
        · rw [(o66 (9, 12 * w + t) (by simp)).1, (o63 _ (q9 t ht)).1, (o66 (26, 12 * w + t) (by simp)).1, (o63 _ (q26 t ht)).1]; exact d'.2.2 t ht
  exact ⟨7, key 6 0 15 hb rfl rfl (KN.rf _ hb) s30 I⟩
theorem w_T127 (r4 : hR hb (11, 0) 4 = (31, 0)) (s31 : hS hb (31, 0) = 5) (I : StI 0 hb) {K : Nat → xH → Prop} {Q : xH → Prop} (q : ∀ h', KN KSs hb h' → hS h' (31, 0) = 5 → StI 4 h' → K 179 h') : ∃ f, p_T_init_L127 (11, 0) K Q f 0 171 hb := by
  have key : ∀ (m d k : Nat) (g : xH), d + m = 4 → k = 171 + 2 * d → KN KSs hb g → hS g (31, 0) = 5 → StI d g → p_T_init_L127 (11, 0) K Q (m + 1) (nI d) k g := by
    intro m
    induction m with
    | zero =>
      intro d k g hd hk N s D
      have e : d = 4 := by omega
      have ek : k = 179 := by omega
      subst e; subst ek
      unfold p_T_init_L127
      exact ⟨fun _ => q g N s D, fun z => absurd (by decide) z⟩
    | succ m ih =>
      intro d k g hd hk N s D
      have fr := D.2 d (Nat.le_refl _) (by omega)
      have g4 : hR g (11, 0) 4 = (31, 0) := by rw [((N (11, 0) (by simp [KSs])).2 4).2]; exact r4
      unfold p_T_init_L127
      rw [show (4 : Int32) = nI 4 from rfl, le_nn (by omega) (by omega), cl_n (by omega), g4]
      refine ⟨fun z => by omega, fun _ => ⟨rfl, fr.1, by omega, fun h60 e60 => ⟨by omega, ?_⟩⟩⟩
      have o60 : ∀ n, n ≠ (7, d) → hS h60 n = hS g n ∧ ∀ j, hI h60 n j = hI g n j ∧ hR h60 n j = hR g n j := fun n hn => by
        rw [e60, hS_nW, if_neg hn]
        exact ⟨rfl, fun j => ⟨by rw [hI_nW, if_neg hn], by rw [hR_nW, if_neg hn]⟩⟩
      refine w_SaI (by rw [(o60 (23, d) (by simp)).1]; exact fr.2) (fun h63 K63 a0 a1 a2 => ?_)
      have o63 : ∀ n, n ≠ (7, d) → n ≠ (23, d) → hS h63 n = hS g n ∧ ∀ j, hI h63 n j = hI g n j ∧ hR h63 n j = hR g n j := fun n h1 h2 => by
        have x := K63 n (fun z => z.elim h1 h2)
        have y := o60 n h1
        exact ⟨x.1.trans y.1, fun j => ⟨(x.2 j).1.trans (y.2 j).1, (x.2 j).2.trans (y.2 j).2⟩⟩
      show _ ∧ _
      rw [(o63 (31, 0) (by simp) (by simp)).1, s]
      refine ⟨rfl, in_n (by omega) (by omega), fun h66 e66 v68 e68 => ?_⟩
      rw [e68, nI_1]
      have o66 : ∀ n, n ≠ (31, 0) → hS h66 n = hS h63 n ∧ ∀ j, hI h66 n j = hI h63 n j ∧ hR h66 n j = hR h63 n j := fun n hn => by
        rw [e66]
        exact ⟨rfl, fun j => ⟨rfl, by rw [hR_sR, if_neg (fun z => hn z.1)]⟩⟩
      refine ih (d + 1) (k + 2) h66 (by omega) (by omega) (N.tr (fun n hn => ?_)) ?_ ⟨fun w hw => ?_, fun w h1 h2 => ?_⟩
      · have x := o66 n (fun e => hn (by rw [e]; simp [KSs]))
        have y := o63 n (fun e => hn (by rw [e]; simp [KSs])) (fun e => hn (by rw [e]; simp [KSs]))
        exact ⟨x.1.trans y.1, fun j => ⟨(x.2 j).1.trans (y.2 j).1, (x.2 j).2.trans (y.2 j).2⟩⟩
      · rw [e66, hS_sR, (o63 (31, 0) (by simp) (by simp)).1]; exact s
      · by_cases c : w = d
        · subst c
          refine ⟨by rw [e66, hR_sR, if_pos ⟨rfl, rfl⟩], ?_, ?_, ?_⟩
          · rw [((o66 (7, w) (by simp)).2 0).2]; exact a0
          · rw [((o66 (7, w) (by simp)).2 2).1]; exact a1
          · rw [(o66 (23, w) (by simp)).1]; exact a2
        · have d' := D.1 w (by omega)
          refine ⟨?_, ?_, ?_, ?_⟩
          · rw [e66, hR_sR, if_neg (fun z => c z.2), ((o63 (31, 0) (by simp) (by simp)).2 w).2]; exact d'.1
          · rw [((o66 (7, w) (by simp)).2 0).2, ((o63 (7, w) (by simp [c]) (by simp)).2 0).2]; exact d'.2.1
          · rw [((o66 (7, w) (by simp)).2 2).1, ((o63 (7, w) (by simp [c]) (by simp)).2 2).1]; exact d'.2.2.1
          · rw [(o66 (23, w) (by simp)).1, (o63 (23, w) (by simp) (by simp [c])).1]; exact d'.2.2.2
      · have d' := D.2 w (by omega) h2
        have c : w ≠ d := by omega
        rw [(o66 (7, w) (by simp)).1, (o63 (7, w) (by simp [c]) (by simp)).1, (o66 (23, w) (by simp)).1, (o63 (23, w) (by simp) (by simp [c])).1]
        exact d'
  exact ⟨5, key 4 0 171 hb rfl rfl (KN.rf _ hb) s31 I⟩
/-- what the class has made -/
def TI (L : Nat) (xs : Nat → Int32) (h : xH) : Prop := ShX (hS h) (hR h) ∧ ShD (hS h) (hR h) ∧ (hS h (1, 0) = L + 1 ∧ ∀ j, hI h (1, 0) j = xs j) ∧ (∀ k m, (k = 5 ∨ k = 6 ∨ k = 10 ∨ k = 12 ∨ (17 ≤ k ∧ k ≤ 22) ∨ 34 ≤ k ∨ ((k = 4 ∨ k = 15 ∨ k = 16) ∧ m ≠ 99)) → hS h (k, m) = 0) ∧ (∀ p, hR h (28, 0) p = (0, 0)) ∧ (∀ k m j, k ≠ 1 → k ≠ 3 → k ≠ 7 → k ≠ 9 → k ≠ 14 → k ≠ 23 → k ≠ 26 → k ≠ 30 → k ≠ 31 → hI h (k, m) j = 0) ∧ (∀ w, w < 6 → hI h (3, w) 1 = -1) ∧ (∀ s, s < 4 → hI h (7, s) 2 = -1)
set_option maxRecDepth 4000 in
theorem w_TI {Q : xH → Prop} (q : ∀ h', TI L xs h' → Q h') : p_T_init (11, 0) (nW (h_in L xs) (11, 0) 0) Q := by
  unfold p_T_init p_B_init p_F_init p_Se_init
  refine ⟨by simp, by simp [hS_nW, hS_in], fun h3 e3 => ⟨rfl, fun h6 e6 => ⟨by subst e6; subst e3; simp [hS_nW, hS_sR, hS_in], fun h9 e9 h11 e11 => ⟨by subst e11; subst e9; subst e6; subst e3; simp [hS_nW, hS_sR, hS_in], fun h14 e14 h16 e16 => ?_⟩⟩⟩⟩
  have f16 : ∀ k m, k ≠ 1 → k ≠ 11 → k ≠ 27 → k ≠ 28 → k ≠ 29 → hS h16 (k, m) = 0 := fun k m k1 k2 k3 k4 k5 => by
    subst e16; subst e14; subst e11; subst e9; subst e6; subst e3
    simp [hS_nW, hS_sR, hS_in, k1, k2, k3, k4, k5]
  refine ⟨f16 30 0 (by omega) (by omega) (by omega) (by omega) (by omega), fun h19 e19 h21 e21 => ?_⟩
  have f21 : ∀ k m, k ≠ 1 → k ≠ 11 → k ≠ 27 → k ≠ 28 → k ≠ 29 → k ≠ 30 → hS h21 (k, m) = 0 := fun k m k1 k2 k3 k4 k5 k6 => by
    rw [e21, e19]; simp only [hS_sR, hS_nW]; rw [if_neg (by simp [k6])]; exact f16 k m k1 k2 k3 k4 k5
  refine ⟨f21 31 0 (by omega) (by omega) (by omega) (by omega) (by omega) (by omega), fun h24 e24 h26 e26 => ?_⟩
  have f26 : ∀ k m, k ≠ 1 → k ≠ 11 → ¬ (27 ≤ k ∧ k ≤ 31) → hS h26 (k, m) = 0 := fun k m k1 k2 k3 => by
    rw [e26, e24]; simp only [hS_sR, hS_nW]; rw [if_neg (by simp; omega)]; exact f21 k m k1 k2 (by omega) (by omega) (by omega) (by omega)
  refine ⟨f26 2 0 (by omega) (by omega) (by omega), fun h29 e29 => ⟨by simp, ?_, fun b3 c3 => ⟨rfl, fun b6 c6 h32 e32 => ?_⟩⟩⟩
  · rw [e29]; simp only [hS_nW]; rw [if_neg (by simp)]; exact f26 13 0 (by omega) (by omega) (by omega)
  have f32 : ∀ k m, k ≠ 1 → k ≠ 11 → k ≠ 2 → k ≠ 13 → ¬ (27 ≤ k ∧ k ≤ 31) → hS h32 (k, m) = 0 := fun k m k1 k2 k4 k5 k3 => by
    rw [e32, c6, c3, e29]; simp only [hS_sR, hS_nW]; rw [if_neg (by simp; omega), if_neg (by simp; omega)]; exact f26 k m k1 k2 k3
  refine ⟨f32 4 99 (by omega) (by omega) (by omega) (by omega) (by omega), fun h35 e35 => ⟨by simp, ?_, fun d3 g3 => ⟨rfl, fun d6 g6 => ⟨?_, fun d9 g9 d11 g11 h38 e38 => ?_⟩⟩⟩⟩
  · rw [e35]; simp only [hS_nW]; rw [if_neg (by simp)]; exact f32 15 99 (by omega) (by omega) (by omega) (by omega) (by omega)
  · rw [g6, g3, e35]; simp only [hS_sR, hS_nW]; rw [if_neg (by simp), if_neg (by simp)]; exact f32 16 99 (by omega) (by omega) (by omega) (by omega) (by omega)
  have f38 : ∀ k m, k ≠ 1 → k ≠ 11 → k ≠ 2 → k ≠ 13 → ¬ (27 ≤ k ∧ k ≤ 31) → ¬ ((k = 4 ∨ k = 15 ∨ k = 16) ∧ m = 99) → hS h38 (k, m) = 0 := fun k m k1 k2 k4 k5 k3 k6 => by
    rw [e38, g11, g9, g6, g3, e35]; simp only [hS_sR, hS_nW]; rw [if_neg (by simp; omega), if_neg (by simp; omega), if_neg (by simp; omega)]; exact f32 k m k1 k2 k4 k5 k3
  refine ⟨f38 8 0 (by omega) (by omega) (by omega) (by omega) (by omega) (by omega), fun h41 e41 => ⟨by simp, ?_, fun i3 j3 => ⟨rfl, fun i6 j6 => ⟨?_, fun i9 j9 i11 j11 h44 e44 => ?_⟩⟩⟩⟩
  · rw [e41]; simp only [hS_nW]; rw [if_neg (by simp)]; exact f38 24 0 (by omega) (by omega) (by omega) (by omega) (by omega) (by omega)
  · rw [j6, j3, e41]; simp only [hS_sR, hS_nW]; rw [if_neg (by simp), if_neg (by simp)]; exact f38 25 0 (by omega) (by omega) (by omega) (by omega) (by omega) (by omega)
  have f44 : ∀ k m, k ≠ 1 → k ≠ 11 → k ≠ 2 → k ≠ 13 → ¬ (27 ≤ k ∧ k ≤ 31) → ¬ ((k = 4 ∨ k = 15 ∨ k = 16) ∧ m = 99) → k ≠ 8 → k ≠ 24 → k ≠ 25 → hS h44 (k, m) = 0 := fun k m k1 k2 k4 k5 k3 k6 k7 k8 k9 => by
    rw [e44, j11, j9, j6, j3, e41]; simp only [hS_sR, hS_nW]; rw [if_neg (by simp; omega), if_neg (by simp; omega), if_neg (by simp; omega)]; exact f38 k m k1 k2 k4 k5 k3 k6
  refine ⟨f44 32 0 (by omega) (by omega) (by omega) (by omega) (by omega) (by omega) (by omega) (by omega) (by omega), fun h47 e47 h49 e49 => ⟨?_, fun h52 e52 h54 e54 => ?_⟩⟩
  · rw [e49, e47]; simp only [hS_sR, hS_nW]; rw [if_neg (by simp)]; exact f44 33 0 (by omega) (by omega) (by omega) (by omega) (by omega) (by omega) (by omega) (by omega) (by omega)
  have f54 : ∀ k m, k ≠ 1 → k ≠ 11 → k ≠ 2 → k ≠ 13 → ¬ (27 ≤ k ∧ k ≤ 33) → ¬ ((k = 4 ∨ k = 15 ∨ k = 16) ∧ m = 99) → k ≠ 8 → k ≠ 24 → k ≠ 25 → hS h54 (k, m) = 0 := fun k m k1 k2 k4 k5 k3 k6 k7 k8 k9 => by
    rw [e54, e52, e49, e47]; simp only [hS_sR, hS_nW]; rw [if_neg (by simp; omega), if_neg (by simp; omega)]; exact f44 k m k1 k2 k4 k5 (by omega) k6 k7 k8 k9
  have X : ShX (hS h54) (hR h54) ∧ hS h54 (1, 0) = L + 1 ∧ (∀ j, hI h54 (1, 0) j = xs j) ∧ (∀ k m j, k ≠ 1 → hI h54 (k, m) j = 0) ∧ (∀ p, hR h54 (28, 0) p = (0, 0)) := by
    subst e54; subst e52; subst e49; subst e47; subst e44; subst j11; subst j9; subst j6; subst j3; subst e41; subst e38; subst g11; subst g9; subst g6; subst g3; subst e35; subst e32; subst c6; subst c3; subst e29; subst e26; subst e24; subst e21; subst e19; subst e16; subst e14; subst e11; subst e9; subst e6; subst e3
    refine ⟨?_, by simp [hS_nW, hS_sR, hS_in], fun j => by simp [hI_nW, hI_sR, hI_in], fun k m j hk => by simp [hI_nW, hI_sR, hI_in, hk], fun p => by simp [hR_nW, hR_sR, hR_in]⟩
    unfold ShX
    simp [hS_nW, hS_sR, hS_in, hR_nW, hR_sR, hR_in]
  obtain ⟨X, s1, i1, Z, R28⟩ := X
  refine w_T100 (xR_11_0_3 X) (xS_30_0 X) ⟨fun w hw => by omega, fun w _ hw => ⟨f54 3 w (by omega) (by omega) (by omega) (by omega) (by omega) (by omega) (by omega) (by omega) (by omega), f54 14 w (by omega) (by omega) (by omega) (by omega) (by omega) (by omega) (by omega) (by omega) (by omega), fun t ht => ⟨f54 9 _ (by omega) (by omega) (by omega) (by omega) (by omega) (by omega) (by omega) (by omega) (by omega), f54 26 _ (by omega) (by omega) (by omega) (by omega) (by omega) (by omega) (by omega) (by omega) (by omega)⟩⟩⟩ (fun h71 K71 s71 D71 => ?_)
  have o71 : ∀ k m, k ≠ 30 → k ≠ 3 → k ≠ 14 → k ≠ 9 → k ≠ 26 → hS h71 (k, m) = hS h54 (k, m) ∧ ∀ j, hI h71 (k, m) j = hI h54 (k, m) j ∧ hR h71 (k, m) j = hR h54 (k, m) j := fun k m k1 k2 k3 k4 k5 => K71 _ (by simp [KDs]; omega)
  have fz : ∀ k m, k ≠ 1 → k ≠ 11 → k ≠ 2 → k ≠ 13 → ¬ (27 ≤ k ∧ k ≤ 33) → ¬ ((k = 4 ∨ k = 15 ∨ k = 16) ∧ m = 99) → k ≠ 8 → k ≠ 24 → k ≠ 25 → k ≠ 3 → k ≠ 14 → k ≠ 9 → k ≠ 26 → hS h71 (k, m) = 0 := fun k m k1 k2 k4 k5 k3 k6 k7 k8 k9 l1 l2 l3 l4 => by
    rw [(o71 k m (by omega) l1 l2 l3 l4).1]; exact f54 k m k1 k2 k4 k5 k3 k6 k7 k8 k9
  refine w_T127 (by rw [((o71 11 0 (by omega) (by omega) (by omega) (by omega) (by omega)).2 4).2]; exact xR_11_0_4 X) (by rw [(o71 31 0 (by omega) (by omega) (by omega) (by omega) (by omega)).1]; exact xS_31_0 X) ⟨fun s hs => by omega, fun s _ hs => ⟨fz 7 s (by omega) (by omega) (by omega) (by omega) (by omega) (by omega) (by omega) (by omega) (by omega) (by omega) (by omega) (by omega) (by omega), fz 23 s (by omega) (by omega) (by omega) (by omega) (by omega) (by omega) (by omega) (by omega) (by omega) (by omega) (by omega) (by omega) (by omega)⟩⟩ (fun h87 K87 s87 D87 => q h87 ?_)
  have o87 : ∀ k m, k ≠ 31 → k ≠ 7 → k ≠ 23 → hS h87 (k, m) = hS h71 (k, m) ∧ ∀ j, hI h87 (k, m) j = hI h71 (k, m) j ∧ hR h87 (k, m) j = hR h71 (k, m) j := fun k m k1 k2 k3 => K87 _ (by simp [KSs]; omega)
  have ob : ∀ k m, k ≠ 31 → k ≠ 7 → k ≠ 23 → k ≠ 30 → k ≠ 3 → k ≠ 14 → k ≠ 9 → k ≠ 26 → hS h87 (k, m) = hS h54 (k, m) ∧ ∀ j, hI h87 (k, m) j = hI h54 (k, m) j ∧ hR h87 (k, m) j = hR h54 (k, m) j := fun k m k1 k2 k3 k4 k5 k6 k7 k8 => by
    have a := o87 k m k1 k2 k3
    have b := o71 k m k4 k5 k6 k7 k8
    exact ⟨a.1.trans b.1, fun j => ⟨(a.2 j).1.trans (b.2 j).1, (a.2 j).2.trans (b.2 j).2⟩⟩
  have sb : ∀ k m, k ≠ 31 → k ≠ 7 → k ≠ 23 → k ≠ 30 → k ≠ 3 → k ≠ 14 → k ≠ 9 → k ≠ 26 → hS h87 (k, m) = hS h54 (k, m) := fun k m k1 k2 k3 k4 k5 k6 k7 k8 => (ob k m k1 k2 k3 k4 k5 k6 k7 k8).1
  have rb : ∀ k m j, k ≠ 31 → k ≠ 7 → k ≠ 23 → k ≠ 30 → k ≠ 3 → k ≠ 14 → k ≠ 9 → k ≠ 26 → hR h87 (k, m) j = hR h54 (k, m) j := fun k m j k1 k2 k3 k4 k5 k6 k7 k8 => ((ob k m k1 k2 k3 k4 k5 k6 k7 k8).2 j).2
  refine ⟨?_, ⟨fun w hw => ?_, fun s hs => ?_, fun s hs => ?_⟩, ⟨?_, fun j => ?_⟩, fun k m hk => ?_, fun p => ?_, fun k m j k1 k2 k3 k4 k5 k6 k7 k8 k9 => ?_, fun w hw => ?_, fun s hs => (D87.1 s hs).2.2.1⟩
  · unfold ShX at X ⊢
    have s30 : hS h87 (30, 0) = 7 := by rw [(o87 30 0 (by omega) (by omega) (by omega)).1]; exact s71
    rw [rb 11 0 _ (by omega) (by omega) (by omega) (by omega) (by omega) (by omega) (by omega) (by omega), rb 11 0 _ (by omega) (by omega) (by omega) (by omega) (by omega) (by omega) (by omega) (by omega), rb 11 0 _ (by omega) (by omega) (by omega) (by omega) (by omega) (by omega) (by omega) (by omega), rb 11 0 _ (by omega) (by omega) (by omega) (by omega) (by omega) (by omega) (by omega) (by omega), rb 11 0 _ (by omega) (by omega) (by omega) (by omega) (by omega) (by omega) (by omega) (by omega), rb 11 0 _ (by omega) (by omega) (by omega) (by omega) (by omega) (by omega) (by omega) (by omega), rb 11 0 _ (by omega) (by omega) (by omega) (by omega) (by omega) (by omega) (by omega) (by omega), rb 11 0 _ (by omega) (by omega) (by omega) (by omega) (by omega) (by omega) (by omega) (by omega), rb 11 0 _ (by omega) (by omega) (by omega) (by omega) (by omega) (by omega) (by omega) (by omega), rb 11 0 _ (by omega) (by omega) (by omega) (by omega) (by omega) (by omega) (by omega) (by omega), rb 2 0 _ (by omega) (by omega) (by omega) (by omega) (by omega) (by omega) (by omega) (by omega), rb 4 99 _ (by omega) (by omega) (by omega) (by omega) (by omega) (by omega) (by omega) (by omega), rb 4 99 _ (by omega) (by omega) (by omega) (by omega) (by omega) (by omega) (by omega) (by omega), rb 8 0 _ (by omega) (by omega) (by omega) (by omega) (by omega) (by omega) (by omega) (by omega), rb 8 0 _ (by omega) (by omega) (by omega) (by omega) (by omega) (by omega) (by omega) (by omega), s30, s87, sb 27 0 (by omega) (by omega) (by omega) (by omega) (by omega) (by omega) (by omega) (by omega), sb 28 0 (by omega) (by omega) (by omega) (by omega) (by omega) (by omega) (by omega) (by omega), sb 29 0 (by omega) (by omega) (by omega) (by omega) (by omega) (by omega) (by omega) (by omega), sb 32 0 (by omega) (by omega) (by omega) (by omega) (by omega) (by omega) (by omega) (by omega), sb 33 0 (by omega) (by omega) (by omega) (by omega) (by omega) (by omega) (by omega) (by omega), sb 13 0 (by omega) (by omega) (by omega) (by omega) (by omega) (by omega) (by omega) (by omega), sb 15 99 (by omega) (by omega) (by omega) (by omega) (by omega) (by omega) (by omega) (by omega), sb 16 99 (by omega) (by omega) (by omega) (by omega) (by omega) (by omega) (by omega) (by omega), sb 24 0 (by omega) (by omega) (by omega) (by omega) (by omega) (by omega) (by omega) (by omega), sb 25 0 (by omega) (by omega) (by omega) (by omega) (by omega) (by omega) (by omega) (by omega)]
    obtain ⟨x1, x2, x3, x4, x5, x6, x7, x8, x9, x10, x11, x12, x13, x14, x15, x16, x17, x18, x19, x20, x21, x22, x23, x24, x25, x26, x27⟩ := X
    exact ⟨x1, x2, x3, x4, x5, x6, x7, x8, x9, x10, x11, x12, x13, rfl, rfl, x16, x17, x18, x19, x20, x21, x22, x23, x24, x25, x26, x27⟩
  · have d := D71.1 w hw
    rw [((o87 30 0 (by omega) (by omega) (by omega)).2 w).2, ((o87 3 w (by omega) (by omega) (by omega)).2 0).2, (o87 14 w (by omega) (by omega) (by omega)).1]
    exact ⟨d.1, d.2.1, d.2.2.2.1, fun t ht => by rw [((o87 14 w (by omega) (by omega) (by omega)).2 t).2]; exact (d.2.2.2.2 t ht).1⟩
  · have d := (D71.1 (s / 12) (by omega)).2.2.2.2 (s % 12) (by omega)
    rw [show 12 * (s / 12) + s % 12 = s by omega] at d
    rw [((o87 9 s (by omega) (by omega) (by omega)).2 0).2, (o87 26 s (by omega) (by omega) (by omega)).1]
    exact d.2
  · have d := D87.1 s hs
    exact ⟨d.1, d.2.1, d.2.2.2⟩
  · rw [sb 1 0 (by omega) (by omega) (by omega) (by omega) (by omega) (by omega) (by omega) (by omega)]; exact s1
  · rw [((ob 1 0 (by omega) (by omega) (by omega) (by omega) (by omega) (by omega) (by omega) (by omega)).2 j).1]; exact i1 j
  · rw [sb k m (by omega) (by omega) (by omega) (by omega) (by omega) (by omega) (by omega) (by omega)]
    exact f54 k m (by omega) (by omega) (by omega) (by omega) (by omega) (by omega) (by omega) (by omega) (by omega)
  · rw [rb 28 0 p (by omega) (by omega) (by omega) (by omega) (by omega) (by omega) (by omega) (by omega)]; exact R28 p
  · rw [((ob k m k9 k3 k6 k8 k2 k5 k4 k7).2 j).1]; exact Z k m j k1
  · rw [((o87 3 w (by omega) (by omega) (by omega)).2 1).1]; exact (D71.1 w hw).2.2.1
end InitT
