section Tick
variable {qq : Prop} {L : Nat} {xs : Nat → Int32} {nr nt : Nat} {v h g : xH}
/-- a heap whose class part (model part) is that of another -/
def SC (v h : xH) : Prop := (∀ n j, n.1 < 34 → n.1 ≠ 12 → hI h n j = hI v n j) ∧ hS h = hS v ∧ hR h = hR v
def SM (v g : xH) : Prop := (∀ n j, 34 ≤ n.1 ∨ n.1 = 12 → hI g n j = hI v n j) ∧ hS g = hS v ∧ hR g = hR v
theorem SC.rf (v : xH) : SC v v := ⟨fun _ _ _ _ => rfl, rfl, rfl⟩
theorem SM.rf (v : xH) : SM v v := ⟨fun _ _ _ => rfl, rfl, rfl⟩
theorem SC.i (s : SC v h) (k m j : Nat) (hk : k < 34 ∧ k ≠ 12 := by decide) : hI h (k, m) j = hI v (k, m) j := s.1 _ _ hk.1 hk.2
theorem SM.i (s : SM v g) (k j : Nat) (hk : 34 ≤ k ∨ k = 12 := by decide) : hI g (k, 0) j = hI v (k, 0) j := s.1 _ _ hk
theorem SM.kc (s : Sm KC v g) : SM v g := ⟨fun n j hk => s.1 n j (fun z => by have := z.1; have := z.2.1; omega), s.2.1, s.2.2⟩
theorem SM.m (i : InvQ qq L xs nr nt v) (s : SM v g) : ShM (hS g) (hR g) := by rw [s.2.1, s.2.2]; exact i.m
theorem SC.x (i : InvQ qq L xs nr nt v) (s : SC v h) : ShX (hS h) (hR h) := by rw [s.2.1, s.2.2]; exact i.x
def TkF (I : xN → Nat → Int32) (t p a b c u : Nat) : Prop := p < 49 ∧ I (58, 0) t = nI p ∧ I (40, 0) p = 1 ∧ a ≤ 12 ∧ b ≤ 12 ∧ c ≤ 12 ∧ 1 ≤ u ∧ u ≤ 1000 ∧ I (59, 0) t = nI a ∧ I (60, 0) t = nI b ∧ I (61, 0) t = nI c ∧ I (62, 0) t = nI u ∧
      1 ≤ a ∧ (kf p < 2 → b = 0) ∧ (2 ≤ kf p → 1 ≤ b) ∧ (kf p ≠ 3 → c = 0) ∧ (kf p = 3 → 1 ≤ c ∧ a ≠ b ∧ a ≠ c ∧ b ≠ c) ∧ (kf p = 2 → a < b) ∧
      I (10, t) 1 = I (64, 0) t ∧ I (10, t) 2 = I (62, 0) t ∧ I (10, t) 3 = I (59, 0) t ∧ I (10, t) 4 = I (60, 0) t ∧ I (10, t) 5 = I (61, 0) t ∧ I (10, t) 6 = I (63, 0) t ∧
      (I (63, 0) t = 0 ∨ I (63, 0) t = 1 ∨ I (63, 0) t = 2 ∨ I (63, 0) t = 3) ∧
      (I (66, 0) t = 1 ∧ I (43, 0) p = 1 ∧ (I (63, 0) t = 0 ∨ I (63, 0) t = 3) ∨ I (66, 0) t = 0 ∧ ¬ (I (43, 0) p = 1 ∧ (I (63, 0) t = 0 ∨ I (63, 0) t = 3)) ∧ ¬ I (63, 0) t = 3)
theorem tkf (i : InvQ qq L xs nr nt v) {t : Nat} (ht : t < nt) : ∃ p a b c u, TkF (hI v) t p a b c u := i.vt.1 t ht
section TkF
variable {I : xN → Nat → Int32} {t p a b c u : Nat}
theorem TkF.p49 (k : TkF I t p a b c u) : p < 49 := k.1
theorem TkF.pool (k : TkF I t p a b c u) : I (58, 0) t = nI p := k.2.1
theorem TkF.there (k : TkF I t p a b c u) : I (40, 0) p = 1 := k.2.2.1
theorem TkF.a12 (k : TkF I t p a b c u) : a ≤ 12 := k.2.2.2.1
theorem TkF.b12 (k : TkF I t p a b c u) : b ≤ 12 := k.2.2.2.2.1
theorem TkF.c12 (k : TkF I t p a b c u) : c ≤ 12 := k.2.2.2.2.2.1
theorem TkF.u1 (k : TkF I t p a b c u) : 1 ≤ u := k.2.2.2.2.2.2.1
theorem TkF.u2 (k : TkF I t p a b c u) : u ≤ 1000 := k.2.2.2.2.2.2.2.1
theorem TkF.ea (k : TkF I t p a b c u) : I (59, 0) t = nI a := k.2.2.2.2.2.2.2.2.1
theorem TkF.eb (k : TkF I t p a b c u) : I (60, 0) t = nI b := k.2.2.2.2.2.2.2.2.2.1
theorem TkF.ec (k : TkF I t p a b c u) : I (61, 0) t = nI c := k.2.2.2.2.2.2.2.2.2.2.1
theorem TkF.eu (k : TkF I t p a b c u) : I (62, 0) t = nI u := k.2.2.2.2.2.2.2.2.2.2.2.1
theorem TkF.form (k : TkF I t p a b c u) : 1 ≤ a ∧ (kf p < 2 → b = 0) ∧ (2 ≤ kf p → 1 ≤ b) ∧ (kf p ≠ 3 → c = 0) ∧ (kf p = 3 → 1 ≤ c ∧ a ≠ b ∧ a ≠ c ∧ b ≠ c) ∧ (kf p = 2 → a < b) := ⟨k.2.2.2.2.2.2.2.2.2.2.2.2.1, k.2.2.2.2.2.2.2.2.2.2.2.2.2.1, k.2.2.2.2.2.2.2.2.2.2.2.2.2.2.1, k.2.2.2.2.2.2.2.2.2.2.2.2.2.2.2.1, k.2.2.2.2.2.2.2.2.2.2.2.2.2.2.2.2.1, k.2.2.2.2.2.2.2.2.2.2.2.2.2.2.2.2.2.1⟩
theorem TkF.cls (k : TkF I t p a b c u) : I (10, t) 1 = I (64, 0) t ∧ I (10, t) 2 = I (62, 0) t ∧ I (10, t) 3 = I (59, 0) t ∧ I (10, t) 4 = I (60, 0) t ∧ I (10, t) 5 = I (61, 0) t ∧ I (10, t) 6 = I (63, 0) t := ⟨k.2.2.2.2.2.2.2.2.2.2.2.2.2.2.2.2.2.2.1, k.2.2.2.2.2.2.2.2.2.2.2.2.2.2.2.2.2.2.2.1, k.2.2.2.2.2.2.2.2.2.2.2.2.2.2.2.2.2.2.2.2.1, k.2.2.2.2.2.2.2.2.2.2.2.2.2.2.2.2.2.2.2.2.2.1, k.2.2.2.2.2.2.2.2.2.2.2.2.2.2.2.2.2.2.2.2.2.2.1, k.2.2.2.2.2.2.2.2.2.2.2.2.2.2.2.2.2.2.2.2.2.2.2.1⟩
theorem TkF.st (k : TkF I t p a b c u) : I (63, 0) t = 0 ∨ I (63, 0) t = 1 ∨ I (63, 0) t = 2 ∨ I (63, 0) t = 3 := k.2.2.2.2.2.2.2.2.2.2.2.2.2.2.2.2.2.2.2.2.2.2.2.2.1
theorem TkF.cnt (k : TkF I t p a b c u) : I (66, 0) t = 1 ∧ I (43, 0) p = 1 ∧ (I (63, 0) t = 0 ∨ I (63, 0) t = 3) ∨ I (66, 0) t = 0 ∧ ¬ (I (43, 0) p = 1 ∧ (I (63, 0) t = 0 ∨ I (63, 0) t = 3)) ∧ ¬ I (63, 0) t = 3 := k.2.2.2.2.2.2.2.2.2.2.2.2.2.2.2.2.2.2.2.2.2.2.2.2.2
end TkF
theorem kf_le {p : Nat} : kf p ≤ 4 := by unfold kf; split <;> omega
theorem k5 {k : Nat} (h : k ≤ 4) : k = 0 ∨ k = 1 ∨ k = 2 ∨ k = 3 ∨ k = 4 := by omega
theorem lin_lt {p a b c : Nat} (ha : a ≤ 12) (hb : b ≤ 12) (hc : c ≤ 12) : lin (kf p) a b c < lls p := by
  unfold lls lin
  rcases k5 (kf_le (p := p)) with e | e | e | e | e <;> rw [e] <;> simp <;> omega
theorem lls_le {p : Nat} : lls p ≤ 2197 := by
  unfold lls
  rcases k5 (kf_le (p := p)) with e | e | e | e | e <;> rw [e] <;> simp
def lin2 (k a b c : Nat) : Nat := if k = 2 then (if b ≤ a then b * 13 + a else a * 13 + b) else lin k a b c
theorem lin2_lin {k a b c : Nat} (hk : k = 2 → a < b) : lin2 k a b c = lin k a b c := by
  unfold lin2
  by_cases e : k = 2
  · have := hk e
    rw [if_pos e, if_neg (by omega), e]; rfl
  · rw [if_neg e]
theorem lin2_lt {p a b c : Nat} (ha : a ≤ 12) (hb : b ≤ 12) (hc : c ≤ 12) : lin2 (kf p) a b c < lls p := by
  unfold lin2
  split
  · rename_i e
    have : lls p = 169 := by unfold lls; rw [e]; rfl
    rw [this]; split <;> omega
  · exact lin_lt ha hb hc
theorem w_lineOf {o : xN} (ho : kd o.1 = (1, 3)) {k a b c : Nat} (hk : k ≤ 4) (e : hI h o 1 = nI k) (ha : a ≤ 12) (hb : b ≤ 12) {Q : Int32 → xH → Prop} (q : Q (nI (lin2 k a b c)) h) : p_Po_lineOf o (nI a) (nI b) (nI c) h Q := by
  unfold p_Po_lineOf
  unfold lin2 lin at q
  have e13 : ∀ x y, nI x * 13 + nI y = nI (x * 13 + y) := fun x y => ix_n x 13 y
  rw [e, le_nn (by omega) (by omega), e13, e13, e13]
  rcases k5 hk with rfl | rfl | rfl | rfl | rfl
  · exact ⟨ho, fun z => absurd z (by decide), fun z => absurd z (by decide), fun z => absurd z (by decide), fun _ => q⟩
  · exact ⟨ho, fun z => absurd z (by decide), fun z => absurd z (by decide), fun z => absurd z (by decide), fun _ => q⟩
  · refine ⟨ho, fun _ => ⟨fun c => ?_, fun c => ?_⟩, fun z => absurd z (by decide), fun z => absurd z (by decide), fun z => absurd rfl (z 2 (by simp))⟩
    · rw [if_pos rfl, if_pos c] at q; exact q
    · rw [if_pos rfl, if_neg c] at q; exact q
  · exact ⟨ho, fun z => absurd z (by decide), fun _ => q, fun z => absurd z (by decide), fun z => absurd rfl (z 3 (by simp))⟩
  · exact ⟨ho, fun z => absurd z (by decide), fun z => absurd z (by decide), fun _ => q, fun z => absurd rfl (z 4 (by simp))⟩
/-- a pool that is there -/
theorem plr (i : InvQ qq L xs nr nt v) {p : Nat} (hp : p < 49) (c : hI v (40, 0) p = 1) : hR v (28, 0) p = (5, p) ∧ hR v (5, p) 2 = (6, frp (hI v) p) ∧ hR v (5, p) 3 = (6, scp (hI v) p) ∧ hR v (5, p) 6 = (17, p) ∧ hR v (5, p) 7 = (18, p) ∧ hR v (5, p) 8 = (19, p) ∧ hS v (17, p) = lls p + 1 ∧ hS v (18, p) = lls p + 1 ∧ hS v (19, p) = 12 := by
  rcases i.sp p hp with z | z
  · exact z.2
  · rw [z.1] at c; exact absurd c (by decide)
theorem plk (i : InvQ qq L xs nr nt v) {p : Nat} (hp : p < 49) (c : hI v (40, 0) p = 1) : hI v (5, p) 0 = nI p ∧ hI v (5, p) 1 = nI (kf p) ∧ hI v (5, p) 4 = hI v (41, 0) p ∧ hI v (5, p) 5 = hI v (42, 0) p ∧ (∃ d, d ≤ 500 ∧ hI v (41, 0) p = nI d) ∧ (∃ u, 10 ≤ u ∧ u ≤ 1000 ∧ hI v (42, 0) p = nI u) ∧ hI v (19, p) 10 = hI v (43, 0) p := by
  have z := (i.vp p hp).1 c
  exact ⟨z.2.2.2.1, z.2.2.2.2.1, z.2.2.2.2.2.1, z.2.2.2.2.2.2.1, z.2.2.2.2.2.2.2.1, z.2.2.2.2.2.2.2.2.1, z.2.2.2.2.2.2.2.2.2.2⟩
theorem pls (i : InvQ qq L xs nr nt v) {p : Nat} (hp : p < 49) (c : hI v (40, 0) p = 1) : hI v (43, 0) p = 0 ∨ hI v (43, 0) p = 1 := (i.vqw p hp c).elim (fun z => Or.inr z.1) (fun z => Or.inl z)
theorem tkr (i : InvQ qq L xs nr nt v) {t p a b c u : Nat} (ht : t < nt) (k : TkF (hI v) t p a b c u) : hR v (29, 0) t = (10, t) ∧ hR v (10, t) 0 = (5, p) := by
  have := k.p49
  refine ⟨(i.st.1 t ht).1, ?_⟩
  rw [(i.st.1 t ht).2, k.pool, cl_n (by omega)]
theorem tl_eq {I : xN → Nat → Int32} {t p a b c u : Nat} (k : TkF I t p a b c u) : tl I t = lin (kf p) a b c := by
  have := k.p49; have := k.a12; have := k.b12; have := k.c12
  unfold tl
  rw [k.pool, k.ea, k.eb, k.ec, cl_n (by omega), cl_n (by omega), cl_n (by omega), cl_n (by omega)]
theorem w_line (i : InvQ qq L xs nr nt v) (s : SC v h) {t p a b c u : Nat} (ht : t < nt) (k : TkF (hI v) t p a b c u) {Q : Int32 → xH → Prop} (q : Q (nI (lin (kf p) a b c)) h) : p_Ti_line (10, t) h Q := by
  have z := plk i k.p49 k.there
  have r := tkr i ht k
  have w := k.cls
  unfold p_Ti_line
  rw [s.2.2, r.2, s.i 10 t 3, s.i 10 t 4, s.i 10 t 5, w.2.2.1, w.2.2.2.1, w.2.2.2.2.1, k.ea, k.eb, k.ec]
  refine ⟨rfl, rfl, w_lineOf (k := kf p) rfl kf_le (by rw [s.i 5 p 1]; exact z.2.1) k.a12 k.b12 ?_⟩
  rw [lin2_lin k.form.2.2.2.2.2]; exact q
theorem w_isSettled (i : InvQ qq L xs nr nt v) (s : SC v h) {p : Nat} (hp : p < 49) (c : hI v (40, 0) p = 1) {Q : Int32 → xH → Prop} (no : hI v (43, 0) p = 0 → Q 0 h) (yes : hI v (43, 0) p = 1 → Q 1 h) : p_Po_isSettled (5, p) h Q := by
  have z := plk i hp c
  have r := plr i hp c
  unfold p_Po_isSettled
  rw [s.2.2, s.2.1, r.2.2.2.2.2.1, r.2.2.2.2.2.2.2.2, show (10 : Int32).toNatClampNeg = 10 from rfl, s.i 19 p 10, z.2.2.2.2.2.2]
  exact ⟨rfl, rfl, in_n (j := 10) (by omega) (by omega), fun c2 => no ((pls i hp c).resolve_right c2), fun c2 => yes c2⟩
/-- what is due to a ticket -/
def du (I : xN → Nat → Int32) (t : Nat) : Int32 := if I (66, 0) t = 1 then I (65, 0) t * I (62, 0) t else 0
theorem w_due (i : InvQ qq L xs nr nt v) (s : SC v h) {t : Nat} (ht : t < nt) {Q : Int32 → xH → Prop} (q : Q (du (hI v) t) h) : p_Ti_due (10, t) h Q := by
  obtain ⟨p, a, b, c, u, k⟩ := tkf i ht
  have r := tkr i ht k
  have pr := plr i k.p49 k.there
  have w := k.cls
  have hp := k.p49
  unfold du at q
  have j0 : hI v (66, 0) t = 0 → p_Ti_due_j30 0 (10, t) h Q := fun c => by
    unfold p_Ti_due_j30
    rw [if_neg (by rw [c]; decide)] at q
    exact ⟨fun _ => q, fun z => absurd rfl z⟩
  have j1 : hI v (66, 0) t = 1 → p_Ti_due_j30 1 (10, t) h Q := fun c => by
    unfold p_Ti_due_j30
    rw [if_pos c] at q
    refine ⟨fun z => absurd z (by decide), fun _ => ⟨rfl, ?_⟩⟩
    rw [s.2.2, r.2]
    refine ⟨rfl, w_line i s ht k ?_⟩
    have l1 := lin_lt (p := p) k.a12 k.b12 k.c12
    have l2 := lls_le (p := p)
    rw [pr.2.2.2.2.1, s.2.1, pr.2.2.2.2.2.2.2.1, cl_n (by omega)]
    refine ⟨rfl, in_n (by omega) (by omega), ?_⟩
    rw [s.i 18 p, s.i 10 t 2, w.2.1, (i.vd p hp k.there _ l1).1 t ht c k.pool (tl_eq k), Int32.mul_comm]
    exact q
  unfold p_Ti_due
  rw [s.2.2, r.2]
  refine ⟨rfl, rfl, w_isSettled i s hp k.there (fun c => ⟨fun _ => j0 ?_, fun z => absurd rfl z⟩) (fun c => ⟨fun z => absurd z (by decide), fun _ => ?_⟩)⟩
  · rcases k.cnt with z | z
    · rw [z.2.1] at c; exact absurd c (by decide)
    · exact z.1
  · rw [s.i 10 t 6, w.2.2.2.2.2]
    refine ⟨fun c2 => j1 ?_, fun c2 => ⟨fun c3 => j0 ?_, fun c3 => j1 ?_⟩⟩
    · exact k.cnt.elim (fun z => z.1) (fun z => absurd ⟨c, Or.inl c2⟩ z.2.1)
    · exact k.cnt.elim (fun z => (z.2.2.elim c2 c3).elim) (fun z => z.1)
    · exact k.cnt.elim (fun z => z.1) (fun z => absurd ⟨c, Or.inr c3⟩ z.2.1)
theorem w_dueTo (i : InvQ qq L xs nr nt v) (s : SM v g) {t : Nat} (ht : t < nt) {Q : Int32 → xH → Prop} (q : Q (du (hI v) t) g) : p_M_dueTo (12, 0) (nI t) g Q := by
  have hn := i.vc.2.1
  have m := SM.m i s
  obtain ⟨p, a, b, c, u, k⟩ := tkf i ht
  unfold p_M_dueTo
  unfold du at q
  rw [mR32 m, mS32 m, mR31 m, mS31 m, mR28 m, mS28 m, cl_n (by omega), s.i 66, s.i 65, s.i 62]
  refine ⟨rfl, rfl, in_n (by omega) (by omega), fun c => ?_, fun c => ⟨rfl, in_n (by omega) (by omega), rfl, in_n (by omega) (by omega), ?_⟩⟩
  · rw [if_neg (by rw [c]; decide)] at q; exact q
  · rw [if_pos (k.cnt.elim (fun z => z.1) (fun z => absurd z.1 c))] at q; exact q
abbrev pb (I : xN → Nat → Int32) (t : Nat) : Prop := I (63, 0) t = 0 ∧ I (43, 0) (I (58, 0) t).toNatClampNeg = 1
theorem w_isPayable (i : InvQ qq L xs nr nt v) (s : SC v h) {t : Nat} (ht : t < nt) {Q : Int32 → xH → Prop} (no : ¬ pb (hI v) t → Q 0 h) (yes : pb (hI v) t → Q 1 h) : p_Ti_isPayable (10, t) h Q := by
  obtain ⟨p, a, b, c, u, k⟩ := tkf i ht
  have hp := k.p49
  have r := tkr i ht k
  have w := k.cls
  unfold pb at no yes
  rw [k.pool, cl_n (by omega)] at no yes
  unfold p_Ti_isPayable
  rw [s.i 10 t 6, w.2.2.2.2.2, s.2.2, r.2]
  refine ⟨rfl, fun c => no (fun z => c z.1), fun c => ⟨rfl, w_isSettled i s hp k.there (fun c2 => ⟨fun _ => no (fun z => ?_), fun z => absurd rfl z⟩) (fun c2 => ⟨fun z => absurd z (by decide), fun _ => yes ⟨c, c2⟩⟩)⟩⟩
  rw [c2] at z; exact absurd z.2 (by decide)
theorem w_mayPay (i : InvQ qq L xs nr nt v) (s : SM v g) {t : Nat} (ht : t < nt) {Q : Int32 → xH → Prop} (no : ¬ pb (hI v) t → Q 0 g) (yes : pb (hI v) t → Q 1 g) : p_M_mayPay (12, 0) (nI t) g Q := by
  have hn := i.vc.2.1
  have m := SM.m i s
  obtain ⟨p, a, b, c, u, k⟩ := tkf i ht
  have hp := k.p49
  unfold pb at no yes
  rw [k.pool, cl_n (by omega)] at no yes
  unfold p_M_mayPay
  rw [mR29 m, mS29 m, mR24 m, mS24 m, mR9 m, mS9 m, cl_n (by omega), s.i 63, s.i 58, k.pool, cl_n (by omega), s.i 43]
  refine ⟨rfl, rfl, in_n (by omega) (by omega), fun c => no (fun z => c z.1), fun c => ⟨rfl, in_n (by omega) (by omega), rfl, in_n (by omega) (by omega), fun c2 => no (fun z => ?_), fun c2 => yes ⟨c, (pls i hp k.there).resolve_left c2⟩⟩⟩
  rw [c2] at z; exact absurd z.2 (by decide)
/-- promise 14 -/
theorem o_ticket (H : Ok L xs h) (r x : Int32) {F : Int32 → xH → Prop} (hF : Nx L xs (p_M_ticket (12, 0) r x) F) : p_T_ticket (11, 0) r x h F := by
  obtain ⟨nr, nt, i⟩ := H
  have hn := i.vc.2.1
  unfold p_T_ticket
  refine ⟨rfl, w_findTicket i (fun hno => ⟨fun z => absurd rfl z, fun _ => hF _ _ i.vs (fun G hG => ?_)⟩) (fun t ht e => ⟨fun _ => ?_, fun z => absurd z (nz 9 t)⟩)⟩
  · unfold p_M_ticket
    exact ⟨rfl, w_isTicket hn i.vc.2.2.2.2.2 (fun _ => ⟨fun z => absurd rfl z, fun _ => hG h ⟨nr, nt, i⟩⟩) (fun j hj e => absurd e (hno j hj))⟩
  · subst e
    obtain ⟨p, a, b, c, u, k⟩ := tkf i ht
    have hp := k.p49
    have tr := tkr i ht k
    have w := k.cls
    have m := i.m
    have d : ∀ (p q : Int32), x = p → p ≠ q → ∀ {P : Prop}, x = q → P := fun p q e n P e' => absurd (e.symm.trans e') n
    have fin : ∀ a, ((x = 0 → a = hI h (58, 0) t) ∧ (x = 1 → a = hI h (59, 0) t) ∧ (x = 2 → a = hI h (60, 0) t) ∧ (x = 3 → a = hI h (61, 0) t) ∧ (x = 4 → a = hI h (62, 0) t) ∧ (x = 5 → a = hI h (63, 0) t) ∧ (x = 6 → a = hI h (64, 0) t) ∧ (x = 7 → a = du (hI h) t) ∧ ((∀ q ∈ ([(0 : Int32), (1 : Int32), (2 : Int32), (3 : Int32), (4 : Int32), (5 : Int32), (6 : Int32), (7 : Int32)] : List Int32), x ≠ q) → a = -3)) → F a h := by
      intro a ha
      refine hF _ _ i.vs (fun G hG => ?_)
      have g := hG h ⟨nr, nt, i⟩
      unfold p_M_ticket
      refine ⟨rfl, w_isTicket hn i.vc.2.2.2.2.2 (fun c => absurd rfl (c t ht)) (fun _ _ _ => ⟨fun _ => ?_, fun z => absurd z (by decide)⟩)⟩
      rw [mR24 m, mS24 m, mR25 m, mS25 m, mR26 m, mS26 m, mR27 m, mS27 m, mR28 m, mS28 m, mR29 m, mS29 m, mR30 m, mS30 m, cl_n (by omega)]
      have v : vp_in (nI t) (201 - 1) := in_n (by omega) (by omega)
      obtain ⟨a0, a1, a2, a3, a4, a5, a6, a7, a8⟩ := ha
      exact ⟨fun c => ⟨rfl, v, a0 c ▸ g⟩, fun c => ⟨rfl, v, a1 c ▸ g⟩, fun c => ⟨rfl, v, a2 c ▸ g⟩, fun c => ⟨rfl, v, a3 c ▸ g⟩, fun c => ⟨rfl, v, a4 c ▸ g⟩, fun c => ⟨rfl, v, a5 c ▸ g⟩, fun c => ⟨rfl, v, a6 c ▸ g⟩, fun c => w_dueTo i (SM.rf h) ht (a7 c ▸ g), fun c => a8 c ▸ g⟩
    rw [tr.2, (plk i hp k.there).1, w.1, w.2.1, w.2.2.1, w.2.2.2.1, w.2.2.2.2.1, w.2.2.2.2.2, ← k.pool]
    refine ⟨fun c => ⟨rfl, rfl, fin _ ?_⟩, fun c => ⟨rfl, fin _ ?_⟩, fun c => ⟨rfl, fin _ ?_⟩, fun c => ⟨rfl, fin _ ?_⟩, fun c => ⟨rfl, fin _ ?_⟩, fun c => ⟨rfl, fin _ ?_⟩, fun c => ⟨rfl, fin _ ?_⟩, fun c => ⟨rfl, w_due i (SC.rf h) ht (fin _ ?_)⟩, fun c => fin _ ?_⟩
    · exact ⟨fun _ => rfl, d _ _ c (by decide), d _ _ c (by decide), d _ _ c (by decide), d _ _ c (by decide), d _ _ c (by decide), d _ _ c (by decide), d _ _ c (by decide), fun z => absurd c (z _ (by simp))⟩
    · exact ⟨d _ _ c (by decide), fun _ => rfl, d _ _ c (by decide), d _ _ c (by decide), d _ _ c (by decide), d _ _ c (by decide), d _ _ c (by decide), d _ _ c (by decide), fun z => absurd c (z _ (by simp))⟩
    · exact ⟨d _ _ c (by decide), d _ _ c (by decide), fun _ => rfl, d _ _ c (by decide), d _ _ c (by decide), d _ _ c (by decide), d _ _ c (by decide), d _ _ c (by decide), fun z => absurd c (z _ (by simp))⟩
    · exact ⟨d _ _ c (by decide), d _ _ c (by decide), d _ _ c (by decide), fun _ => rfl, d _ _ c (by decide), d _ _ c (by decide), d _ _ c (by decide), d _ _ c (by decide), fun z => absurd c (z _ (by simp))⟩
    · exact ⟨d _ _ c (by decide), d _ _ c (by decide), d _ _ c (by decide), d _ _ c (by decide), fun _ => rfl, d _ _ c (by decide), d _ _ c (by decide), d _ _ c (by decide), fun z => absurd c (z _ (by simp))⟩
    · exact ⟨d _ _ c (by decide), d _ _ c (by decide), d _ _ c (by decide), d _ _ c (by decide), d _ _ c (by decide), fun _ => rfl, d _ _ c (by decide), d _ _ c (by decide), fun z => absurd c (z _ (by simp))⟩
    · exact ⟨d _ _ c (by decide), d _ _ c (by decide), d _ _ c (by decide), d _ _ c (by decide), d _ _ c (by decide), d _ _ c (by decide), fun _ => rfl, d _ _ c (by decide), fun z => absurd c (z _ (by simp))⟩
    · exact ⟨d _ _ c (by decide), d _ _ c (by decide), d _ _ c (by decide), d _ _ c (by decide), d _ _ c (by decide), d _ _ c (by decide), d _ _ c (by decide), fun _ => rfl, fun z => absurd c (z _ (by simp))⟩
    · exact ⟨fun e => absurd e (c _ (by simp)), fun e => absurd e (c _ (by simp)), fun e => absurd e (c _ (by simp)), fun e => absurd e (c _ (by simp)), fun e => absurd e (c _ (by simp)), fun e => absurd e (c _ (by simp)), fun e => absurd e (c _ (by simp)), fun e => absurd e (c _ (by simp)), fun _ => rfl⟩
/-- promise 20 -/
def usum (I : xN → Nat → Int32) : Nat → Int32
  | 0 => 0
  | n + 1 => usum I n + (if pb I n then du I n else 0)
theorem o_unclaimed (H : Ok L xs h) {F : Int32 → xH → Prop} (hF : Nx L xs (p_M_unclaimed (12, 0)) F) : p_T_unclaimed (11, 0) h F := by
  obtain ⟨nr, nt, i⟩ := H
  have hn := i.vc.2.1
  have x11 := i.vc.2.2.2.2.1
  have x23 := i.vc.2.2.2.2.2
  unfold p_T_unclaimed
  refine ⟨nt + 1, ?_⟩
  have key : ∀ (m a : Nat), a + m = nt → p_T_unclaimed_L4 (11, 0) (fun x h => F x h) F (m + 1) (usum (hI h) a) (nI a) h := by
    intro m
    induction m with
    | zero =>
      intro a ha
      unfold p_T_unclaimed_L4
      rw [x11]
      refine ⟨rfl, fun _ => ?_, fun c => absurd (by rw [le_nn (by omega) (by omega)]; omega) c⟩
      refine hF _ _ i.vs (fun G hG => ⟨nt + 1, ?_⟩)
      have key2 : ∀ (m b : Nat), b + m = nt → p_M_unclaimed_L4 (12, 0) (fun x h => G x h) G (m + 1) (usum (hI h) b) (nI b) h := by
        intro m
        induction m with
        | zero =>
          intro b hb
          unfold p_M_unclaimed_L4
          rw [x23]
          refine ⟨rfl, fun _ => ?_, fun c => absurd (by rw [le_nn (by omega) (by omega)]; omega) c⟩
          rw [show b = a by omega]
          exact hG h ⟨nr, nt, i⟩
        | succ m ih =>
          intro b hb
          have ih2 := ih (b + 1) (by omega)
          unfold p_M_unclaimed_L4
          rw [x23]
          refine ⟨rfl, fun c => ?_, fun _ => w_mayPay i (SM.rf h) (by omega) (fun c => ⟨fun _ w hw x hx => ?_, fun z => absurd rfl z⟩) (fun c => ⟨fun z => absurd z (by decide), fun _ => w_dueTo i (SM.rf h) (by omega) (fun w hw x hx => ?_)⟩)⟩
          · rw [le_nn (by omega) (by omega)] at c; omega
          · rw [hw, hx, nI_1]; unfold usum at ih2; rw [if_neg c] at ih2; exact ih2
          · rw [hw, hx, nI_1]; unfold usum at ih2; rw [if_pos c] at ih2; exact ih2
      exact key2 nt 0 (by omega)
    | succ m ih =>
      intro a ha
      have ih2 := ih (a + 1) (by omega)
      have tr := i.st.1 a (by omega)
      unfold p_T_unclaimed_L4
      rw [x11, xR_11_0_2 i.x, xS_29_0 i.x, cl_n (by omega), tr.1]
      refine ⟨rfl, fun c => ?_, fun _ => ⟨rfl, in_n (by omega) (by omega), rfl, w_isPayable i (SC.rf h) (by omega) (fun c => ⟨fun _ x hx => ?_, fun z => absurd rfl z⟩) (fun c => ⟨fun z => absurd z (by decide), fun _ => ?_⟩)⟩⟩
      · rw [le_nn (by omega) (by omega)] at c; omega
      · rw [hx, nI_1]; unfold usum at ih2; rw [if_neg c, Int32.add_zero] at ih2; exact ih2
      · rw [xR_11_0_2 i.x, xS_29_0 i.x, tr.1]
        refine ⟨rfl, in_n (by omega) (by omega), rfl, w_due i (SC.rf h) (by omega) (fun w hw x hx => ?_)⟩
        rw [hw, hx, nI_1]; unfold usum at ih2; rw [if_pos c] at ih2; exact ih2
  exact key nt 0 (by omega)
end Tick
