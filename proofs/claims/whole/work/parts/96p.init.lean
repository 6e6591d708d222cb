section Init
variable {h h' h2 : xH}
/-- nothing but the cells of some names has changed -/
def KN (P : xN → Prop) (h h' : xH) : Prop := ∀ n, ¬ P n → hS h' n = hS h n ∧ ∀ j, hI h' n j = hI h n j ∧ hR h' n j = hR h n j
theorem KN.rf (P : xN → Prop) (h : xH) : KN P h h := fun n _ => ⟨rfl, fun _ => ⟨rfl, rfl⟩⟩
theorem KN.tr {P : xN → Prop} (a : KN P h h') (b : KN P h' h2) : KN P h h2 := fun n hn => ⟨(b n hn).1.trans (a n hn).1, fun j => ⟨((b n hn).2 j).1.trans ((a n hn).2 j).1, ((b n hn).2 j).2.trans ((a n hn).2 j).2⟩⟩
theorem KN.mono {P R : xN → Prop} (a : KN P h h') (e : ∀ n, P n → R n) : KN R h h' := fun n hn => a n (fun z => hn (e n z))
theorem KN.nw {P : xN → Prop} (a : KN P h h') {n : xN} (hn : P n) (z : Nat) : KN P h (nW h' n z) := fun m hm => by
  have ne : m ≠ n := fun e => hm (by rw [e]; exact hn)
  refine ⟨by rw [hS_nW, if_neg ne]; exact (a m hm).1, fun j => ⟨by rw [hI_nW, if_neg ne]; exact ((a m hm).2 j).1, by rw [hR_nW, if_neg ne]; exact ((a m hm).2 j).2⟩⟩
theorem KN.sr {P : xN → Prop} (a : KN P h h') {n : xN} (hn : P n) (i : Nat) (r : xN) : KN P h (sR h' n i r) := fun m hm => by
  have ne : m ≠ n := fun e => hm (by rw [e]; exact hn)
  refine ⟨(a m hm).1, fun j => ⟨((a m hm).2 j).1, by rw [hR_sR, if_neg (fun z => ne z.1)]; exact ((a m hm).2 j).2⟩⟩
theorem KN.si {P : xN → Prop} (a : KN P h h') {n : xN} (hn : P n) (i : Nat) (x : Int32) : KN P h (sI h' n i x) := fun m hm => by
  have ne : m ≠ n := fun e => hm (by rw [e]; exact hn)
  refine ⟨(a m hm).1, fun j => ⟨by rw [hI_sI, if_neg (fun z => ne z.1)]; exact ((a m hm).2 j).1, ((a m hm).2 j).2⟩⟩
/-- a slip -/
theorem w_SlI {s : Nat} (f : hS h (26, s) = 0) {Q : xH → Prop} (q : ∀ h', KN (fun n => n = (9, s) ∨ n = (26, s)) h h' → hR h' (9, s) 0 = (26, s) → hS h' (26, s) = 9 → Q h') : p_Sl_init (9, s) h Q := by
  unfold p_Sl_init
  refine ⟨by simp, f, fun h3 e3 => ⟨rfl, fun h6 e6 h8 e8 h10 e10 => q h10 ?_ ?_ ?_⟩⟩
  · rw [e10, e8, e6, e3]
    exact ((((KN.rf _ h).nw (Or.inr rfl) _).sr (Or.inl rfl) _ _).si (Or.inl rfl) _ _).si (Or.inl rfl) _ _
  · rw [e10, e8, e6]; simp [hR_sI, hR_sR]
  · rw [e10, e8, e6, e3]; simp [hS_sI, hS_sR, hS_nW]
def KDr (w : Nat) : xN → Prop := fun n => n = (3, w) ∨ n = (14, w) ∨ ((n.1 = 9 ∨ n.1 = 26) ∧ 12 * w ≤ n.2 ∧ n.2 < 12 * w + 12)
/-- a drawer -/
theorem w_DI {w : Nat} (f14 : hS h (14, w) = 0) (f : ∀ t, t < 12 → hS h (9, 12 * w + t) = 0 ∧ hS h (26, 12 * w + t) = 0) {Q : xH → Prop} (q : ∀ h', KN (KDr w) h h' → hR h' (3, w) 0 = (14, w) → hI h' (3, w) 1 = -1 → hS h' (14, w) = 13 → (∀ t, t < 12 → hR h' (14, w) t = (9, 12 * w + t) ∧ hR h' (9, 12 * w + t) 0 = (26, 12 * w + t) ∧ hS h' (26, 12 * w + t) = 9) → Q h') : p_D_init (3, w) h Q := by
  unfold p_D_init
  refine ⟨by simp, f14, fun h3 e3 => ⟨rfl, fun h6 e6 h8 e8 => ?_⟩⟩
  have B : KN (KDr w) h h8 := by
    rw [e8, e6, e3]
    exact (((KN.rf _ h).nw (Or.inr (Or.inl rfl)) _).sr (Or.inl rfl) _ _).si (Or.inl rfl) _ _
  have b0 : hR h8 (3, w) 0 = (14, w) := by rw [e8, e6]; simp [hR_sI, hR_sR]
  have b1 : hI h8 (3, w) 1 = -1 := by rw [e8]; simp [hI_sI]
  have b2 : hS h8 (14, w) = 13 := by rw [e8, e6, e3]; simp [hS_sI, hS_sR, hS_nW]
  have b3 : ∀ t, t < 12 → hS h8 (9, 12 * w + t) = 0 ∧ hS h8 (26, 12 * w + t) = 0 := fun t ht => by
    rw [e8, e6, e3]
    simp [hS_sI, hS_sR, hS_nW]
    exact f t ht
  have key : ∀ (m i k : Nat) (g : xH), i + m = 12 → k = 1 + 2 * i → KN (KDr w) h g → hR g (3, w) 0 = (14, w) → hI g (3, w) 1 = -1 → hS g (14, w) = 13 → (∀ t, t < i → hR g (14, w) t = (9, 12 * w + t) ∧ hR g (9, 12 * w + t) 0 = (26, 12 * w + t) ∧ hS g (26, 12 * w + t) = 9) → (∀ t, i ≤ t → t < 12 → hS g (9, 12 * w + t) = 0 ∧ hS g (26, 12 * w + t) = 0) → p_D_init_L20 (3, w) (fun (k24 : Nat) (h25 : xH) => Q h25) Q (m + 1) (nI i) k g := by
    intro m
    induction m with
    | zero =>
      intro i k g hi hk K r0 i1 s14 done fr
      have : i = 12 := by omega
      subst this
      unfold p_D_init_L20
      exact ⟨fun _ => q g K r0 i1 s14 done, fun z => absurd (by decide) z⟩
    | succ m ih =>
      intro i k g hi hk K r0 i1 s14 done fr
      unfold p_D_init_L20
      rw [show (12 : Int32) = nI 12 from rfl, le_nn (by omega) (by omega), cl_n (by omega)]
      refine ⟨fun z => by omega, fun _ => ⟨rfl, (fr i (Nat.le_refl _) (by omega)).1, by omega, fun h14 e14 => ⟨by omega, ?_⟩⟩⟩
      have f26 : hS h14 (26, 12 * w + i) = 0 := by rw [e14, hS_nW, if_neg (by simp)]; exact (fr i (Nat.le_refl _) (by omega)).2
      refine w_SlI f26 (fun h17 K17 r17 s17 => ?_)
      have G17 : KN (fun n => n = (9, 12 * w + i) ∨ n = (26, 12 * w + i)) g h17 := ((KN.rf _ g).nw (Or.inl rfl) 0 |> fun z => (by rw [← e14] at z; exact z.tr K17))
      have o17 : ∀ n, n ≠ (9, 12 * w + i) → n ≠ (26, 12 * w + i) → hS h17 n = hS g n ∧ ∀ j, hI h17 n j = hI g n j ∧ hR h17 n j = hR g n j := fun n h1 h2 => G17 n (fun z => z.elim h1 h2)
      show _ ∧ _
      rw [r0, (o17 (14, w) (by simp) (by simp)).1, s14]
      refine ⟨rfl, in_n (by omega) (by omega), fun h20 e20 v22 e22 => ?_⟩
      rw [e22, nI_1]
      have o20 : ∀ n, n ≠ (9, 12 * w + i) → n ≠ (26, 12 * w + i) → n ≠ (14, w) → hS h20 n = hS g n ∧ ∀ j, hI h20 n j = hI g n j ∧ hR h20 n j = hR g n j := fun n h1 h2 h3 => by
        rw [e20]
        refine ⟨(o17 n h1 h2).1, fun j => ⟨((o17 n h1 h2).2 j).1, ?_⟩⟩
        rw [hR_sR, if_neg (fun z => h3 z.1)]
        exact ((o17 n h1 h2).2 j).2
      have o20' : ∀ n, n ≠ (14, w) → ∀ j, hR h20 n j = hR h17 n j := fun n h3 j => by rw [e20, hR_sR, if_neg (fun z => h3 z.1)]
      refine ih (i + 1) (k + 2) h20 (by omega) (by omega) ?_ ?_ ?_ ?_ ?_ ?_
      · refine K.tr (fun n hn => o20 n (fun e => hn ?_) (fun e => hn ?_) (fun e => hn (Or.inr (Or.inl e))))
        · rw [e]; exact Or.inr (Or.inr ⟨Or.inl rfl, by simp, by simp; omega⟩)
        · rw [e]; exact Or.inr (Or.inr ⟨Or.inr rfl, by simp, by simp; omega⟩)
      · rw [((o20 (3, w) (by simp) (by simp) (by simp)).2 0).2]; exact r0
      · rw [((o20 (3, w) (by simp) (by simp) (by simp)).2 1).1]; exact i1
      · rw [e20, hS_sR, (o17 (14, w) (by simp) (by simp)).1]; exact s14
      · intro t ht
        by_cases c : t = i
        · subst c
          refine ⟨by rw [e20, hR_sR, if_pos ⟨rfl, rfl⟩], by rw [o20' _ (by simp)]; exact r17, by rw [e20, hS_sR]; exact s17⟩
        · have d := done t (by omega)
          refine ⟨?_, ?_, ?_⟩
          · rw [e20, hR_sR, if_neg (fun z => c z.2), ((o17 (14, w) (by simp) (by simp)).2 t).2]; exact d.1
          · rw [((o20 (9, 12 * w + t) (by simp; omega) (by simp) (by simp)).2 0).2]; exact d.2.1
          · rw [(o20 (26, 12 * w + t) (by simp) (by simp; omega) (by simp)).1]; exact d.2.2
      · intro t h1 h2
        have d := fr t (by omega) h2
        rw [(o20 (9, 12 * w + t) (by simp; omega) (by simp) (by simp)).1, (o20 (26, 12 * w + t) (by simp) (by simp; omega) (by simp)).1]
        exact d
  exact ⟨13, key 12 0 1 h8 rfl rfl B b0 b1 b2 (fun t ht => by omega) (fun t _ ht => b3 t ht)⟩
/-- a satchel -/
theorem w_SaI {s : Nat} (f : hS h (23, s) = 0) {Q : xH → Prop} (q : ∀ h', KN (fun n => n = (7, s) ∨ n = (23, s)) h h' → hR h' (7, s) 0 = (23, s) → hI h' (7, s) 2 = -1 → hS h' (23, s) = 11 → Q h') : p_Sa_init (7, s) h Q := by
  unfold p_Sa_init
  refine ⟨by simp, f, fun h3 e3 => ⟨rfl, fun h6 e6 h8 e8 => q h8 ?_ ?_ ?_ ?_⟩⟩
  · rw [e8, e6, e3]
    exact (((KN.rf _ h).nw (Or.inr rfl) _).sr (Or.inl rfl) _ _).si (Or.inl rfl) _ _
  · rw [e8, e6]; simp [hR_sI, hR_sR]
  · rw [e8]; simp [hI_sI]
  · rw [e8, e6, e3]; simp [hS_sI, hS_sR, hS_nW]
end Init
