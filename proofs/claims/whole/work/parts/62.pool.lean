section Pool
variable {L : Nat} {xs : Nat → Int32} {nr nt : Nat} {v h g : xH}
def tms (d u : Int32) : Prop := (0 ≤ d.toInt ∧ d.toInt ≤ 500) ∧ (10 ≤ u.toInt ∧ u.toInt ≤ 1000) ∧ u - u / (10 : Int32) * (10 : Int32) = 0
theorem w_terms {d u : Int32} {Q : Int32 → xH → Prop} (no : ¬ tms d u → Q 0 h) (yes : tms d u → Q 1 h) : p_T_areTerms d u h Q := by
  have e0 : (0 : Int32).toInt = 0 := rfl
  have e5 : (500 : Int32).toInt = 500 := rfl
  have e1 : (10 : Int32).toInt = 10 := rfl
  have e10 : (1000 : Int32).toInt = 1000 := rfl
  unfold p_T_areTerms
  rw [ti_lt, ti_lt, ti_lt, ti_lt, e0, e5, e1, e10]
  refine ⟨fun c => no (fun z => by have := z.1; omega), fun c => ⟨fun c2 => no (fun z => by have := z.1; omega), fun c2 => ⟨fun c3 => no (fun z => by have := z.2.1; omega), fun c3 => ⟨fun c4 => no (fun z => by have := z.2.1; omega), fun c4 => ⟨fun c5 => no (fun z => c5 z.2.2), fun c5 => yes ⟨by omega, by omega, c5⟩⟩⟩⟩⟩⟩
theorem w_mterms {d u : Int32} {Q : Int32 → xH → Prop} (no : ¬ tms d u → Q 0 g) (yes : tms d u → Q 1 g) : p_M_areTerms d u g Q := by
  have e0 : (0 : Int32).toInt = 0 := rfl
  have e5 : (500 : Int32).toInt = 500 := rfl
  have e1 : (10 : Int32).toInt = 10 := rfl
  have e10 : (1000 : Int32).toInt = 1000 := rfl
  unfold p_M_areTerms
  refine w_in (fun c => ⟨fun _ => no (fun z => c (by rw [e0, e5]; exact z.1)), fun z => absurd rfl z⟩) (fun c => ⟨fun z => absurd z (by decide), fun _ => w_in (fun c2 => ⟨fun _ => no (fun z => c2 (by rw [e1, e10]; exact z.2.1)), fun z => absurd rfl z⟩) (fun c2 => ⟨fun z => absurd z (by decide), fun _ => ⟨fun c5 => no (fun z => c5 z.2.2), fun c5 => yes ⟨by rw [e0, e5] at c; exact c, by rw [e1, e10] at c2; exact c2, c5⟩⟩⟩)⟩)
theorem tms_n {d u : Int32} (t : tms d u) : ∃ d' u', d = nI d' ∧ u = nI u' ∧ d' ≤ 500 ∧ 10 ≤ u' ∧ u' ≤ 1000 := by
  obtain ⟨t1, t2, -⟩ := t
  exact ⟨d.toInt.toNat, u.toInt.toNat, by rw [ti_eq, ti_n (by omega)]; omega, by rw [ti_eq, ti_n (by omega)]; omega, by omega, by omega, by omega⟩
/-- the class's heap once a pool is made -/
def PoN (h h3 : xH) (p k r1 r2 : Nat) (d u : Int32) : Prop := (∀ n j, ¬ nP p n → hI h3 n j = hI h n j) ∧ (∀ n j, ¬ nP p n → ¬ (n = (28, 0) ∧ j = p) → hR h3 n j = hR h n j) ∧ (∀ n, ¬ nP p n → hS h3 n = hS h n) ∧ hR h3 (28, 0) p = (5, p) ∧
  (hR h3 (5, p) 2 = (6, r1) ∧ hR h3 (5, p) 3 = (6, r2) ∧ hR h3 (5, p) 6 = (17, p) ∧ hR h3 (5, p) 7 = (18, p) ∧ hR h3 (5, p) 8 = (19, p) ∧ hS h3 (17, p) = llk k + 1 ∧ hS h3 (18, p) = llk k + 1 ∧ hS h3 (19, p) = 12) ∧
  (hI h3 (5, p) 0 = nI p ∧ hI h3 (5, p) 1 = nI k ∧ hI h3 (5, p) 4 = d ∧ hI h3 (5, p) 5 = u ∧ hI h3 (5, p) 9 = 0) ∧ (∀ j, hI h3 (17, p) j = 0 ∧ hI h3 (18, p) j = 0 ∧ hI h3 (19, p) j = 0)
theorem w_newp (i : Inv L xs nr nt h) {p k r1 r2 : Nat} {d u : Int32} (hp : p < 49) (hk : k ≤ 4) (c : hI h (40, 0) p = 0) {Q : xH → Prop} (q : ∀ h3, PoN h h3 p k r1 r2 d u → Q h3) : (hS h ((5, p) : xN) = 0) ∧ ∀ h18 : xH, h18 = nW h ((5, p) : xN) 0 → p_Po_init ((5, p) : xN) (nI p) (nI k) (6, r1) (6, r2) d u h18 (fun h20 : xH => (vp_in (nI p) (hS h20 (28, 0) - 1)) ∧ ∀ h22 : xH, h22 = sR h20 (28, 0) p ((5, p) : xN) → Q h22) := by
  obtain ⟨z5, z17, z18, z19⟩ : hS h (5, p) = 0 ∧ hS h (17, p) = 0 ∧ hS h (18, p) = 0 ∧ hS h (19, p) = 0 := by
    rcases i.sp p hp with z | z
    · rw [z.1] at c; exact absurd c (by decide)
    · exact z.2.2
  refine ⟨z5, fun h18 q18 => w_Poinit hk (by rw [q18]; simp [hS_nW, z17]) (by rw [q18]; simp [hS_nW, z18]) (by rw [q18]; simp [hS_nW, z19]) (fun h20 f1 f2 f3 f4 => ⟨?_, fun h22 q22 => ?_⟩)⟩
  · rw [(f1 (28, 0) (by simp [nP])).2.2, q18, hS_nW, if_neg (by simp), xS_28_0 i.x]
    exact in_n (by omega) (by omega)
  · have o0 : ∀ m, ¬ nP p m → (∀ j, hI h20 m j = hI h m j) ∧ (∀ j, hR h20 m j = hR h m j) ∧ hS h20 m = hS h m := fun m hm => by
      have := nP_ne hm
      obtain ⟨a, b, c⟩ := f1 m hm
      refine ⟨fun j => ?_, fun j => ?_, ?_⟩
      · rw [a, q18, hI_nW, if_neg this.1]
      · rw [b, q18, hR_nW, if_neg this.1]
      · rw [c, q18, hS_nW, if_neg this.1]
    have r5 : ∀ j, hR h22 (5, p) j = hR h20 (5, p) j := fun j => by rw [q22, hR_sR, if_neg (by simp)]
    refine q h22 ⟨fun n j hn => by rw [q22, hI_sR]; exact (o0 n hn).1 j, fun n j hn hj => by rw [q22, hR_sR, if_neg hj]; exact (o0 n hn).2.1 j, fun n hn => by rw [q22, hS_sR]; exact (o0 n hn).2.2, by rw [q22, hR_sR]; simp, ?_, ?_, ?_⟩
    · rw [r5, r5, r5, r5, r5, q22, hS_sR]; exact f2
    · rw [q22, hI_sR]
      refine ⟨f3.1, f3.2.1, f3.2.2.1, f3.2.2.2.1, ?_⟩
      rw [f3.2.2.2.2, q18, hI_nW]; simp
    · rw [q22, hI_sR]; exact f4
theorem PoN.sh (i : Inv L xs nr nt h) {h3 : xH} {p k r1 r2 : Nat} {d u : Int32} (P : PoN h h3 p k r1 r2 d u) : Sh (hS h3) (hR h3) :=
  fr2 Sh_rs (S := hS h) (R := hR h) (fun n hn => P.2.2.1 n (fun z => by have := z.2; rcases this with z | z | z | z <;> (unfold shS at hn; rw [z] at hn; simp at hn))) (fun n j hn => P.2.1 n j (fun z => by have := z.2; rcases this with z | z | z | z <;> (unfold shR at hn; rw [z] at hn; simp at hn)) (fun z => by rw [z.1] at hn; cases hn)) i.1
theorem PoN.mI {h3 : xH} {p k r1 r2 : Nat} {d u : Int32} (P : PoN h h3 p k r1 r2 d u) (k' j : Nat) (hk : 34 ≤ k' ∨ k' = 12) : hI h3 (k', 0) j = hI h (k', 0) j := P.1 _ _ (fun z => by have := z.2; simp at this; omega)
theorem PoN.md (i : Inv L xs nr nt h) {h3 : xH} {p k r1 r2 : Nat} {d u : Int32} (P : PoN h h3 p k r1 r2 d u) : Md (hS h3) (hR h3) nr nt (hI h3) :=
  fr1 (C := fun I => Md (hS h3) (hR h3) nr nt I) (c := rdMd) (I := hI h) (fun _ => rfl) (fun n j hn => P.1 n j (fun z => by have := z.2; simp [rdMd] at hn; omega)) ⟨(PoN.sh i P).1, i.md.2⟩
theorem PoN.vs (i : Inv L xs nr nt h) {h3 : xH} {p k r1 r2 : Nat} {d u : Int32} (P : PoN h h3 p k r1 r2 d u) : VS (hS h3) (hI h3) L xs := ⟨by rw [P.2.2.1 _ (by simp [nP])]; exact i.vs.1, fun j => by rw [P.1 _ _ (by simp [nP])]; exact i.vs.2 j⟩
theorem w_tell (m : ShM (hS g) (hR g)) {p : Nat} (hp : p < 49) {d u : Int32} {Q : xH → Prop} (q : Q (sI (sI (sI g (40, 0) p 1) (41, 0) p d) (42, 0) p u)) : p_M_tellPool (12, 0) (nI p) d u g Q := by
  unfold p_M_tellPool
  rw [mR6 m, mS6 m, cl_n (by omega)]
  refine ⟨rfl, rfl, in_n (by omega) (by omega), fun h4 q4 => ?_⟩
  have m4 : ShM (hS h4) (hR h4) := by rw [q4]; exact m
  rw [mR7 m4, mS7 m4]
  refine ⟨rfl, in_n (by omega) (by omega), fun h8 q8 => ?_⟩
  have m8 : ShM (hS h8) (hR h8) := by rw [q8]; exact m4
  rw [mR8 m8, mS8 m8]
  refine ⟨rfl, in_n (by omega) (by omega), fun h12 q12 => ?_⟩
  rw [q12, q8, q4]; exact q
theorem told (i : Inv L xs nr nt h) {h3 : xH} {p k r1 r2 d u : Nat} (P : PoN h h3 p k r1 r2 (nI d) (nI u)) (hp : p < 49) (ek : k = kf p) (c : hI h (40, 0) p = 0) (hd : d ≤ 500) (hu1 : 10 ≤ u) (hu2 : u ≤ 1000) (hr1 : r1 < nr) (hr2 : r2 < nr) (s1 : hI h (35, 0) r1 = 0) (hpr : p ≠ 48 → r1 = p / 4 ∧ r2 = p / 4) (h48 : p = 48 → r1 < r2) {g0 : xH} (e0 : (p ≠ 48 ∧ g0 = h3) ∨ (p = 48 ∧ g0 = sI (sI h3 (12, 0) 10 (nI r1)) (12, 0) 11 (nI r2))) : Inv L xs nr nt (sI (sI (sI g0 (40, 0) p 1) (41, 0) p (nI d)) (42, 0) p (nI u)) := by
  subst ek
  obtain ⟨f1, f2, f3, f4, f5, f6, f7⟩ := P
  have eS : hS g0 = hS h3 := by rcases e0 with ⟨-, e⟩ | ⟨-, e⟩ <;> rw [e] <;> rfl
  have eR : hR g0 = hR h3 := by rcases e0 with ⟨-, e⟩ | ⟨-, e⟩ <;> rw [e] <;> rfl
  have eI : ∀ n j, ¬ (p = 48 ∧ n = (12, 0) ∧ (j = 10 ∨ j = 11)) → hI g0 n j = hI h3 n j := fun n j hn => by
    rcases e0 with ⟨-, e⟩ | ⟨e48, e⟩
    · rw [e]
    · rw [e, hI_sI, if_neg (fun z => hn ⟨e48, z.1, Or.inr z.2⟩), hI_sI, if_neg (fun z => hn ⟨e48, z.1, Or.inl z.2⟩)]
  have eJ : ∀ n j, ¬ KL [((40, 0), p), ((41, 0), p), ((42, 0), p)] n j → hI (sI (sI (sI g0 (40, 0) p 1) (41, 0) p (nI d)) (42, 0) p (nI u)) n j = hI g0 n j := fun n j hk => by
    rw [hI_sI, if_neg (fun z => hk (by rw [z.1, z.2]; simp [KL])), hI_sI, if_neg (fun z => hk (by rw [z.1, z.2]; simp [KL])), hI_sI, if_neg (fun z => hk (by rw [z.1, z.2]; simp [KL]))]
  have eC : ∀ k, k < 34 → k ≠ 12 → ∀ m j, hI (sI (sI (sI g0 (40, 0) p 1) (41, 0) p (nI d)) (42, 0) p (nI u)) (k, m) j = hI h3 (k, m) j := fun k h1 h2 m j => by
    rw [eJ _ _ (by simp [KL]; omega), eI _ _ (by simp; omega)]
  refine i.newp hp c hd hu1 hu2 hr1 hr2 s1 hpr h48 (fun n j hn hk h12 => ?_) (fun n j hn hj => ?_) (fun n hn => ?_) ?_ ?_ ?_ ?_ (fun e => ?_) ?_ ?_ (fun j => ?_)
  · rw [eJ n j hk, eI n j h12]; exact f1 n j hn
  · show hR g0 n j = _
    rw [eR]; exact f2 n j hn hj
  · show hS g0 n = _
    rw [eS]; exact f3 n hn
  · show hR g0 _ _ = _
    rw [eR]; exact f4
  · simp [hI_sI]
  · simp [hI_sI]
  · simp [hI_sI]
  · rw [eJ _ _ (by simp [KL]), eJ _ _ (by simp [KL])]
    rcases e0 with ⟨z, -⟩ | ⟨-, e⟩
    · exact absurd e z
    · rw [e]; simp [hI_sI]
  · show hR g0 _ _ = _ ∧ hR g0 _ _ = _ ∧ hR g0 _ _ = _ ∧ hR g0 _ _ = _ ∧ hR g0 _ _ = _ ∧ hS g0 _ = _ ∧ hS g0 _ = _ ∧ hS g0 _ = _
    rw [eR, eS]; exact f5
  · rw [eC 5 (by omega) (by omega), eC 5 (by omega) (by omega), eC 5 (by omega) (by omega), eC 5 (by omega) (by omega), eC 5 (by omega) (by omega)]; exact f6
  · rw [eC 17 (by omega) (by omega), eC 18 (by omega) (by omega), eC 19 (by omega) (by omega)]; exact f7 j
/-- promise 3 -/
theorem o_pool (H : Ok L xs h) (r k d u : Int32) {F : Int32 → xH → Prop} (hF : Nx L xs (p_M_pool (12, 0) r k d u) F) : p_T_pool (11, 0) r k d u h F := by
  obtain ⟨nr, nt, i⟩ := H
  have hnr := i.vc.1
  have e0 : (0 : Int32).toInt = 0 := rfl
  have e3 : (3 : Int32).toInt = 3 := rfl
  unfold p_T_pool
  refine ⟨rfl, w_findRace i (fun hno => ⟨fun z => absurd rfl z, fun _ => hF _ _ i.vs (fun G hG => ?_)⟩) (fun j hj e => ⟨fun _ => ?_, fun z => absurd z (nz 5 j)⟩)⟩
  · unfold p_M_pool
    exact ⟨rfl, w_isRace i.md (fun _ => ⟨fun z => absurd rfl z, fun _ => hG h ⟨nr, nt, i⟩⟩) (fun j hj e => absurd e (hno j hj))⟩
  subst e
  have no : ¬ (0 ≤ k.toInt ∧ k.toInt ≤ 3) → F (-3) h := fun c => hF _ _ i.vs (fun G hG => by
    unfold p_M_pool
    exact ⟨rfl, w_isRace i.md (fun c => absurd rfl (c j hj)) (fun _ _ _ => ⟨fun _ => w_in (fun _ => ⟨fun _ => hG h ⟨nr, nt, i⟩, fun z => absurd rfl z⟩) (fun c2 => absurd c2 c), fun z => absurd z (by decide)⟩)⟩)
  refine ⟨fun c => no (by rw [ti_lt, e0] at c; omega), fun c => ⟨fun c2 => no (by rw [ti_lt, e3] at c2; omega), fun c2 => w_terms (fun t => ⟨fun z => absurd rfl z, fun _ => hF _ _ i.vs (fun G hG => ?_)⟩) (fun t => ⟨fun _ => ?_, fun z => absurd z (by decide)⟩)⟩⟩
  · unfold p_M_pool
    refine ⟨rfl, w_isRace i.md (fun c => absurd rfl (c j hj)) (fun _ _ _ => ⟨fun _ => w_in (fun c3 => ?_) (fun _ => ⟨fun z => absurd z (by decide), fun _ => w_mterms (fun _ => ⟨fun z => absurd rfl z, fun _ => hG h ⟨nr, nt, i⟩⟩) (fun y => absurd y t)⟩), fun z => absurd z (by decide)⟩)⟩
    rw [ti_lt, e0] at c; rw [ti_lt, e3] at c2; rw [e0, e3] at c3; omega
  have hk : 0 ≤ k.toInt ∧ k.toInt ≤ 3 := by
    rw [ti_lt, e0] at c; rw [ti_lt, e3] at c2; omega
  obtain ⟨kk, hkk, rfl⟩ : ∃ q, q ≤ 3 ∧ k = nI q := ⟨k.toInt.toNat, by omega, by rw [ti_eq, ti_n (by omega)]; omega⟩
  obtain ⟨d', u', rfl, rfl, d1, u1, u2⟩ := tms_n t
  have vr := i.vr.1 j hj
  unfold p_T_poolNumber
  rw [ix4]
  have mh : ∀ (G : Int32 → xH → Prop) (g : xH), Md (hS g) (hR g) nr nt (hI g) → (∀ q j, 34 ≤ q → hI g (q, 0) j = hI h (q, 0) j) → ((hI h (40, 0) (4 * j + kk) = 0 → ((hI h (35, 0) j = 0 → p_M_tellPool (12, 0) (nI (4 * j + kk)) (nI d') (nI u') g (fun h19 : xH => G (nI (4 * j + kk)) h19)) ∧ (¬ hI h (35, 0) j = 0 → G (-6 : Int32) g))) ∧ (¬ hI h (40, 0) (4 * j + kk) = 0 → G (-4 : Int32) g)) → p_M_pool (12, 0) (nI j) (nI kk) (nI d') (nI u') g G := by
    intro G g dg og q
    unfold p_M_pool
    refine ⟨rfl, w_isRace dg (fun c => absurd rfl (c j hj)) (fun _ _ _ => ⟨fun _ => w_in (fun c3 => absurd ?_ c3) (fun _ => ⟨fun z => absurd z (by decide), fun _ => w_mterms (fun y => absurd t y) (fun _ => ⟨fun _ w hw => ?_, fun z => absurd z (by decide)⟩)⟩), fun z => absurd z (by decide)⟩)⟩
    · rw [e0, e3]; exact hk
    · rw [ix4] at hw
      rw [hw, mR6 dg.1, mS6 dg.1, mR1 dg.1, mS1 dg.1, cl_n (by omega), cl_n (by omega), og 40 _ (by omega), og 35 _ (by omega)]
      exact ⟨rfl, in_n (by omega) (by omega), fun z => ⟨rfl, in_n (by omega) (by omega), q.1 z⟩, q.2⟩
  show _ ∧ _
  rw [xR_11_0_1 i.x, xS_28_0 i.x, cl_n (by omega), vr.2.1]
  refine ⟨rfl, in_n (by omega) (by omega), ?_⟩
  rcases i.sp (4 * j + kk) (by omega) with z | z
  · rw [z.2.1]
    exact ⟨fun y => absurd y (by simp), fun _ => hF _ _ i.vs (fun G hG => mh G h i.md (fun _ _ _ => rfl) ⟨fun y => absurd (y.symm.trans z.1) (by decide), fun _ => hG h ⟨nr, nt, i⟩⟩)⟩
  · rw [z.2.1]
    refine ⟨fun _ => ⟨rfl, fun c3 => w_newp i (by omega) (by omega) z.1 (fun h3 P => hF _ _ (PoN.vs i P) (fun G hG => mh G h3 (PoN.md i P) (fun q j hq => PoN.mI P q j (Or.inl hq)) ⟨fun _ => ⟨fun _ => w_tell (PoN.md i P).1 (by omega) (hG _ ⟨nr, nt, ?_⟩), fun y => absurd c3 y⟩, fun y => absurd z.1 y⟩)), fun c3 => hF _ _ i.vs (fun G hG => mh G h i.md (fun _ _ _ => rfl) ⟨fun _ => ⟨fun y => absurd y c3, fun _ => hG h ⟨nr, nt, i⟩⟩, fun y => absurd z.1 y⟩)⟩, fun y => absurd rfl y⟩
    exact told i P (by omega) (by unfold kf; rw [if_neg (by omega)]; omega) z.1 d1 u1 u2 hj hj c3 (fun _ => by omega) (fun e => by omega) (Or.inl ⟨by omega, rfl⟩)
/-- promise 4 -/
theorem o_twin (H : Ok L xs h) (r r' d u : Int32) {F : Int32 → xH → Prop} (hF : Nx L xs (p_M_twin (12, 0) r r' d u) F) : p_T_twin (11, 0) r r' d u h F := by
  obtain ⟨nr, nt, i⟩ := H
  have hnr := i.vc.1
  unfold p_T_twin
  refine ⟨rfl, w_findRace i (fun hno => w_findRace i (fun _ => ?_) (fun _ _ _ => ?_)) (fun j hj e => w_findRace i (fun hno => ?_) (fun j' hj' e' => ?_))⟩
  · refine ⟨fun _ => hF _ _ i.vs (fun G hG => ?_), fun z => absurd rfl z⟩
    unfold p_M_twin
    exact ⟨rfl, w_isRace i.md (fun _ => ⟨fun _ => hG h ⟨nr, nt, i⟩, fun z => absurd rfl z⟩) (fun j hj e => absurd e (hno j hj))⟩
  · refine ⟨fun _ => hF _ _ i.vs (fun G hG => ?_), fun z => absurd rfl z⟩
    unfold p_M_twin
    exact ⟨rfl, w_isRace i.md (fun _ => ⟨fun _ => hG h ⟨nr, nt, i⟩, fun z => absurd rfl z⟩) (fun j hj e => absurd e (hno j hj))⟩
  · refine ⟨fun z => absurd z (nz 5 j), fun _ => ⟨fun z => absurd rfl z, fun _ => hF _ _ i.vs (fun G hG => ?_)⟩⟩
    unfold p_M_twin
    exact ⟨rfl, w_isRace i.md (fun c => absurd e (c j hj)) (fun _ _ _ => ⟨fun z => absurd z (by decide), fun _ => w_isRace i.md (fun _ => ⟨fun z => absurd rfl z, fun _ => hG h ⟨nr, nt, i⟩⟩) (fun j hj e => absurd e (hno j hj))⟩)⟩
  subst e; subst e'
  refine ⟨fun z => absurd z (nz 5 j), fun _ => ⟨fun _ => ?_, fun z => absurd z (nz 5 j')⟩⟩
  have mh0 : ∀ (G : Int32 → xH → Prop) (g : xH), Md (hS g) (hR g) nr nt (hI g) → ((nI j' ≤ nI j → G (-3) g) ∧ (¬ nI j' ≤ nI j → p_M_areTerms d u g (fun (v10 : Int32) (h9 : xH) => ((¬ v10 = 0 → (kd (hR h9 (12, 0) 6).1 = (3, 0)) ∧ (vp_in (48 : Int32) (hS h9 (hR h9 (12, 0) 6) - 1)) ∧ (((hI h9 (hR h9 (12, 0) 6) (48 : Int32).toNatClampNeg) = 0 → (kd (hR h9 (12, 0) 1).1 = (2, 0)) ∧ (vp_in (nI j) (hS h9 (hR h9 (12, 0) 1) - 1)) ∧ ((¬ (hI h9 (hR h9 (12, 0) 1) (nI j).toNatClampNeg) = 0 → G (-6 : Int32) h9) ∧ ((hI h9 (hR h9 (12, 0) 1) (nI j).toNatClampNeg) = 0 → (vp_in (nI j') (hS h9 (hR h9 (12, 0) 1) - 1)) ∧ (((hI h9 (hR h9 (12, 0) 1) (nI j').toNatClampNeg) = 0 → ∀ h20 : xH, h20 = sI h9 (12, 0) 10 (nI j) → ∀ h22 : xH, h22 = sI h20 (12, 0) 11 (nI j') → p_M_tellPool (12, 0) (48 : Int32) d u h22 (fun h24 : xH => G (48 : Int32) h24)) ∧ (¬ (hI h9 (hR h9 (12, 0) 1) (nI j').toNatClampNeg) = 0 → G (-6 : Int32) h9))))) ∧ (¬ (hI h9 (hR h9 (12, 0) 6) (48 : Int32).toNatClampNeg) = 0 → G (-4 : Int32) h9))) ∧ (v10 = 0 → G (-3 : Int32) h9))))) → p_M_twin (12, 0) (nI j) (nI j') d u g G := by
    intro G g dg q
    unfold p_M_twin
    exact ⟨rfl, w_isRace dg (fun c => absurd rfl (c j hj)) (fun _ _ _ => ⟨fun z => absurd z (by decide), fun _ => w_isRace dg (fun c => absurd rfl (c j' hj')) (fun _ _ _ => ⟨fun _ => q, fun z => absurd z (by decide)⟩)⟩)⟩
  refine ⟨fun c => hF _ _ i.vs (fun G hG => mh0 G h i.md ⟨fun _ => hG h ⟨nr, nt, i⟩, fun y => absurd c y⟩), fun c => w_terms (fun t => ⟨fun z => absurd rfl z, fun _ => hF _ _ i.vs (fun G hG => mh0 G h i.md ⟨fun y => absurd y c, fun _ => w_mterms (fun _ => ⟨fun z => absurd rfl z, fun _ => hG h ⟨nr, nt, i⟩⟩) (fun y => absurd y t)⟩)⟩) (fun t => ⟨fun _ => ?_, fun z => absurd z (by decide)⟩)⟩
  obtain ⟨d', u', rfl, rfl, d1, u1, u2⟩ := tms_n t
  have hlt : j < j' := by rw [le_nn (by omega) (by omega)] at c; omega
  have vr := i.vr.1 j hj
  have vr' := i.vr.1 j' hj'
  have c48 : (48 : Int32).toNatClampNeg = 48 := rfl
  have mh : ∀ (G : Int32 → xH → Prop) (g : xH), Md (hS g) (hR g) nr nt (hI g) → (∀ q j, 34 ≤ q → hI g (q, 0) j = hI h (q, 0) j) → ((hI h (40, 0) 48 = 0 → ((¬ hI h (35, 0) j = 0 → G (-6) g) ∧ (hI h (35, 0) j = 0 → ((hI h (35, 0) j' = 0 → p_M_tellPool (12, 0) (nI 48) (nI d') (nI u') (sI (sI g (12, 0) 10 (nI j)) (12, 0) 11 (nI j')) (fun h19 : xH => G 48 h19)) ∧ (¬ hI h (35, 0) j' = 0 → G (-6 : Int32) g))))) ∧ (¬ hI h (40, 0) 48 = 0 → G (-4 : Int32) g)) → p_M_twin (12, 0) (nI j) (nI j') (nI d') (nI u') g G := by
    intro G g dg og q
    refine mh0 G g dg ⟨fun y => absurd y c, fun _ => w_mterms (fun y => absurd t y) (fun _ => ⟨fun _ => ?_, fun z => absurd z (by decide)⟩)⟩
    rw [mR6 dg.1, mS6 dg.1, mR1 dg.1, mS1 dg.1, c48, cl_n (by omega), cl_n (by omega), og 40 _ (by omega), og 35 _ (by omega), og 35 _ (by omega)]
    refine ⟨rfl, in_n (j := 48) (by omega) (by omega), fun z => ⟨rfl, in_n (by omega) (by omega), (q.1 z).1, fun y => ⟨in_n (by omega) (by omega), fun x h20 q20 h22 q22 => ?_, ((q.1 z).2 y).2⟩⟩, q.2⟩
    rw [q22, q20]; exact ((q.1 z).2 y).1 x
  rw [xR_11_0_1 i.x, xS_28_0 i.x, c48, vr.2.1, vr'.2.1]
  refine ⟨rfl, in_n (j := 48) (by omega) (by omega), ?_⟩
  rcases i.sp 48 (by omega) with z | z
  · rw [z.2.1]
    exact ⟨fun y => absurd y (by simp), fun _ => hF _ _ i.vs (fun G hG => mh G h i.md (fun _ _ _ => rfl) ⟨fun y => absurd (y.symm.trans z.1) (by decide), fun _ => hG h ⟨nr, nt, i⟩⟩)⟩
  · rw [z.2.1]
    refine ⟨fun _ => ⟨rfl, fun c3 => hF _ _ i.vs (fun G hG => mh G h i.md (fun _ _ _ => rfl) ⟨fun _ => ⟨fun _ => hG h ⟨nr, nt, i⟩, fun y => absurd y c3⟩, fun y => absurd z.1 y⟩), fun c3 => ⟨rfl, fun c4 => w_newp (p := 48) (k := 4) i (by omega) (by omega) z.1 (fun h3 P => hF _ _ (PoN.vs i P) (fun G hG => mh G h3 (PoN.md i P) (fun q j hq => PoN.mI P q j (Or.inl hq)) ⟨fun _ => ⟨fun y => absurd c3 y, fun _ => ⟨fun _ => w_tell (g := sI (sI h3 (12, 0) 10 (nI j)) (12, 0) 11 (nI j')) (PoN.md i P).1 (by omega) (hG _ ⟨nr, nt, ?_⟩), fun y => absurd c4 y⟩⟩, fun y => absurd z.1 y⟩)), fun c4 => hF _ _ i.vs (fun G hG => mh G h i.md (fun _ _ _ => rfl) ⟨fun _ => ⟨fun y => absurd c3 y, fun _ => ⟨fun y => absurd y c4, fun _ => hG h ⟨nr, nt, i⟩⟩⟩, fun y => absurd z.1 y⟩)⟩⟩, fun y => absurd rfl y⟩
    exact told i P (by omega) rfl z.1 d1 u1 u2 hj hj' c3 (fun e => absurd rfl e) (fun _ => hlt) (Or.inr ⟨rfl, rfl⟩)
end Pool
