section Takers
variable {h h0 g : xH} {p : Nat} {U : Nat → Nat}
/-- a pool as the settlement sees it -/
def PH (h : xH) (p : Nat) (U : Nat → Nat) : Prop := hI h (5, p) 1 = nI (kf p) ∧ hR h (5, p) 6 = (17, p) ∧ hS h (17, p) = lls p + 1 ∧ (∀ l, l < lls p → hI h (17, p) l = nI (U l)) ∧ hR h (8, 0) 0 = (24, 0) ∧ hR h (8, 0) 1 = (25, 0) ∧ hS h (24, 0) = 201 ∧ hS h (25, 0) = 201
def TK (h : xH) (n : Nat) (ln : Nat → Nat) : Prop := hI h (8, 0) 2 = nI n ∧ ∀ i, i < n → hI h (24, 0) i = nI (ln i)
def K8 : xN → Nat → Prop := fun n j => (n = (8, 0) ∧ j = 2) ∨ n = (24, 0)
def STk (h0 h : xH) (p : Nat) (U : Nat → Nat) (V : Nat → Prop) : Prop := Sm K8 h0 h ∧ ∃ n ln, TK h n ln ∧ En ln n (lls p) (fun l => V l ∧ 0 < U l)
/-- what bounds the pool's numbers -/
def UB (p : Nat) (U : Nat → Nat) : Prop := (∀ l, U l ≤ 200000) ∧ ∀ ln n S, En ln n (lls p) S → (∀ l, l < lls p → S l → 0 < U l) → n ≤ 200
theorem STk.congr {V V' : Nat → Prop} (s : STk h0 h p U V) (e : ∀ l, l < lls p → (V l ↔ V' l)) : STk h0 h p U V' := by
  obtain ⟨S, n, ln, t, en⟩ := s
  exact ⟨S, n, ln, t, en.congr (fun l hl => by rw [e l hl])⟩
theorem PH.fr (P : PH h0 p U) (s : Sm K8 h0 h) : PH h p U := by
  have o : ∀ n j, n.1 ≠ 8 → n.1 ≠ 24 → hI h n j = hI h0 n j := fun n j h1 h2 => s.1 n j (fun z => by rcases z with z | z <;> simp [z] at h1 h2)
  unfold PH
  rw [s.2.1, s.2.2, o (5, p) 1 (by simp) (by simp)]
  exact ⟨P.1, P.2.1, P.2.2.1, fun l hl => by rw [o _ _ (by simp) (by simp)]; exact P.2.2.2.1 l hl, P.2.2.2.2⟩
theorem w_indexOf {n : Nat} {ln : Nat → Nat} (r0 : hR h (8, 0) 0 = (24, 0)) (s24 : hS h (24, 0) = 201) (t : TK h n ln) (hn : n ≤ 200) (hl : ∀ i, i < n → ln i < 3000) {l : Nat} (hl2 : l < 3000) {Q : Int32 → xH → Prop} (no : (∀ i, i < n → ln i ≠ l) → Q (-1) h) (yes : ∀ i, i < n → ln i = l → Q (nI i) h) : p_Se_indexOf (8, 0) (nI l) h Q := by
  unfold p_Se_indexOf
  refine ⟨n + 1, ?_⟩
  have key : ∀ (m a : Nat), a + m = n → (∀ i, i < a → ln i ≠ l) → p_Se_indexOf_L2 (8, 0) (nI l) (fun h => Q (-1) h) Q (m + 1) (nI a) h := by
    intro m
    induction m with
    | zero =>
      intro a ha z
      unfold p_Se_indexOf_L2
      rw [t.1]
      exact ⟨rfl, fun _ => no (fun i hi => z i (by omega)), fun c => absurd (by rw [le_nn (by omega) (by omega)]; omega) c⟩
    | succ m ih =>
      intro a ha z
      unfold p_Se_indexOf_L2
      have := hl a (by omega)
      rw [t.1, r0, s24, cl_n (by omega), t.2 a (by omega), nI_inj (by omega) (by omega)]
      refine ⟨rfl, fun c => ?_, fun _ => ⟨rfl, in_n (by omega) (by omega), fun c x hx => ?_, fun c => yes a (by omega) c⟩⟩
      · rw [le_nn (by omega) (by omega)] at c; omega
      · rw [hx, nI_1]
        exact ih (a + 1) (by omega) (fun i hi => if e : i = a then by rw [e]; exact c else z i (by omega))
  exact key n 0 (by omega) (fun i hi => by omega)
theorem w_take {V : Nat → Prop} (P : PH h0 p U) (B : UB p U) (s : STk h0 h p U V) {a b c : Nat} (ha : a ≤ 12) (hb : b ≤ 12) (hc : c ≤ 12) {Q : xH → Prop} (q : ∀ h', STk h0 h' p U (fun l => V l ∨ l = lin2 (kf p) a b c) → Q h') : p_Se_take (8, 0) (5, p) (nI a) (nI b) (nI c) h Q := by
  obtain ⟨S, n, ln, t, en⟩ := s
  have P' := P.fr S
  obtain ⟨e1, r6, s17, e17, r0, r1, s24, s25⟩ := P'
  have l1 := lin2_lt (p := p) ha hb hc
  have l2 := lls_le (p := p)
  have hU := B.1 (lin2 (kf p) a b c)
  have hn : n ≤ 200 := B.2 ln n _ en (fun l _ z => z.2)
  unfold p_Se_take
  refine ⟨rfl, w_lineOf (k := kf p) rfl kf_le e1 ha hb ?_⟩
  generalize hl : lin2 (kf p) a b c = l at *
  have l0 : nI (U l) ≤ (0 : Int32) ↔ U l = 0 := (le_nn (b := 0) (by omega) (by omega)).trans (by omega)
  rw [r6, s17, cl_n (by omega), e17 l l1, l0]
  refine ⟨rfl, in_n (by omega) (by omega), fun z => q h ⟨S, n, ln, t, en.congr (fun l' _ => ⟨fun y => ⟨Or.inl y.1, y.2⟩, fun y => ⟨y.1.elim id (fun e => by rw [e, z] at y; omega), y.2⟩⟩)⟩, fun z => ⟨rfl, w_indexOf r0 s24 t hn (fun i hi => by have := (en.1 i hi).1; omega) (by omega) (fun z2 => ⟨fun y => absurd rfl y, fun _ => ?_⟩) (fun i hi z2 => ⟨fun _ => q h ⟨S, n, ln, t, en.congr (fun l' _ => ⟨fun y => ⟨Or.inl y.1, y.2⟩, fun y => ⟨y.1.elim id (fun e => by rw [e, ← z2]; exact (en.1 i hi).2.1), y.2⟩⟩)⟩, fun y => absurd y (n_neg (by omega))⟩)⟩⟩
  have ens : En (fun i => if i = n then l else ln i) (n + 1) (lls p) (fun l' => (V l' ∨ l' = l) ∧ 0 < U l') := en.snoc l1 (fun y => by
    obtain ⟨i, hi, ei⟩ := en.2.2 l l1 y
    exact z2 i hi ei) (fun l' _ => ⟨fun y => y.1.elim (fun v => Or.inl ⟨v, y.2⟩) (fun e => Or.inr e), fun y => y.elim (fun v => ⟨Or.inl v.1, v.2⟩) (fun e => ⟨Or.inr e, by rw [e]; omega⟩)⟩) (if_pos rfl) (fun i hi => if_neg (by omega))
  have hn1 : n + 1 ≤ 200 := B.2 _ (n + 1) _ ens (fun l _ z => z.2)
  rw [t.1, r0, s24, cl_n (by omega)]
  refine ⟨fun y => ?_, fun _ => ⟨rfl, in_n (by omega) (by omega), fun h14 q14 h16 q16 => ?_⟩⟩
  · rw [ti_le, ti_n (by omega), show (200 : Int32).toInt = 200 from rfl] at y; omega
  · have e14 : hI h14 (8, 0) 2 = nI n := by rw [q14, hI_sI, if_neg (by simp)]; exact t.1
    rw [e14, nI_1] at q16
    refine q h16 ⟨?_, n + 1, _, ⟨by rw [q16, hI_sI, if_pos ⟨rfl, rfl⟩], fun i hi => ?_⟩, ens⟩
    · rw [q16, q14]; exact (S.si _ (Or.inr rfl)).si _ (Or.inl ⟨rfl, rfl⟩)
    · rw [q16, hI_sI, if_neg (by simp), q14, hI_sI]
      by_cases e : i = n
      · rw [if_pos ⟨rfl, e⟩, if_pos e]
      · rw [if_neg (fun y => e y.2), if_neg e]; exact t.2 i (by omega)
/-- a finish -/
def FiH (h : xH) (f cnt : Nat) (ru ps : Nat → Nat) : Prop := hI h (4, f) 2 = nI cnt ∧ cnt ≤ 12 ∧ hR h (4, f) 0 = (15, f) ∧ hR h (4, f) 1 = (16, f) ∧ hS h (15, f) = 13 ∧ hS h (16, f) = 13 ∧ ∀ i, i < cnt → hI h (15, f) i = nI (ru i) ∧ hI h (16, f) i = nI (ps i) ∧ ru i ≤ 12 ∧ ps i ≤ 12
theorem FiH.fr {f cnt : Nat} {ru ps : Nat → Nat} (P : FiH h0 f cnt ru ps) (s : Sm K8 h0 h) : FiH h f cnt ru ps := by
  have o : ∀ n j, n.1 ≠ 8 → n.1 ≠ 24 → hI h n j = hI h0 n j := fun n j h1 h2 => s.1 n j (fun z => by rcases z with z | z <;> simp [z] at h1 h2)
  unfold FiH
  rw [s.2.1, s.2.2, o (4, f) 2 (by simp) (by simp)]
  refine ⟨P.1, P.2.1, P.2.2.1, P.2.2.2.1, P.2.2.2.2.1, P.2.2.2.2.2.1, fun i hi => ?_⟩
  rw [o _ _ (by simp) (by simp), o _ _ (by simp) (by simp)]
  exact P.2.2.2.2.2.2 i hi
def nx (cnt : Nat) (ps : Nat → Nat) (i : Nat) (jj kk : Int32) : Prop := (∀ o, o < cnt → nI o ≠ jj → nI o ≠ kk → ps i ≤ ps o) ∧ nI i ≠ jj ∧ nI i ≠ kk
theorem w_isNext {f cnt i : Nat} {ru ps : Nat → Nat} (F : FiH h f cnt ru ps) (hi : i < cnt) {jj kk : Int32} {Q : Int32 → xH → Prop} (no : ¬ nx cnt ps i jj kk → Q 0 h) (yes : nx cnt ps i jj kk → Q 1 h) : p_F_isNext (4, f) (nI i) jj kk h Q := by
  obtain ⟨e2, c12, r0, r1, s15, s16, ev⟩ := F
  unfold p_F_isNext
  refine ⟨cnt + 1, ?_⟩
  have key : ∀ (m a : Nat), a + m = cnt → (∀ o, o < a → nI o ≠ jj → nI o ≠ kk → ps i ≤ ps o) → p_F_isNext_L3 (4, f) (nI i) jj kk (fun (h15 : xH) => ((nI i = jj → Q (0 : Int32) h15) ∧ (¬ nI i = jj → ((nI i = kk → Q (0 : Int32) h15) ∧ (¬ nI i = kk → Q (1 : Int32) h15))))) Q (m + 1) (nI a) h := by
    intro m
    induction m with
    | zero =>
      intro a ha z
      unfold p_F_isNext_L3
      rw [e2]
      refine ⟨rfl, fun _ => ⟨fun y => no (fun x => x.2.1 y), fun y => ⟨fun w => no (fun x => x.2.2 w), fun w => yes ⟨fun o ho => z o (by omega), y, w⟩⟩⟩, fun c => absurd (by rw [le_nn (by omega) (by omega)]; omega) c⟩
    | succ m ih =>
      intro a ha z
      have ea := ev a (by omega)
      have ei := ev i hi
      unfold p_F_isNext_L3
      rw [e2, r1, s16, cl_n (by omega), cl_n (by omega), ea.2.1, ei.2.1, le_nn (a := ps i) (b := ps a) (by omega) (by omega)]
      have nxt : (nI a = jj ∨ nI a = kk ∨ ps i ≤ ps a) → ∀ x, x = nI a + 1 → p_F_isNext_L3 (4, f) (nI i) jj kk (fun (h15 : xH) => ((nI i = jj → Q (0 : Int32) h15) ∧ (¬ nI i = jj → ((nI i = kk → Q (0 : Int32) h15) ∧ (¬ nI i = kk → Q (1 : Int32) h15))))) Q (m + 1) x h := fun y x hx => by
        rw [hx, nI_1]
        refine ih (a + 1) (by omega) (fun o ho n1 n2 => ?_)
        by_cases e : o = a
        · subst e; exact (y.resolve_left n1).resolve_left n2
        · exact z o (by omega) n1 n2
      refine ⟨rfl, fun c => ?_, fun _ => ⟨fun y => nxt (Or.inl y), fun y => ⟨fun w => nxt (Or.inr (Or.inl w)), fun w => ⟨rfl, in_n (by omega) (by omega), in_n (by omega) (by omega), fun u => nxt (Or.inr (Or.inr u)), fun u => no (fun x => u (x.1 a (by omega) y w))⟩⟩⟩⟩
      rw [le_nn (by omega) (by omega)] at c; omega
  exact key cnt 0 (by omega) (fun o ho => by omega)
section Rows
variable {f cnt : Nat} {ru ps : Nat → Nat}
def B3 (cnt : Nat) (ru ps : Nat → Nat) (k i j l : Nat) : Prop := ∃ q, q < cnt ∧ nx cnt ps q (nI i) (nI j) ∧ l = lin2 k (ru i) (ru j) (ru q)
def B2 (cnt : Nat) (ru ps : Nat → Nat) (k i j l : Nat) : Prop := nx cnt ps j (nI i) (-1) ∧ (if k = 2 then l = lin2 k (ru i) (ru j) 0 else B3 cnt ru ps k i j l)
def B1 (cnt : Nat) (ru ps : Nat → Nat) (k i l : Nat) : Prop := nx cnt ps i (-1) (-1) ∧ (if k = 0 then l = lin2 k (ru i) 0 0 else ∃ j, j < cnt ∧ B2 cnt ru ps k i j l)
theorem w_L105 (P : PH h0 p U) (B : UB p U) (F : FiH h0 f cnt ru ps) {i j : Nat} (hi : i < cnt) (hj : j < cnt) {K : xH → Prop} {Q : xH → Prop} : ∀ (m a : Nat) (h : xH) (V : Nat → Prop), a + m = cnt → STk h0 h p U V → (∀ h', STk h0 h' p U (fun l => V l ∨ ∃ q, a ≤ q ∧ q < cnt ∧ nx cnt ps q (nI i) (nI j) ∧ l = lin2 (kf p) (ru i) (ru j) (ru q)) → K h') → p_Se_takeRows_L105 (8, 0) (5, p) (4, f) (nI i) (nI j) K Q (m + 1) (nI a) h := by
  intro m
  induction m with
  | zero =>
    intro a h V ha st k
    have F' := F.fr st.1
    unfold p_Se_takeRows_L105
    rw [F'.1]
    refine ⟨rfl, fun _ => k h (st.congr (fun l _ => ⟨Or.inl, fun z => z.elim id (fun ⟨q, q1, q2, _⟩ => by omega)⟩)), fun c => absurd (by rw [le_nn (by have := F'.2.1; omega) (by have := F'.2.1; omega)]; omega) c⟩
  | succ m ih =>
    intro a h V ha st k
    have F' := F.fr st.1
    have c12 := F'.2.1
    have ei := F'.2.2.2.2.2.2 i hi
    have ej := F'.2.2.2.2.2.2 j hj
    have ea := F'.2.2.2.2.2.2 a (by omega)
    unfold p_Se_takeRows_L105
    rw [F'.1]
    refine ⟨rfl, fun c => ?_, fun _ => w_isNext F' (by omega) (fun no => ⟨fun _ x hx => ?_, fun z => absurd rfl z⟩) (fun yes => ⟨fun z => absurd z (by decide), fun _ => ?_⟩)⟩
    · rw [le_nn (by omega) (by omega)] at c; omega
    · rw [hx, nI_1]
      refine ih (a + 1) h V (by omega) st (fun h' st' => k h' (st'.congr (fun l _ => ⟨fun z => z.imp id (fun ⟨q, q1, q2⟩ => ⟨q, by omega, q2⟩), fun z => z.imp id (fun ⟨q, q1, q2, q3⟩ => ⟨q, ?_, q2, q3⟩)⟩)))
      have : q ≠ a := fun e => no (by rw [← e]; exact q3.1)
      omega
    · rw [F'.2.2.1, F'.2.2.2.2.1, cl_n (by omega), cl_n (by omega), cl_n (by omega), ei.1, ej.1, ea.1]
      refine ⟨rfl, in_n (by omega) (by omega), in_n (by omega) (by omega), in_n (by omega) (by omega), rfl, w_take P B st ei.2.2.1 ej.2.2.1 ea.2.2.1 (fun h' st' x hx => ?_)⟩
      rw [hx, nI_1]
      refine ih (a + 1) h' _ (by omega) st' (fun h2 st2 => k h2 (st2.congr (fun l _ => ⟨fun z => ?_, fun z => ?_⟩)))
      · rcases z with (z | z) | ⟨q, q1, q2⟩
        · exact Or.inl z
        · exact Or.inr ⟨a, by omega, by omega, yes, z⟩
        · exact Or.inr ⟨q, by omega, q2⟩
      · rcases z with z | ⟨q, q1, q2, q3, q4⟩
        · exact Or.inl (Or.inl z)
        · by_cases e : q = a
          · exact Or.inl (Or.inr (by rw [q4, e]))
          · exact Or.inr ⟨q, by omega, q2, q3, q4⟩
theorem w_L49 (P : PH h0 p U) (B : UB p U) (F : FiH h0 f cnt ru ps) (k23 : kf p = 2 ∨ kf p = 3) {i : Nat} (hi : i < cnt) {K : xH → Prop} {Q : xH → Prop} : ∀ (m a : Nat) (h : xH) (V : Nat → Prop), a + m = cnt → STk h0 h p U V → (∀ h', STk h0 h' p U (fun l => V l ∨ ∃ j, a ≤ j ∧ j < cnt ∧ B2 cnt ru ps (kf p) i j l) → K h') → p_Se_takeRows_L49 (8, 0) (5, p) (4, f) (nI i) K Q (m + 1) (nI a) h := by
  intro m
  induction m with
  | zero =>
    intro a h V ha st k
    have F' := F.fr st.1
    unfold p_Se_takeRows_L49
    rw [F'.1]
    refine ⟨rfl, fun _ => k h (st.congr (fun l _ => ⟨Or.inl, fun z => z.elim id (fun ⟨q, q1, q2, _⟩ => by omega)⟩)), fun c => absurd (by rw [le_nn (by have := F'.2.1; omega) (by have := F'.2.1; omega)]; omega) c⟩
  | succ m ih =>
    intro a h V ha st k
    have F' := F.fr st.1
    have P' := P.fr st.1
    have c12 := F'.2.1
    have ei := F'.2.2.2.2.2.2 i hi
    have ea := F'.2.2.2.2.2.2 a (by omega)
    have n2 : nI (kf p) = (2 : Int32) ↔ kf p = 2 := nI_inj (b := 2) (by have := kf_le (p := p); omega) (by omega)
    have nxt : ∀ h' V', STk h0 h' p U V' → (∀ l, l < lls p → (V' l ↔ (V l ∨ B2 cnt ru ps (kf p) i a l))) → p_Se_takeRows_L49 (8, 0) (5, p) (4, f) (nI i) K Q (m + 1) (nI (a + 1)) h' := fun h' V' st' eV => by
      refine ih (a + 1) h' V' (by omega) st' (fun h2 st2 => k h2 (st2.congr (fun l hl => ⟨fun z => ?_, fun z => ?_⟩)))
      · rcases z with z | ⟨q, q1, q2⟩
        · rcases (eV l hl).mp z with z | z
          · exact Or.inl z
          · exact Or.inr ⟨a, by omega, by omega, z⟩
        · exact Or.inr ⟨q, by omega, q2⟩
      · rcases z with z | ⟨q, q1, q2, q3⟩
        · exact Or.inl ((eV l hl).mpr (Or.inl z))
        · by_cases e : q = a
          · exact Or.inl ((eV l hl).mpr (Or.inr (by rw [← e]; exact q3)))
          · exact Or.inr ⟨q, by omega, q2, q3⟩
    unfold p_Se_takeRows_L49
    rw [F'.1]
    refine ⟨rfl, fun c => ?_, fun _ => w_isNext F' (by omega) (fun no => ⟨fun z => absurd rfl z, fun _ x hx => ?_⟩) (fun yes => ⟨fun _ => ⟨rfl, ?_⟩, fun z => absurd z (by decide)⟩)⟩
    · rw [le_nn (by omega) (by omega)] at c; omega
    · rw [hx, nI_1]
      exact nxt h V st (fun l _ => ⟨Or.inl, fun z => z.elim id (fun z => absurd z.1 no)⟩)
    · rw [P'.1, n2]
      refine ⟨fun z => ⟨cnt + 1, ?_⟩, fun z => ?_⟩
      · refine w_L105 P B F hi (by omega) cnt 0 h V (by omega) st (fun h' st' x hx => ?_)
        rw [hx, nI_1]
        refine nxt h' _ st' (fun l _ => ?_)
        unfold B2 B3
        rw [if_neg z]
        exact ⟨fun y => y.imp id (fun ⟨q, _, q2⟩ => ⟨yes, q, q2⟩), fun y => y.imp id (fun ⟨_, q, q2⟩ => ⟨q, by omega, q2⟩)⟩
      · rw [F'.2.2.1, F'.2.2.2.2.1, cl_n (by omega), cl_n (by omega), ei.1, ea.1]
        refine ⟨rfl, in_n (by omega) (by omega), in_n (by omega) (by omega), rfl, w_take (c := 0) P B st ei.2.2.1 ea.2.2.1 (by omega) (fun h' st' x hx => ?_)⟩
        rw [hx, nI_1]
        refine nxt h' _ st' (fun l _ => ?_)
        unfold B2
        rw [if_pos z]
        exact ⟨fun y => y.imp id (fun y => ⟨yes, y⟩), fun y => y.imp id (fun y => y.2)⟩
theorem w_takeRows (P : PH h0 p U) (B : UB p U) (F : FiH h0 f cnt ru ps) (k023 : kf p = 0 ∨ kf p = 2 ∨ kf p = 3) {V : Nat → Prop} (st : STk h0 h p U V) {Q : xH → Prop} (q : ∀ h', STk h0 h' p U (fun l => V l ∨ ∃ i, i < cnt ∧ B1 cnt ru ps (kf p) i l) → Q h') : p_Se_takeRows (8, 0) (5, p) (4, f) h Q := by
  unfold p_Se_takeRows
  have n0 : nI (kf p) = (0 : Int32) ↔ kf p = 0 := nI_inj (b := 0) (by have := kf_le (p := p); omega) (by omega)
  have key : ∀ (m a : Nat) (h : xH) (V : Nat → Prop), a + m = cnt → STk h0 h p U V → (∀ h', STk h0 h' p U (fun l => V l ∨ ∃ i, a ≤ i ∧ i < cnt ∧ B1 cnt ru ps (kf p) i l) → Q h') → p_Se_takeRows_L2 (8, 0) (5, p) (4, f) (fun h => Q h) Q (m + 1) (nI a) h := by
    intro m
    induction m with
    | zero =>
      intro a h V ha st k
      have F' := F.fr st.1
      unfold p_Se_takeRows_L2
      rw [F'.1]
      refine ⟨rfl, fun _ => k h (st.congr (fun l _ => ⟨Or.inl, fun z => z.elim id (fun ⟨q, q1, q2, _⟩ => by omega)⟩)), fun c => absurd (by rw [le_nn (by have := F'.2.1; omega) (by have := F'.2.1; omega)]; omega) c⟩
    | succ m ih =>
      intro a h V ha st k
      have F' := F.fr st.1
      have P' := P.fr st.1
      have c12 := F'.2.1
      have ea := F'.2.2.2.2.2.2 a (by omega)
      have nxt : ∀ h' V', STk h0 h' p U V' → (∀ l, l < lls p → (V' l ↔ (V l ∨ B1 cnt ru ps (kf p) a l))) → p_Se_takeRows_L2 (8, 0) (5, p) (4, f) (fun h => Q h) Q (m + 1) (nI (a + 1)) h' := fun h' V' st' eV => by
        refine ih (a + 1) h' V' (by omega) st' (fun h2 st2 => k h2 (st2.congr (fun l hl => ⟨fun z => ?_, fun z => ?_⟩)))
        · rcases z with z | ⟨q, q1, q2⟩
          · rcases (eV l hl).mp z with z | z
            · exact Or.inl z
            · exact Or.inr ⟨a, by omega, by omega, z⟩
          · exact Or.inr ⟨q, by omega, q2⟩
        · rcases z with z | ⟨q, q1, q2, q3⟩
          · exact Or.inl ((eV l hl).mpr (Or.inl z))
          · by_cases e : q = a
            · exact Or.inl ((eV l hl).mpr (Or.inr (by rw [← e]; exact q3)))
            · exact Or.inr ⟨q, by omega, q2, q3⟩
      unfold p_Se_takeRows_L2
      rw [F'.1]
      refine ⟨rfl, fun c => ?_, fun _ => w_isNext F' (by omega) (fun no => ⟨fun z => absurd rfl z, fun _ x hx => ?_⟩) (fun yes => ⟨fun _ => ⟨rfl, ?_⟩, fun z => absurd z (by decide)⟩)⟩
      · rw [le_nn (by omega) (by omega)] at c; omega
      · rw [hx, nI_1]
        exact nxt h V st (fun l _ => ⟨Or.inl, fun z => z.elim id (fun z => absurd z.1 no)⟩)
      · rw [P'.1, n0]
        refine ⟨fun z => ⟨cnt + 1, ?_⟩, fun z => ?_⟩
        · refine w_L49 P B F (by omega) (by omega) cnt 0 h V (by omega) st (fun h' st' x hx => ?_)
          rw [hx, nI_1]
          refine nxt h' _ st' (fun l _ => ?_)
          unfold B1
          rw [if_neg z]
          exact ⟨fun y => y.imp id (fun ⟨q, _, q2⟩ => ⟨yes, q, q2⟩), fun y => y.imp id (fun ⟨_, q, q2⟩ => ⟨q, by omega, q2⟩)⟩
        · rw [F'.2.2.1, F'.2.2.2.2.1, cl_n (by omega), ea.1]
          refine ⟨rfl, in_n (by omega) (by omega), rfl, w_take (b := 0) (c := 0) P B st ea.2.2.1 (by omega) (by omega) (fun h' st' x hx => ?_)⟩
          rw [hx, nI_1]
          refine nxt h' _ st' (fun l _ => ?_)
          unfold B1
          rw [if_pos z]
          exact ⟨fun y => y.imp id (fun y => ⟨yes, y⟩), fun y => y.imp id (fun y => y.2)⟩
  exact ⟨cnt + 1, key cnt 0 h V (by omega) st (fun h' st' => q h' (st'.congr (fun l _ => ⟨fun z => z.imp id (fun ⟨i, _, i2⟩ => ⟨i, i2⟩), fun z => z.imp id (fun ⟨i, i2⟩ => ⟨i, by omega, i2⟩)⟩)))⟩
theorem w_takePlaced (P : PH h0 p U) (B : UB p U) (F : FiH h0 f cnt ru ps) {rn : Nat} (rn12 : rn ≤ 12) (e3 : hI h0 (4, f) 3 = nI rn) {V : Nat → Prop} (st : STk h0 h p U V) {Q : xH → Prop} (q : ∀ h', STk h0 h' p U (fun l => V l ∨ ∃ i, i < cnt ∧ ps i ≤ (if rn < 8 then 2 else 3) ∧ l = lin2 (kf p) (ru i) 0 0) → Q h') : p_Se_takePlaced (8, 0) (5, p) (4, f) h Q := by
  have key : ∀ (la : Nat), la ≤ 3 → ∀ (m a : Nat) (h : xH) (V : Nat → Prop), a + m = cnt → STk h0 h p U V → (∀ h', STk h0 h' p U (fun l => V l ∨ ∃ i, a ≤ i ∧ i < cnt ∧ ps i ≤ la ∧ l = lin2 (kf p) (ru i) 0 0) → Q h') → p_Se_takePlaced_L18 (8, 0) (5, p) (4, f) (nI la) (fun h => Q h) Q (m + 1) (nI a) h := by
    intro la hla m
    induction m with
    | zero =>
      intro a h V ha st k
      have F' := F.fr st.1
      unfold p_Se_takePlaced_L18
      rw [F'.1]
      refine ⟨rfl, fun _ => k h (st.congr (fun l _ => ⟨Or.inl, fun z => z.elim id (fun ⟨q, q1, q2, _⟩ => by omega)⟩)), fun c => absurd (by rw [le_nn (by have := F'.2.1; omega) (by have := F'.2.1; omega)]; omega) c⟩
    | succ m ih =>
      intro a h V ha st k
      have F' := F.fr st.1
      have c12 := F'.2.1
      have ea := F'.2.2.2.2.2.2 a (by omega)
      unfold p_Se_takePlaced_L18
      have lt : nI la < nI (ps a) ↔ ¬ ps a ≤ la := by rw [ti_lt, ti_n (by omega), ti_n (by omega)]; omega
      rw [F'.1, F'.2.2.1, F'.2.2.2.2.1, F'.2.2.2.1, F'.2.2.2.2.2.1, cl_n (by omega), ea.1, ea.2.1, lt]
      refine ⟨rfl, fun c => ?_, fun _ => ⟨rfl, in_n (by omega) (by omega), fun no x hx => ?_, fun yes => ⟨rfl, in_n (by omega) (by omega), rfl, w_take (b := 0) (c := 0) P B st ea.2.2.1 (by omega) (by omega) (fun h' st' x hx => ?_)⟩⟩⟩
      · rw [le_nn (by omega) (by omega)] at c; omega
      · rw [hx, nI_1]
        refine ih (a + 1) h V (by omega) st (fun h' st' => k h' (st'.congr (fun l _ => ⟨fun z => z.imp id (fun ⟨q, q1, q2⟩ => ⟨q, by omega, q2⟩), fun z => z.imp id (fun ⟨q, q1, q2, q3⟩ => ⟨q, ?_, q2, q3⟩)⟩)))
        have : q ≠ a := fun e => no (by rw [← e]; exact q3.1)
        omega
      · rw [hx, nI_1]
        refine ih (a + 1) h' _ (by omega) st' (fun h2 st2 => k h2 (st2.congr (fun l _ => ⟨fun z => ?_, fun z => ?_⟩)))
        · rcases z with (z | z) | ⟨q, q1, q2⟩
          · exact Or.inl z
          · exact Or.inr ⟨a, by omega, by omega, Classical.not_not.mp yes, z⟩
          · exact Or.inr ⟨q, by omega, q2⟩
        · rcases z with z | ⟨q, q1, q2, q3, q4⟩
          · exact Or.inl (Or.inl z)
          · by_cases e : q = a
            · exact Or.inl (Or.inr (by rw [q4, e]))
            · exact Or.inr ⟨q, by omega, q2, q3, q4⟩
  have F' := F.fr st.1
  have e3' : hI h (4, f) 3 = nI rn := by rw [st.1.1 _ _ (by simp [K8])]; exact e3
  have l8 : (8 : Int32) ≤ nI rn ↔ ¬ rn < 8 := by
    have : (8 : Int32) = nI 8 := rfl
    rw [this, le_nn (by omega) (by omega)]; omega
  unfold p_Se_takePlaced
  rw [e3', l8]
  refine ⟨rfl, fun c => ⟨cnt + 1, key 3 (by omega) cnt 0 h V (by omega) st (fun h' st' => q h' (st'.congr (fun l _ => ?_)))⟩, fun c => ⟨cnt + 1, key 2 (by omega) cnt 0 h V (by omega) st (fun h' st' => q h' (st'.congr (fun l _ => ?_)))⟩⟩
  · rw [if_neg c]
    exact ⟨fun z => z.imp id (fun ⟨i, _, i2⟩ => ⟨i, i2⟩), fun z => z.imp id (fun ⟨i, i2⟩ => ⟨i, by omega, i2⟩)⟩
  · rw [if_pos (Classical.not_not.mp c)]
    exact ⟨fun z => z.imp id (fun ⟨i, _, i2⟩ => ⟨i, i2⟩), fun z => z.imp id (fun ⟨i, i2⟩ => ⟨i, by omega, i2⟩)⟩
theorem w_takeDoubles {f2 cnt2 : Nat} {ru2 ps2 : Nat → Nat} (P : PH h0 p U) (B : UB p U) (F : FiH h0 f cnt ru ps) (F2 : FiH h0 f2 cnt2 ru2 ps2) {V : Nat → Prop} (st : STk h0 h p U V) {Q : xH → Prop} (q : ∀ h', STk h0 h' p U (fun l => V l ∨ ∃ i j, i < cnt ∧ j < cnt2 ∧ nx cnt ps i (-1) (-1) ∧ nx cnt2 ps2 j (-1) (-1) ∧ l = lin2 (kf p) (ru i) (ru2 j) 0) → Q h') : p_Se_takeDoubles (8, 0) (5, p) (4, f) (4, f2) h Q := by
  have inner : ∀ {K : xH → Prop} {i : Nat}, i < cnt → ∀ (m a : Nat) (h : xH) (V : Nat → Prop), a + m = cnt2 → STk h0 h p U V → (∀ h', STk h0 h' p U (fun l => V l ∨ ∃ j, a ≤ j ∧ j < cnt2 ∧ nx cnt ps i (-1) (-1) ∧ nx cnt2 ps2 j (-1) (-1) ∧ l = lin2 (kf p) (ru i) (ru2 j) 0) → K h') → p_Se_takeDoubles_L15 (8, 0) (5, p) (4, f) (4, f2) (nI i) K Q (m + 1) (nI a) h := by
    intro K i hi m
    induction m with
    | zero =>
      intro a h V ha st k
      have F' := F2.fr st.1
      unfold p_Se_takeDoubles_L15
      rw [F'.1]
      refine ⟨rfl, fun _ => k h (st.congr (fun l _ => ⟨Or.inl, fun z => z.elim id (fun ⟨q, q1, q2, _⟩ => by omega)⟩)), fun c => absurd (by rw [le_nn (by have := F'.2.1; omega) (by have := F'.2.1; omega)]; omega) c⟩
    | succ m ih =>
      intro a h V ha st k
      have F1' := F.fr st.1
      have F' := F2.fr st.1
      have c12 := F'.2.1
      have c12' := F1'.2.1
      have ei := F1'.2.2.2.2.2.2 i hi
      have ea := F'.2.2.2.2.2.2 a (by omega)
      have skip : ¬ (nx cnt ps i (-1) (-1) ∧ nx cnt2 ps2 a (-1) (-1)) → p_Se_takeDoubles_L15 (8, 0) (5, p) (4, f) (4, f2) (nI i) K Q (m + 1) (nI (a + 1)) h := fun no => by
        refine ih (a + 1) h V (by omega) st (fun h' st' => k h' (st'.congr (fun l _ => ⟨fun z => z.imp id (fun ⟨q, q1, q2⟩ => ⟨q, by omega, q2⟩), fun z => z.imp id (fun ⟨q, q1, q2, q3, q4⟩ => ⟨q, ?_, q2, q3, q4⟩)⟩)))
        have : q ≠ a := fun e => no ⟨q3, by rw [← e]; exact q4.1⟩
        omega
      unfold p_Se_takeDoubles_L15
      rw [F'.1]
      refine ⟨rfl, fun c => ?_, fun _ => ⟨rfl, w_isNext F1' hi (fun no => ⟨fun _ x hx => by rw [hx, nI_1]; exact skip (fun z => no z.1), fun z => absurd rfl z⟩) (fun y1 => ⟨fun z => absurd z (by decide), fun _ => w_isNext F' (by omega) (fun no => ⟨fun _ x hx => by rw [hx, nI_1]; exact skip (fun z => no z.2), fun z => absurd rfl z⟩) (fun y2 => ⟨fun z => absurd z (by decide), fun _ => ?_⟩)⟩)⟩⟩
      · rw [le_nn (by omega) (by omega)] at c; omega
      · rw [F'.2.2.1, F'.2.2.2.2.1, F1'.2.2.1, F1'.2.2.2.2.1, cl_n (by omega), cl_n (by omega), ei.1, ea.1]
        refine ⟨rfl, in_n (by omega) (by omega), rfl, in_n (by omega) (by omega), rfl, w_take (c := 0) P B st ei.2.2.1 ea.2.2.1 (by omega) (fun h' st' x hx => ?_)⟩
        rw [hx, nI_1]
        refine ih (a + 1) h' _ (by omega) st' (fun h2 st2 => k h2 (st2.congr (fun l _ => ⟨fun z => ?_, fun z => ?_⟩)))
        · rcases z with (z | z) | ⟨q, q1, q2⟩
          · exact Or.inl z
          · exact Or.inr ⟨a, by omega, by omega, y1, y2, z⟩
          · exact Or.inr ⟨q, by omega, q2⟩
        · rcases z with z | ⟨q, q1, q2, q3, q4, q5⟩
          · exact Or.inl (Or.inl z)
          · by_cases e : q = a
            · exact Or.inl (Or.inr (by rw [q5, e]))
            · exact Or.inr ⟨q, by omega, q2, q3, q4, q5⟩
  have key : ∀ (m a : Nat) (h : xH) (V : Nat → Prop), a + m = cnt → STk h0 h p U V → (∀ h', STk h0 h' p U (fun l => V l ∨ ∃ i j, a ≤ i ∧ i < cnt ∧ j < cnt2 ∧ nx cnt ps i (-1) (-1) ∧ nx cnt2 ps2 j (-1) (-1) ∧ l = lin2 (kf p) (ru i) (ru2 j) 0) → Q h') → p_Se_takeDoubles_L3 (8, 0) (5, p) (4, f) (4, f2) (fun h => Q h) Q (m + 1) (nI a) h := by
    intro m
    induction m with
    | zero =>
      intro a h V ha st k
      have F' := F.fr st.1
      unfold p_Se_takeDoubles_L3
      rw [F'.1]
      refine ⟨rfl, fun _ => k h (st.congr (fun l _ => ⟨Or.inl, fun z => z.elim id (fun ⟨q, j, q1, q2, _⟩ => by omega)⟩)), fun c => absurd (by rw [le_nn (by have := F'.2.1; omega) (by have := F'.2.1; omega)]; omega) c⟩
    | succ m ih =>
      intro a h V ha st k
      have F' := F.fr st.1
      have c12 := F'.2.1
      unfold p_Se_takeDoubles_L3
      rw [F'.1]
      refine ⟨rfl, fun c => ?_, fun _ => ⟨cnt2 + 1, inner (by omega) cnt2 0 h V (by omega) st (fun h' st' x hx => ?_)⟩⟩
      · rw [le_nn (by omega) (by omega)] at c; omega
      · rw [hx, nI_1]
        refine ih (a + 1) h' _ (by omega) st' (fun h2 st2 => k h2 (st2.congr (fun l _ => ⟨fun z => ?_, fun z => ?_⟩)))
        · rcases z with (z | ⟨j, j1, j2, j3⟩) | ⟨q, j, q1, q2⟩
          · exact Or.inl z
          · exact Or.inr ⟨a, j, by omega, by omega, j2, j3⟩
          · exact Or.inr ⟨q, j, by omega, q2⟩
        · rcases z with z | ⟨q, j, q1, q2, q3, q4⟩
          · exact Or.inl (Or.inl z)
          · by_cases e : q = a
            · subst e; exact Or.inl (Or.inr ⟨j, by omega, q3, q4⟩)
            · exact Or.inr ⟨q, j, by omega, q2, q3, q4⟩
  unfold p_Se_takeDoubles
  exact ⟨cnt + 1, key cnt 0 h V (by omega) st (fun h' st' => q h' (st'.congr (fun l _ => ⟨fun z => z.imp id (fun ⟨i, j, _, i2⟩ => ⟨i, j, i2⟩), fun z => z.imp id (fun ⟨i, j, i2⟩ => ⟨i, j, by omega, i2⟩)⟩)))⟩
end Rows
end Takers
