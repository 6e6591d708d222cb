section Ask
variable {L : Nat} {xs : Nat → Int32} {nr nt : Nat} {v h g : xH}
def wB (h : xH) (n : Nat) (b : Int32) : xH := sI (sI h (13, 0) n b) (2, 0) 1 (nI (n + 1))
def mB (g : xH) (n : Nat) (b : Int32) : xH := sI (sI g (101, 0) n b) (12, 0) 66 (nI (n + 1))
def wBs (h : xH) (n : Nat) : List Int32 → xH
  | [] => h
  | b :: bs => wBs (wB h n b) (n + 1) bs
def mBs (g : xH) (n : Nat) : List Int32 → xH
  | [] => g
  | b :: bs => mBs (mB g n b) (n + 1) bs
theorem wB_e (h : xH) (n : Nat) (b : Int32) : hI (wB h n b) (2, 0) 1 = nI (n + 1) := by unfold wB; simp [hI_sI]
theorem mB_e (h : xH) (n : Nat) (b : Int32) : hI (mB h n b) (12, 0) 66 = nI (n + 1) := by unfold mB; simp [hI_sI]
theorem xB (x : ShX (hS h) (hR h)) {n : Nat} {b : Int32} : ShX (hS (wB h n b)) (hR (wB h n b)) := x
theorem mBm (m : ShM (hS g) (hR g)) {n : Nat} {b : Int32} : ShM (hS (mB g n b)) (hR (mB g n b)) := m
theorem w_write (x : ShX (hS h) (hR h)) {n : Nat} (e : hI h (2, 0) 1 = nI n) (hn : n < 100) {b : Int32} {Q : xH → Prop} (q : Q (wB h n b)) : p_B_write (2, 0) b h Q := by
  unfold p_B_write
  rw [e, xR_2_0_0 x, xS_13_0 x, cl_n (by omega)]
  refine ⟨rfl, fun c => ?_, fun _ => ⟨rfl, in_n (by omega) (by omega), fun h5 q5 h7 q7 => ?_⟩⟩
  · rw [ti_le, ti_n (by omega), show (100 : Int32).toInt = 100 from rfl] at c; omega
  · have e5 : hI h5 (2, 0) 1 = nI n := by rw [q5, hI_sI, if_neg (by simp)]; exact e
    rw [q7, e5, q5, nI_1]; exact q
theorem w_begins (m : ShM (hS g) (hR g)) {n : Nat} (e : hI g (12, 0) 66 = nI n) (hn : n < 100) {b : Int32} {Q : xH → Prop} (q : Q (mB g n b)) : p_M_begins (12, 0) b g Q := by
  unfold p_M_begins
  rw [e, mR67 m, mS67 m, cl_n (by omega)]
  refine ⟨rfl, fun c => ?_, fun _ => ⟨rfl, in_n (by omega) (by omega), fun h5 q5 h7 q7 => ?_⟩⟩
  · rw [ti_le, ti_n (by omega), show (100 : Int32).toInt = 100 from rfl] at c; omega
  · have e5 : hI h5 (12, 0) 66 = nI n := by rw [q5, hI_sI, if_neg (by simp)]; exact e
    rw [q7, e5, q5, nI_1]; exact q
def wgl (k : Nat) : List Int32 := match k with
  | 0 => [10]
  | 1 => [11, 10]
  | 2 => [12, 10]
  | 3 => [13, 12, 10]
  | _ => [14, 10]
def wgv (k u : Nat) : Int32 := match k with
  | 0 => nI u
  | 1 => nI u / 2
  | 2 => nI (3 * u)
  | 3 => nI (6 * u)
  | _ => nI (u + 1)
theorem w_weigh (x : ShX (hS h) (hR h)) {n : Nat} (e : hI h (2, 0) 1 = nI n) (hn : n < 90) {k u : Nat} (hk : k ≤ 4) {Q : Int32 → xH → Prop} (q : Q (wgv k u) (wBs h n (wgl k))) : p_B_weigh (2, 0) (nI k) (nI u) h Q := by
  unfold p_B_weigh
  have e3 : nI u * 3 = nI (3 * u) := (pk_mul u 3).trans (by congr 1; omega)
  have e6 : (2 : Int32) * (nI u * 3) = nI (6 * u) := by rw [e3]; exact (pk_mul 2 (3 * u)).trans (by congr 1; omega)
  rcases k5 hk with rfl | rfl | rfl | rfl | rfl
  · refine ⟨fun z => absurd z (by decide), fun z => absurd z (by decide), fun z => absurd z (by decide), fun z => absurd z (by decide), fun _ => ⟨rfl, rfl, w_write x e (by omega) q⟩⟩
  · refine ⟨fun _ => ⟨rfl, rfl, w_write x e (by omega) ⟨rfl, w_write (xB x) (wB_e _ _ _) (by omega) q⟩⟩, fun z => absurd z (by decide), fun z => absurd z (by decide), fun z => absurd z (by decide), fun z => absurd rfl (z 1 (by simp))⟩
  · refine ⟨fun z => absurd z (by decide), fun _ => ⟨rfl, rfl, w_write x e (by omega) ⟨rfl, w_write (xB x) (wB_e _ _ _) (by omega) ?_⟩⟩, fun z => absurd z (by decide), fun z => absurd z (by decide), fun z => absurd rfl (z 2 (by simp))⟩
    show Q (nI u * 3) _; rw [e3]; exact q
  · refine ⟨fun z => absurd z (by decide), fun z => absurd z (by decide), fun _ => ⟨rfl, rfl, w_write x e (by omega) ⟨rfl, w_write (xB x) (wB_e _ _ _) (by omega) ⟨rfl, w_write (xB (xB x)) (wB_e _ _ _) (by omega) ?_⟩⟩⟩, fun z => absurd z (by decide), fun z => absurd rfl (z 3 (by simp))⟩
    show Q (2 * (nI u * 3)) _; rw [e6]; exact q
  · refine ⟨fun z => absurd z (by decide), fun z => absurd z (by decide), fun z => absurd z (by decide), fun _ => ⟨rfl, rfl, w_write x e (by omega) ⟨rfl, w_write (xB x) (wB_e _ _ _) (by omega) ?_⟩⟩, fun z => absurd rfl (z 4 (by simp))⟩
    show Q (nI u + 1) _; rw [nI_1]; exact q
theorem w_weight (m : ShM (hS g) (hR g)) {n t p u : Nat} (e : hI g (12, 0) 66 = nI n) (hn : n < 90) (ht : t < 200) (hp : p < 49) (e58 : hI g (58, 0) t = nI p) (e62 : hI g (62, 0) t = nI u) {Q : Int32 → xH → Prop} (q : Q (wgv (kf p) u) (mBs g n (wgl (kf p)))) : p_M_weight (12, 0) (nI t) g Q := by
  unfold p_M_weight
  have e3 : (3 : Int32) * nI u = nI (3 * u) := pk_mul 3 u
  have e6 : (6 : Int32) * nI u = nI (6 * u) := pk_mul 6 u
  rw [mR28 m, mS28 m, mR24 m, mS24 m, cl_n (by omega), e58, e62]
  refine ⟨rfl, rfl, in_n (by omega) (by omega), fun v4 h4 => ⟨rfl, in_n (by omega) (by omega), w_mKindOf hp ?_⟩⟩
  subst h4
  have hk := kf_le (p := p)
  generalize kf p = k at *
  rcases k5 hk with rfl | rfl | rfl | rfl | rfl
  · exact ⟨fun _ => w_begins m e (by omega) q, fun z => absurd z (by decide), fun z => absurd z (by decide), fun z => absurd z (by decide), fun z => absurd rfl (z 0 (by simp))⟩
  · exact ⟨fun z => absurd z (by decide), fun _ => w_begins m e (by omega) (w_begins (mBm m) (mB_e _ _ _) (by omega) q), fun z => absurd z (by decide), fun z => absurd z (by decide), fun z => absurd rfl (z 1 (by simp))⟩
  · refine ⟨fun z => absurd z (by decide), fun z => absurd z (by decide), fun _ => w_begins m e (by omega) (w_begins (mBm m) (mB_e _ _ _) (by omega) ?_), fun z => absurd z (by decide), fun z => absurd rfl (z 2 (by simp))⟩
    rw [e3]; exact q
  · refine ⟨fun z => absurd z (by decide), fun z => absurd z (by decide), fun z => absurd z (by decide), fun _ => w_begins m e (by omega) (w_begins (mBm m) (mB_e _ _ _) (by omega) (w_begins (mBm (mBm m)) (mB_e _ _ _) (by omega) ?_)), fun z => absurd rfl (z 3 (by simp))⟩
    rw [e6]; exact q
  · refine ⟨fun z => absurd z (by decide), fun z => absurd z (by decide), fun z => absurd z (by decide), fun z => absurd z (by decide), fun _ => w_begins m e (by omega) (w_begins (mBm m) (mB_e _ _ _) (by omega) ?_)⟩
    rw [nI_1]; exact q
def sgl (k u : Nat) : List Int32 := if k = 1 then (if u = 1 then [22] else 22 :: 20 :: wgl 1) else if k = 3 then 21 :: 20 :: wgl 3 else 20 :: wgl k
def sgv (k u : Nat) : Int32 := if k = 1 ∧ u = 1 then 3 else if k = 3 then (5 : Int32) * wgv 3 u - 7 else (5 : Int32) * wgv k u
theorem w_score (x : ShX (hS h) (hR h)) {n : Nat} (e : hI h (2, 0) 1 = nI n) (hn : n < 80) {k u : Nat} (hk : k ≤ 4) (hu : u ≤ 1000) {Q : Int32 → xH → Prop} (q : Q (sgv k u) (wBs h n (sgl k u))) : p_B_score (2, 0) (nI k) (nI u) h Q := by
  have eu : nI u = (1 : Int32) ↔ u = 1 := nI_inj (a := u) (b := 1) (by omega) (by omega)
  have k1 : nI k = (1 : Int32) ↔ k = 1 := nI_inj (a := k) (b := 1) (by omega) (by omega)
  have k3 : nI k = (3 : Int32) ↔ k = 3 := nI_inj (a := k) (b := 3) (by omega) (by omega)
  unfold sgl sgv at q
  unfold p_B_score p_B_score_j11 p_B_score_j22 p_B_score_j34
  rw [k1, k3, eu]
  refine ⟨fun c3 => ⟨fun c1 => ⟨fun _ => ⟨rfl, w_write x e (by omega) (w_weigh (xB x) (wB_e _ _ _) (by omega) hk (fun w hw => ⟨fun _ => ?_, fun z => absurd z c3⟩))⟩, fun z => absurd z c1⟩, fun c1 => ⟨rfl, w_write x e (by omega) ⟨fun z => absurd c1 z, fun _ => ⟨fun cu => ⟨rfl, w_write (xB x) (wB_e _ _ _) (by omega) (w_weigh (xB (xB x)) (wB_e _ _ _) (by omega) hk (fun w hw => ⟨fun _ => ?_, fun z => absurd z c3⟩))⟩, fun cu => ?_⟩⟩⟩⟩, fun c3 => ⟨rfl, w_write x e (by omega) ⟨fun c1 => ⟨fun _ => ⟨rfl, w_write (xB x) (wB_e _ _ _) (by omega) (w_weigh (xB (xB x)) (wB_e _ _ _) (by omega) hk (fun w hw => ⟨fun z => absurd c3 z, fun _ => ?_⟩))⟩, fun z => absurd z c1⟩, fun c1 => ?_⟩⟩⟩
  · rw [hw]; rw [if_neg (fun z => c1 z.1), if_neg c3, if_neg c1, if_neg c3] at q; exact q
  · rw [hw]; rw [if_neg (fun z => cu z.2), if_neg c3, if_pos c1, if_neg cu, c1] at q; rw [c1]; exact q
  · rw [if_pos ⟨c1, cu⟩, if_pos c1, if_pos cu] at q; exact q
  · rw [hw]; rw [if_neg (fun z => c1 z.1), if_pos c3, if_neg c1, if_pos c3] at q; rw [c3]; exact q
  · omega
theorem w_points (m : ShM (hS g) (hR g)) {n t p u : Nat} (e : hI g (12, 0) 66 = nI n) (hn : n < 80) (ht : t < 200) (hp : p < 49) (hu : u ≤ 1000) (e58 : hI g (58, 0) t = nI p) (e62 : hI g (62, 0) t = nI u) {Q : Int32 → xH → Prop} (q : Q (sgv (kf p) u) (mBs g n (sgl (kf p) u))) : p_M_points (12, 0) (nI t) g Q := by
  have hk := kf_le (p := p)
  have eu : nI u = (1 : Int32) ↔ u = 1 := nI_inj (a := u) (b := 1) (by omega) (by omega)
  have k1 : nI (kf p) = (1 : Int32) ↔ kf p = 1 := nI_inj (a := kf p) (b := 1) (by omega) (by omega)
  have k3 : nI (kf p) = (3 : Int32) ↔ kf p = 3 := nI_inj (a := kf p) (b := 3) (by omega) (by omega)
  have o : ∀ n b j k, k = 58 ∨ k = 62 → hI (mB g n b) (k, 0) j = hI g (k, 0) j := fun n b j k hk => by unfold mB; rw [hI_sI, if_neg (by simp; omega), hI_sI, if_neg (by simp; omega)]
  have o2 : ∀ n b n' b' j k, k = 58 ∨ k = 62 → hI (mB (mB g n b) n' b') (k, 0) j = hI g (k, 0) j := fun n b n' b' j k hk => by rw [← o n b j k hk]; unfold mB; rw [hI_sI, if_neg (by simp; omega), hI_sI, if_neg (by simp; omega)]
  unfold sgl sgv at q
  unfold p_M_points
  rw [mR24 m, mS24 m, cl_n (by omega), e58]
  refine ⟨rfl, rfl, in_n (by omega) (by omega), w_mKindOf hp ?_⟩
  unfold p_M_points_j44
  rw [k1, k3]
  refine ⟨fun c1 => ⟨fun c3 => ⟨rfl, w_begins m e (by omega) (w_weight (mBm m) (mB_e _ _ _) (by omega) ht hp (by rw [o _ _ _ _ (Or.inl rfl)]; exact e58) (by rw [o _ _ _ _ (Or.inr rfl)]; exact e62) (fun w hw => ⟨fun _ => ?_, fun z => absurd z c3⟩))⟩, fun c3 => w_begins m e (by omega) ⟨rfl, w_begins (mBm m) (mB_e _ _ _) (by omega) (w_weight (mBm (mBm m)) (mB_e _ _ _) (by omega) ht hp (by rw [o2 _ _ _ _ _ _ (Or.inl rfl)]; exact e58) (by rw [o2 _ _ _ _ _ _ (Or.inr rfl)]; exact e62) (fun w hw => ⟨fun z => absurd c3 z, fun _ => ?_⟩))⟩⟩, fun c1 => w_begins m e (by omega) ?_⟩
  · rw [hw]; rw [if_neg (fun z => c1 z.1), if_neg c3, if_neg c1, if_neg c3] at q; exact q
  · rw [hw]; rw [if_neg (fun z => c1 z.1), if_pos c3, if_neg c1, if_pos c3] at q; rw [c3]; exact q
  · have m1 : ShM (hS (mB g n 22)) (hR (mB g n 22)) := m
    rw [mR28 m1, mS28 m1, o _ _ _ _ (Or.inr rfl), e62, eu]
    refine ⟨rfl, in_n (by omega) (by omega), fun cu => ⟨rfl, w_begins m1 (mB_e _ _ _) (by omega) (w_weight (mBm m1) (mB_e _ _ _) (by omega) ht hp (by rw [o2 _ _ _ _ _ _ (Or.inl rfl)]; exact e58) (by rw [o2 _ _ _ _ _ _ (Or.inr rfl)]; exact e62) (fun w hw => ⟨fun _ => ?_, fun z => ?_⟩))⟩, fun cu => ?_⟩
    · rw [hw]; rw [if_neg (fun z => cu z.2), if_neg (by omega), if_pos c1, if_neg cu, c1] at q; rw [c1]; exact q
    · omega
    · rw [if_pos ⟨c1, cu⟩, if_pos c1, if_pos cu] at q; exact q
theorem wBs_at : ∀ (bs : List Int32) (h : xH) (n : Nat), hI h (2, 0) 1 = nI n → hI (wBs h n bs) (2, 0) 1 = nI (n + bs.length) ∧ (∀ k b, bs[k]? = some b → hI (wBs h n bs) (13, 0) (n + k) = b) ∧ (∀ k, k < n → hI (wBs h n bs) (13, 0) k = hI h (13, 0) k) ∧ Sm (KK [13] [((2, 0), 1)]) h (wBs h n bs)
  | [], h, n, e => ⟨e, fun k b hb => by simp at hb, fun _ _ => rfl, Sm.rf _ h⟩
  | b :: bs, h, n, e => by
    obtain ⟨a1, a2, a3, a4⟩ := wBs_at bs (wB h n b) (n + 1) (wB_e _ _ _)
    refine ⟨?_, fun k c hc => ?_, fun k hk => ?_, ?_⟩
    · show hI (wBs (wB h n b) (n + 1) bs) (2, 0) 1 = _
      rw [a1]; congr 1; simp; omega
    · cases k with
      | zero =>
        show hI (wBs (wB h n b) (n + 1) bs) (13, 0) (n + 0) = c
        rw [a3 _ (by omega)]
        simp at hc
        unfold wB; simp [hI_sI, hc]
      | succ k =>
        show hI (wBs (wB h n b) (n + 1) bs) (13, 0) (n + (k + 1)) = c
        rw [show n + (k + 1) = n + 1 + k by omega]
        exact a2 k c (by simpa using hc)
    · show hI (wBs (wB h n b) (n + 1) bs) (13, 0) k = _
      rw [a3 k (by omega)]
      unfold wB
      rw [hI_sI, if_neg (by simp), hI_sI, if_neg (by simp; omega)]
    · exact Sm.tr (h1 := wB h n b) (((Sm.rf _ h).si _ (Or.inl (by simp))).si _ (Or.inr (by simp))) a4
theorem mBs_at : ∀ (bs : List Int32) (h : xH) (n : Nat), hI h (12, 0) 66 = nI n → hI (mBs h n bs) (12, 0) 66 = nI (n + bs.length) ∧ (∀ k b, bs[k]? = some b → hI (mBs h n bs) (101, 0) (n + k) = b) ∧ (∀ k, k < n → hI (mBs h n bs) (101, 0) k = hI h (101, 0) k) ∧ Sm (KK [101] [((12, 0), 66)]) h (mBs h n bs)
  | [], h, n, e => ⟨e, fun k b hb => by simp at hb, fun _ _ => rfl, Sm.rf _ h⟩
  | b :: bs, h, n, e => by
    obtain ⟨a1, a2, a3, a4⟩ := mBs_at bs (mB h n b) (n + 1) (mB_e _ _ _)
    refine ⟨?_, fun k c hc => ?_, fun k hk => ?_, ?_⟩
    · show hI (mBs (mB h n b) (n + 1) bs) (12, 0) 66 = _
      rw [a1]; congr 1; simp; omega
    · cases k with
      | zero =>
        show hI (mBs (mB h n b) (n + 1) bs) (101, 0) (n + 0) = c
        rw [a3 _ (by omega)]
        simp at hc
        unfold mB; simp [hI_sI, hc]
      | succ k =>
        show hI (mBs (mB h n b) (n + 1) bs) (101, 0) (n + (k + 1)) = c
        rw [show n + (k + 1) = n + 1 + k by omega]
        exact a2 k c (by simpa using hc)
    · show hI (mBs (mB h n b) (n + 1) bs) (101, 0) k = _
      rw [a3 k (by omega)]
      unfold mB
      rw [hI_sI, if_neg (by simp), hI_sI, if_neg (by simp; omega)]
    · exact Sm.tr (h1 := mB h n b) (((Sm.rf _ h).si _ (Or.inl (by simp))).si _ (Or.inr (by simp))) a4
theorem wgl_len {k : Nat} : (wgl k).length ≤ 3 := by unfold wgl; split <;> decide
theorem sgl_len {k u : Nat} : (sgl k u).length ≤ 5 := by
  unfold sgl
  split
  · split <;> decide
  · split
    · decide
    · have := wgl_len (k := k); simp; omega
/-- promise 46 -/
theorem o_ask (H : Ok L xs h) (r x : Int32) {F : Int32 → xH → Prop} (hF : Nx L xs (p_M_ask (12, 0) r x) F) : p_T_ask (11, 0) r x h F := by
  obtain ⟨nr, nt, i⟩ := H
  have hn := i.vc.2.1
  have x23 := i.vc.2.2.2.2.2
  unfold p_T_ask
  rw [xR_11_0_5 i.x]
  refine ⟨rfl, rfl, fun h3 q3 => ?_⟩
  have K3 : Sm (KL [((2, 0), 1), ((12, 0), 66)]) h h3 := by rw [q3]; exact (Sm.rf _ h).si _ (by simp [KL])
  have e3 : hI h3 (2, 0) 1 = nI 0 := by rw [q3, hI_sI]; simp; rfl
  have iv : Inv L xs nr nt (sI h3 (12, 0) 66 0) := i.updL (K3.si _ (by simp [KL])) (vb := Or.inr ⟨0, by omega, by rw [hI_sI, if_neg (by simp)]; exact e3, by rw [hI_sI]; simp; rfl, fun k hk => by omega⟩)
  have sc3 : SC (sI h3 (12, 0) 66 0) h3 := (SC.rf h3).om (Or.inr (by simp)) _ _
  generalize hv : sI h3 (12, 0) 66 0 = v at *
  have fin : ∀ bs a, bs.length ≤ 5 → (∀ (G : Int32 → xH → Prop) g, SM v g → G a (mBs g 0 bs) → p_M_isTicket (12, 0) r g (fun (v5 : Int32) (h4 : xH) => ((¬ v5 = 0 → ((¬ x = 0 → ((¬ x = (1 : Int32) → G (-3 : Int32) h4) ∧ (x = (1 : Int32) → p_M_points (12, 0) r h4 (fun (v10 : Int32) (h9 : xH) => G v10 h9)))) ∧ (x = 0 → p_M_weight (12, 0) r h4 (fun (v12 : Int32) (h11 : xH) => G v12 h11)))) ∧ (v5 = 0 → G (-2 : Int32) h4)))) → F a (wBs h3 0 bs) := by
    intro bs a hb hm
    obtain ⟨a1, a2, -, a4⟩ := wBs_at bs h3 0 e3
    have sC : Sm KC h (wBs h3 0 bs) := by
      refine Sm.tr (h1 := h3) (by rw [q3]; exact (Sm.rf _ h).si _ (by simp [KC])) (a4.mono (fun n j e => ?_))
      rcases e with e | e
      · have : n.1 = 13 := by simpa using e
        simp [KC, this]
      · have : n = (2, 0) ∧ j = 1 := by simpa using e
        rw [this.1]; simp [KC]
    refine hF _ _ (i.vs.fr sC (fun n j k => k.2.2)) (fun G hG => ⟨rfl, fun h2 q2 => ?_⟩)
    have sm2 : SM v h2 := by
      refine ⟨fun n j hn => ?_, by rw [q2, hS_sI, a4.2.1, ← hv]; rfl, by rw [q2, hR_sI, a4.2.2, ← hv]; rfl⟩
      rw [q2, ← hv, hI_sI, hI_sI]
      by_cases c : n = (12, 0) ∧ j = 66
      · rw [if_pos c, if_pos c]
      · rw [if_neg c, if_neg c, a4.1 n j (fun e => ?_)]
        rcases e with e | e
        · have : n.1 = 13 := by simpa using e
          omega
        · have : n = (2, 0) ∧ j = 1 := by simpa using e
          rw [this.1] at hn; simp at hn
    refine hm G h2 sm2 (hG _ ⟨nr, nt, ?_⟩)
    have e66 : hI h2 (12, 0) 66 = nI 0 := by rw [q2, hI_sI]; simp; rfl
    obtain ⟨b1, b2, -, b4⟩ := mBs_at bs h2 0 e66
    have K : Sm (KK [13, 101] [((2, 0), 1), ((12, 0), 66)]) h (mBs h2 0 bs) := by
      refine Sm.tr (h1 := h2) (Sm.tr (h1 := wBs h3 0 bs) (Sm.tr (h1 := h3) (by rw [q3]; exact (Sm.rf _ h).si _ (Or.inr (by simp))) (a4.mono (fun n j e => ?_))) (by rw [q2]; exact (Sm.rf _ _).si _ (Or.inr (by simp)))) (b4.mono (fun n j e => ?_))
      · rcases e with e | e
        · exact Or.inl (by have : n.1 = 13 := by simpa using e
                           simp [this])
        · exact Or.inr (by have : n = (2, 0) ∧ j = 1 := by simpa using e
                           simp [this])
      · rcases e with e | e
        · exact Or.inl (by have : n.1 = 101 := by simpa using e
                           simp [this])
        · exact Or.inr (by have : n = (12, 0) ∧ j = 66 := by simpa using e
                           simp [this])
    refine i.updD [13, 101] [((2, 0), 1), ((12, 0), 66)] K (vb := Or.inr ⟨bs.length, by omega, ?_, by rw [b1]; congr 1; omega, fun k hk => ?_⟩)
    · rw [b4.1 _ _ (by simp [KK]), q2, hI_sI, if_neg (by simp), a1]; congr 1; omega
    · have hb := b2 k bs[k] (List.getElem?_eq_getElem hk)
      have ha := a2 k bs[k] (List.getElem?_eq_getElem hk)
      rw [show 0 + k = k by omega] at ha hb
      rw [hb, b4.1 _ _ (by simp [KK]), q2, hI_sI, if_neg (by simp), ha]
  refine w_findTicket2 iv sc3 (fun no => ⟨fun z => absurd rfl z, fun _ => ?_⟩) (fun t ht e => ⟨fun _ => ?_, fun z => absurd z (nz 9 t)⟩)
  · exact fin [] (-2) (by decide) (fun G g sm q => w_isTicket hn (by rw [sm.i 12]; exact iv.vc.2.2.2.2.2) (fun _ => ⟨fun z => absurd rfl z, fun _ => q⟩) (fun j hj e => absurd e (no j hj)))
  · subst e
    obtain ⟨p, ta, tb, tc, u, k⟩ := tkf iv ht
    have hp := k.p49
    have hu := k.u2
    have tr := tkr iv ht k
    have pk := plk iv hp k.there
    have x3 := SC.x iv sc3
    rw [sc3.2.2, tr.2, xR_11_0_5 iv.x, sc3.i 5 p 1, pk.2.1, sc3.i 10 t 2, k.cls.2.1, k.eu]
    have e23 : ∀ g, SM v g → hI g (12, 0) 23 = nI nt := fun g sm => by rw [sm.i 12]; exact iv.vc.2.2.2.2.2
    have e66 : ∀ g, SM v g → hI g (12, 0) 66 = nI 0 := fun g sm => by rw [sm.i 12, ← hv, hI_sI]; simp; rfl
    refine ⟨fun c0 => ⟨fun c1 => ?_, fun c1 => ⟨rfl, rfl, rfl, w_score x3 e3 (by omega) kf_le hu (fin _ _ sgl_len (fun G g sm q => ?_))⟩⟩, fun c0 => ⟨rfl, rfl, rfl, w_weigh x3 e3 (by omega) kf_le (fin _ _ (Nat.le_trans wgl_len (by omega)) (fun G g sm q => ?_))⟩⟩
    · exact fin [] (-3) (by decide) (fun G g sm q => w_isTicket hn (e23 g sm) (fun c => absurd rfl (c t ht)) (fun _ _ _ => ⟨fun _ => ⟨fun _ => ⟨fun _ => q, fun z => absurd z c1⟩, fun z => absurd z c0⟩, fun z => absurd z (by decide)⟩))
    · exact w_isTicket hn (e23 g sm) (fun c => absurd rfl (c t ht)) (fun _ _ _ => ⟨fun _ => ⟨fun _ => ⟨fun z => absurd c1 z, fun _ => w_points (SM.m iv sm) (e66 g sm) (by omega) (by omega) hp hu (by rw [sm.i 58]; exact k.pool) (by rw [sm.i 62]; exact k.eu) q⟩, fun z => absurd z c0⟩, fun z => absurd z (by decide)⟩)
    · exact w_isTicket hn (e23 g sm) (fun c => absurd rfl (c t ht)) (fun _ _ _ => ⟨fun _ => ⟨fun z => absurd c0 z, fun _ => w_weight (SM.m iv sm) (e66 g sm) (by omega) (by omega) hp (by rw [sm.i 58]; exact k.pool) (by rw [sm.i 62]; exact k.eu) q⟩, fun z => absurd z (by decide)⟩)
end Ask
