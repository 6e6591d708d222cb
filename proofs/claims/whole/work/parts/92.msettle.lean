section MSettle
variable {qq : Prop} {L : Nat} {xs : Nat → Int32} {nr nt : Nat} {v v0 h g : xH}
/-- as SMx, but for the flag of one pool -/
def SMq (p : Nat) (v g : xH) : Prop := (∀ n j, 34 ≤ n.1 ∨ n.1 = 12 → ¬ KSc n j → ¬ (n = (43, 0) ∧ j = p) → hI g n j = hI v n j) ∧ hS g = hS v ∧ hR g = hR v
theorem SMq.si {p : Nat} (s : SMq p v h) (n : xN) (j : Nat) (a : Int32) : SMq p (sI v n j a) (sI h n j a) := ⟨fun n' j' h1 h3 h4 => by
  rw [hI_sI, hI_sI]
  split
  · rfl
  · exact s.1 n' j' h1 h3 h4, s.2.1, s.2.2⟩
theorem SMq.oc {p : Nat} (s : SMq p v h) {n : xN} (hn : n.1 < 34 ∧ n.1 ≠ 12) (j : Nat) (a : Int32) : SMq p (sI v n j a) h := ⟨fun n' j' h1 h3 h4 => by
  rw [hI_sI, if_neg (fun z => by rw [z.1] at h1; omega)]
  exact s.1 n' j' h1 h3 h4, s.2.1, s.2.2⟩
theorem SMq.k {p : Nat} (s : SMq p v g) (k j : Nat) (hk : (34 ≤ k ∧ k < 43) ∨ (43 < k ∧ k < 67) ∨ 83 ≤ k) : hI g (k, 0) j = hI v (k, 0) j := s.1 _ _ (Or.inl (show 34 ≤ k by omega)) (ksc_k (by omega)) (fun z => by have := congrArg Prod.fst z.1; simp at this; omega)
theorem SMq.k12 {p : Nat} (s : SMq p v g) (j : Nat) (hj : j < 35) : hI g (12, 0) j = hI v (12, 0) j := s.1 _ _ (Or.inr rfl) (fun z => by
  rcases z with z | z | z
  · simp at z
  · simp at z
  · simp at z; omega) (by simp)
theorem SMq.ref {p' : Nat} (s : SMq p' v g) {t p a b c u : Nat} (k : TkF (hI v) t p a b c u) : SMq p' (refv v t) (eM g t p 2 2 (skI (hI v) t)) := by
  rw [refv_eq k]
  unfold eM
  have e : hI (eC v t p (lin (kf p) a b c) 2 (nI u) 2 (skI (hI v) t)) (46 + 2, 0) p = hI g (46 + 2, 0) p := by
    unfold eC
    rw [hI_sI, if_neg (by simp), hI_sI, if_neg (by simp), hI_sI, if_neg (by simp), hI_sI, if_neg (by simp), s.k 48 p (by omega)]
  rw [e]
  refine SMq.si (SMq.si ?_ _ _ _) _ _ _
  unfold eC
  exact (((s.oc ⟨by simp, by simp⟩ _ _).oc ⟨by simp, by simp⟩ _ _).oc ⟨by simp, by simp⟩ _ _).oc ⟨by simp, by simp⟩ _ _
theorem w_mrefund2 (m : ShM (hS g) (hR g)) {t p u : Nat} (ht : t < 200) (hp : p < 49) (e58' : hI g (58, 0) t = nI p) {c : Int32} (hc : hI g (62, 0) t * hI g (42, 0) p = c) {Q : xH → Prop} (q : Q (eM g t p 2 2 c)) : p_M_refund (12, 0) (nI t) g Q := by
  unfold p_M_refund
  rw [mR29 m, mS29 m, cl_n (by omega)]
  refine ⟨rfl, rfl, in_n (by omega) (by omega), fun h4 q4 => ?_⟩
  have m4 : ShM (hS h4) (hR h4) := by rw [q4]; exact m
  have o4 : ∀ n j, n ≠ (63, 0) → hI h4 n j = hI g n j := fun n j hn => by rw [q4, hI_sI, if_neg (fun z => hn z.1)]
  have e58 : hI h4 (58, 0) t = nI p := by rw [o4 _ _ (by simp)]; exact e58'
  rw [mR24 m4, mS24 m4, mR14 m4, mS14 m4, e58, cl_n (by omega)]
  refine ⟨rfl, in_n (by omega) (by omega), rfl, in_n (by omega) (by omega), w_mstake m4 (by omega) hp e58 ⟨by rw [mS14 m4]; exact in_n (by omega) (by omega), fun h13 q13 => ?_⟩⟩
  rw [o4 (62, 0) t (by simp), o4 (42, 0) p (by simp), o4 (48, 0) p (by simp), hc] at q13
  rw [q13, q4]; exact q
theorem w_mrefAll2 (i : InvQ qq L xs nr nt v) {p : Nat} (s : SMq p v g) {l2 : Int32} (hp : p < 49) (uns : hI v (43, 0) p = 0) (f43 : hI g (43, 0) p = 1) {K : xH → Prop} {Q : xH → Prop} (q : ∀ g', SMq p (rfs p v nt) g' → hI g' (43, 0) p = 1 → (∀ j, hI g' (67, 0) j = hI g (67, 0) j) → Sm KM g g' → K g') : ∃ f, p_M_settle_L62 (12, 0) (nI p) l2 K Q f 0 g := by
  have hnt := i.vc.2.1
  have key : ∀ (m t : Nat) (g' : xH), t + m = nt → SMq p (rfs p v t) g' → hI g' (43, 0) p = 1 → (∀ j, hI g' (67, 0) j = hI g (67, 0) j) → Sm KM g g' → p_M_settle_L62 (12, 0) (nI p) l2 K Q (m + 1) (nI t) g' := by
    intro m
    induction m with
    | zero =>
      intro t g' ht S f z7 zm
      have : t = nt := by omega
      subst this
      obtain ⟨ii, kk⟩ := rfs_inv i hp uns t (by omega)
      unfold p_M_settle_L62
      rw [S.k12 23 (by omega), ii.vc.2.2.2.2.2, le_nn (by omega) (by omega)]
      exact ⟨rfl, fun _ => q g' S f z7 zm, fun z => absurd (by omega) z⟩
    | succ m ih =>
      intro t g' ht S f z7 zm
      obtain ⟨ii, kk⟩ := rfs_inv i hp uns t (by omega)
      obtain ⟨p', A, B, C, u, k⟩ := tkf ii (t := t) (by omega)
      have hp' := k.p49
      have m' : ShM (hS g') (hR g') := by rw [S.2.1, S.2.2]; exact ii.m
      have st : rfs p v (t + 1) = rf1 p (rfs p v t) t := rfl
      have e63 : hI g' (63, 0) t = hI (rfs p v t) (63, 0) t := S.k 63 t (by omega)
      have e58 : hI g' (58, 0) t = nI p' := by rw [S.k 58 t (by omega)]; exact k.pool
      unfold p_M_settle_L62
      rw [S.k12 23 (by omega), ii.vc.2.2.2.2.2, le_nn (by omega) (by omega), mR24 m', mS24 m', mR29 m', mS29 m', cl_n (by omega), e58, e63]
      refine ⟨rfl, fun z => absurd z (by omega), fun _ => ⟨rfl, in_n (by omega) (by omega), fun z y hy => ?_, fun z => ⟨rfl, in_n (by omega) (by omega), fun z2 y hy => ?_, fun z2 => w_mrefund2 (u := u) (c := skI (hI (rfs p v t)) t) m' (by omega) hp' e58 ?_ ?_⟩⟩⟩
      · rw [hy, nI_1]
        refine ih (t + 1) g' (by omega) ?_ f z7 zm
        rw [st]; unfold rf1
        rw [if_neg (fun w => z (k.pool.symm.trans w.1))]
        exact S
      · rw [hy, nI_1]
        refine ih (t + 1) g' (by omega) ?_ f z7 zm
        rw [st]; unfold rf1
        rw [if_neg (fun w => z2 w.2)]
        exact S
      · rw [skI_eq k, S.k 62 t (by omega), S.k 42 p' (by omega), k.eu]
      · intro y hy
        rw [hy, nI_1]
        refine ih (t + 1) _ (by omega) ?_ ?_ (fun j => ?_) (by unfold eM; exact (zm.si _ (by simp [KM])).si _ (by simp [KM]))
        · rw [st]; unfold rf1
          rw [if_pos ⟨by rw [k.pool]; exact z, z2⟩]
          exact S.ref k
        · unfold eM
          rw [hI_sI, if_neg (by simp), hI_sI, if_neg (by simp)]
          exact f
        · unfold eM
          rw [hI_sI, if_neg (by simp), hI_sI, if_neg (by simp)]
          exact z7 j
  exact ⟨nt + 1, key nt 0 g (by omega) s f43 (fun _ => rfl) (Sm.rf _ g)⟩
/-- the group of a ticket -/
theorem w_groupOf (m : ShM (hS g) (hR g)) {t G x : Nat} {a b c : Int32} (ht : t < 200) (e59 : hI g (59, 0) t = a) (e60 : hI g (60, 0) t = b) (e61 : hI g (61, 0) t = c) (hx : x < G) (hG : G ≤ 200) (ex : hI g (70, 0) x = a ∧ hI g (71, 0) x = b ∧ hI g (72, 0) x = c) {Q : Int32 → xH → Prop} (q : ∀ y, y < G → hI g (70, 0) y = a → hI g (71, 0) y = b → hI g (72, 0) y = c → Q (nI y) g) : p_M_groupOf (12, 0) (nI t) g Q := by
  have key : ∀ (mm y : Nat), y + mm = x → p_M_groupOf_L2 (12, 0) (nI t) (fun x h => Q x h) Q (mm + 1) (nI y) g := by
    intro mm
    induction mm with
    | zero =>
      intro y hy
      have : y = x := by omega
      subst this
      unfold p_M_groupOf_L2
      rw [mR36 m, mS36 m, mR25 m, mS25 m, cl_n (by omega), cl_n (by omega), e59, mR37 m, mS37 m, mR26 m, mS26 m, e60, mR38 m, mS38 m, mR27 m, mS27 m, e61]
      exact ⟨rfl, rfl, in_n (by omega) (by omega), rfl, in_n (by omega) (by omega), fun z => absurd ex.1 z, fun _ => ⟨rfl, in_n (by omega) (by omega), rfl, in_n (by omega) (by omega), fun z => absurd ex.2.1 z, fun _ => ⟨rfl, in_n (by omega) (by omega), rfl, in_n (by omega) (by omega), fun _ => q y (by omega) ex.1 ex.2.1 ex.2.2, fun z => absurd ex.2.2 z⟩⟩⟩
    | succ mm ih =>
      intro y hy
      have go : ∀ w : Int32, w = nI y + 1 → p_M_groupOf_L2 (12, 0) (nI t) (fun x h => Q x h) Q (mm + 1) w g := fun w hw => by
        rw [hw, nI_1]; exact ih (y + 1) (by omega)
      unfold p_M_groupOf_L2
      rw [mR36 m, mS36 m, mR25 m, mS25 m, cl_n (by omega), cl_n (by omega), e59, mR37 m, mS37 m, mR26 m, mS26 m, e60, mR38 m, mS38 m, mR27 m, mS27 m, e61]
      exact ⟨rfl, rfl, in_n (by omega) (by omega), rfl, in_n (by omega) (by omega), fun _ => go, fun z1 => ⟨rfl, in_n (by omega) (by omega), rfl, in_n (by omega) (by omega), fun _ => go, fun z2 => ⟨rfl, in_n (by omega) (by omega), rfl, in_n (by omega) (by omega), fun z3 => q y (by omega) z1 z2 z3, fun _ => go⟩⟩⟩
  exact ⟨x + 1, key x 0 (by omega)⟩
end MSettle
