section Ripe
variable {qq : Prop} {L : Nat} {xs : Nat → Int32} {nr nt : Nat} {v v0 h g : xH}
def KVv : xN → Nat → Prop := KK [17, 5, 19, 10, 63, 48, 18, 43, 49, 50, 51, 52, 53, 54, 65, 66] [((11, 0), 12), ((12, 0), 22)]
theorem kv_k {k m j : Nat} (h : (35 ≤ k ∧ k ≤ 42) ∨ k = 67 ∨ k = 68 ∨ k = 6 ∨ k = 4 ∨ k = 1) : ¬ KVv (k, m) j := fun z => by
  rcases z with z | z
  · simp at z; omega
  · simp at z; omega
theorem kv_12 {j : Nat} (h : j ≠ 22) : ¬ KVv (12, 0) j := fun z => by
  rcases z with z | z
  · simp at z
  · simp at z; omega
theorem cry_kv (w : xH) (nr p : Nat) (x : Int32) : Sm KVv w (cry w nr p x) := by
  unfold cry
  generalize nxr _ _ _ = o
  cases o with
  | none => unfold cry1; exact ((Sm.rf _ w).si _ (Or.inr (by simp))).si _ (Or.inr (by simp))
  | some a => unfold cry1; exact ((Sm.rf _ w).si _ (Or.inl (by simp))).si _ (Or.inl (by simp))
theorem cry_43 (w : xH) (nr p : Nat) (x : Int32) (q : Nat) : hI (cry w nr p x) (43, 0) q = hI w (43, 0) q := by
  unfold cry
  generalize nxr _ _ _ = o
  cases o with
  | none => unfold cry1; rw [hI_sI, if_neg (by simp), hI_sI, if_neg (by simp)]
  | some a => unfold cry1; rw [hI_sI, if_neg (by simp), hI_sI, if_neg (by simp)]
theorem bs_kb (i : InvQ qq L xs nr nt v) {p : Nat} (hp : p < 49) (uns : hI v (43, 0) p = 0) : Sm (KK [17, 5, 19, 10, 63, 48, 18, 65, 66] []) v (bsP v nt p) := by
  by_cases R : refP v nt p
  · rw [bs_r R]
    refine (rfs_inv i hp uns nt (Nat.le_refl _)).2.mono (fun n j z => ?_)
    rcases z with z | z
    · exact Or.inl (by simp at z ⊢; omega)
    · simp at z
  · rw [bs_n R]
    have cs := cts_sm p (gtP v nt p) v nt
    refine ⟨fun n j k => ?_, cs.2.1, cs.2.2⟩
    show @ite _ (n = (18, p) ∧ j < lls p ∧ Wp v p j = true ∧ 0 < lvl (hI v) nt p j) (Classical.propDecidable _) (dP v nt p j) (hI (cts p (gtP v nt p) v nt) n j) = _
    rw [if_neg (fun y => k (by rw [y.1]; simp [KK]))]
    exact cs.1 n j (fun y => k (by rcases y with y | y <;> (rw [y]; simp [KK])))
theorem sv_kv (i : InvQ qq L xs nr nt v) {p : Nat} (hp : p < 49) (uns : hI v (43, 0) p = 0) : Sm KVv v (sv v nr nt p) := by
  unfold sv
  refine (((bs_kb i hp uns).mono (fun n j z => ?_)).tr ((ent_sm _ _ _ _ _ _ _).mono (fun n j z => ?_))).tr (cry_kv _ _ _ _)
  · rcases z with z | z
    · exact Or.inl (by simp at z ⊢; omega)
    · simp at z
  · exact Or.inl (by simp [KE] at z ⊢; omega)
theorem sv_43 (i : InvQ qq L xs nr nt v) {p : Nat} (hp : p < 49) (uns : hI v (43, 0) p = 0) (q : Nat) : hI (sv v nr nt p) (43, 0) q = if q = p then 1 else hI v (43, 0) q := by
  unfold sv
  rw [cry_43, ent_m _ _ _ _ _ _ _ _ _ (Or.inl (by simp))]
  by_cases c : q = p
  · rw [if_pos ⟨rfl, c⟩, if_pos c]
  · rw [if_neg (fun z => c z.2), if_neg c, if_neg (by simp), if_neg (by simp), if_neg (by simp), if_neg (by simp), if_neg (by simp)]
    exact (bs_kb i hp uns).1 _ _ (by simp [KK])
/-- a pool that can be settled -/
def rip (v : xH) (p : Nat) : Prop := hI v (40, 0) p = 1 ∧ hI v (43, 0) p = 0 ∧ hI v (35, 0) (frp (hI v) p) = 2 ∧ hI v (35, 0) (scp (hI v) p) = 2
noncomputable def svr (v : xH) (nr nt p : Nat) : xH := @ite _ (rip v p) (Classical.propDecidable _) (sv v nr nt p) v
noncomputable def nsv (v : xH) (p : Nat) : Nat := @ite _ (rip v p) (Classical.propDecidable _) 1 0
theorem svr_ok (i : InvQ False L xs nr nt v) {p : Nat} (hp : p < 49) : InvQ False L xs nr nt (svr v nr nt p) ∧ Sm KVv v (svr v nr nt p) ∧ (∀ q, q ≠ p → hI (svr v nr nt p) (43, 0) q = hI v (43, 0) q) ∧ (rip v p → hI (svr v nr nt p) (43, 0) p = 1) ∧ (¬ rip v p → svr v nr nt p = v) := by
  unfold svr
  by_cases R : rip v p
  · rw [if_pos R]
    exact ⟨sv_inv i hp R.1 R.2.1 R.2.2.1 R.2.2.2, sv_kv i hp R.2.1, fun q hq => by rw [sv_43 i hp R.2.1, if_neg hq], fun _ => by rw [sv_43 i hp R.2.1, if_pos rfl], fun z => absurd R z⟩
  · rw [if_neg R]
    exact ⟨i, Sm.rf _ v, fun _ _ => rfl, fun z => absurd z R, fun _ => rfl⟩
theorem w_ripeC (i : InvQ False L xs nr nt v) (s : SCx v h) {p : Nat} (hp : p < 49) {Q : Int32 → xH → Prop} (q : ∀ h', SCx (svr v nr nt p) h' → Sm KC h h' → Q (nI (nsv v p)) h') : p_T_settleIfRipe (11, 0) (hR h (28, 0) p) h Q := by
  rw [s.2.2]
  by_cases R : rip v p
  · have e : hR v (28, 0) p = (5, p) := (th01 i hp).elim (fun z => z.2) (fun z => absurd (R.1.symm.trans z.1) (by decide))
    rw [e]
    refine w_settleC i s hp R.1 R.2.1 R.2.2.1 R.2.2.2 (fun h' s' z' => ?_)
    have := q h' (by unfold svr; rw [if_pos R]; exact s') z'
    unfold nsv at this
    rw [if_pos R] at this
    exact this
  · have fin : Q 0 h := by
      have := q h (by unfold svr; rw [if_neg R]; exact s) (Sm.rf _ h)
      unfold nsv at this
      rw [if_neg R] at this
      exact this
    unfold p_T_settleIfRipe
    rcases th01 i hp with ⟨th, e⟩ | ⟨nth, e⟩
    · rw [e]
      obtain ⟨w, iw, sw, kw⟩ := SCx.up i s
      have E := scr_eq kw
      have tw : hI w (40, 0) p = 1 := by rw [E.2.2.2.2.2.2.1]; exact th
      have rc := prc i hp th
      have pr := plr i hp th
      have R2 : hR h (5, p) 2 = (6, frp (hI v) p) := by rw [s.2.2]; exact pr.2.1
      have R3 : hR h (5, p) 3 = (6, scp (hI v) p) := by rw [s.2.2]; exact pr.2.2.1
      have S1 : hI h (6, frp (hI v) p) 7 = hI v (35, 0) (frp (hI v) p) := by rw [s.i 6 _ 7 (by omega) (ksk_k (by omega)), (i.vr.1 _ rc.1).2.1]
      have S2 : hI h (6, scp (hI v) p) 7 = hI v (35, 0) (scp (hI v) p) := by rw [s.i 6 _ 7 (by omega) (ksk_k (by omega)), (i.vr.1 _ rc.2.1).2.1]
      refine ⟨fun z => absurd z (by simp), fun _ => ⟨rfl, w_isSettled iw sw hp tw (fun u => ⟨fun z => absurd rfl z, fun _ => ?_⟩) (fun u => ⟨fun _ => fin, fun z => absurd z (by decide)⟩)⟩⟩
      rw [E.2.2.2.2.2.2.2.2] at u
      rw [R2, R3, S1, S2]
      exact ⟨rfl, fun _ => fin, fun y1 => ⟨rfl, fun y2 => absurd ⟨th, u, y1, y2⟩ R, fun _ => fin⟩⟩
    · rw [e]
      exact ⟨fun _ => fin, fun z => absurd rfl z⟩
/-- the four pools of a race -/
noncomputable def chn (v : xH) (nr nt r : Nat) : Nat → xH
  | 0 => v
  | k + 1 => svr (chn v nr nt r k) nr nt (4 * r + k)
noncomputable def tot (v : xH) (nr nt r : Nat) : Nat → Nat
  | 0 => 0
  | k + 1 => tot v nr nt r k + nsv (chn v nr nt r k) (4 * r + k)
theorem rip_cg {w : xH} {p : Nat} (s : Sm KVv v w) (e : hI w (43, 0) p = hI v (43, 0) p) : rip w p ↔ rip v p := by
  have fr : frp (hI w) p = frp (hI v) p := by unfold frp; rw [s.1 _ _ (kv_12 (by omega))]
  have sc : scp (hI w) p = scp (hI v) p := by unfold scp; rw [s.1 _ _ (kv_12 (by omega))]
  unfold rip
  rw [fr, sc, e, s.1 _ _ (kv_k (by omega)), s.1 _ _ (kv_k (by omega)), s.1 _ _ (kv_k (by omega))]
theorem chn_ok (i : InvQ False L xs nr nt v) {r : Nat} (hr : r < 12) : ∀ k, k ≤ 4 → InvQ False L xs nr nt (chn v nr nt r k) ∧ Sm KVv v (chn v nr nt r k) ∧ (∀ q, q < 4 * r ∨ 4 * r + k ≤ q → hI (chn v nr nt r k) (43, 0) q = hI v (43, 0) q) ∧ (∀ j, j < k → rip v (4 * r + j) → hI (chn v nr nt r k) (43, 0) (4 * r + j) = 1)
  | 0, _ => ⟨i, Sm.rf _ v, fun _ _ => rfl, fun j hj => by omega⟩
  | k + 1, hk => by
    obtain ⟨a, b, c, d⟩ := chn_ok i hr k (by omega)
    obtain ⟨a', b', c', d', -⟩ := svr_ok a (p := 4 * r + k) (by omega)
    refine ⟨a', b.tr b', fun q hq => (c' q (by omega)).trans (c q (by omega)), fun j hj R => ?_⟩
    by_cases e : j = k
    · subst e
      exact d' ((rip_cg b (c _ (by omega))).mpr R)
    · exact (c' _ (by omega)).trans (d j (by omega) R)
theorem w_chnC (i : InvQ False L xs nr nt v) {r : Nat} (hr : r < 12) (s : SCx v h) {K Q : Int32 → xH → Prop} (q : ∀ h', SCx (chn v nr nt r 4) h' → Sm KC h h' → K (nI (tot v nr nt r 4)) h') : ∃ f, p_T_official_L69 (11, 0) (nI r) K Q f 0 0 h := by
  have key : ∀ (m k : Nat) (h' : xH), k + m = 4 → SCx (chn v nr nt r k) h' → Sm KC h h' → p_T_official_L69 (11, 0) (nI r) K Q (m + 1) (nI (tot v nr nt r k)) (nI k) h' := by
    intro m
    induction m with
    | zero =>
      intro k h' hk S z
      have : k = 4 := by omega
      subst this
      unfold p_T_official_L69
      exact ⟨fun _ => q h' S z, fun y => absurd (by decide) y⟩
    | succ m ih =>
      intro k h' hk S z
      obtain ⟨a, -⟩ := chn_ok i hr k (by omega)
      have x : ShX (hS h') (hR h') := by rw [S.2.1, S.2.2]; exact a.x
      have ix : (4 : Int32) * nI r + nI k = nI (4 * r + k) := by rw [show (4 : Int32) = nI 4 from rfl, nI_x, nI_add]
      unfold p_T_official_L69 p_T_poolNumber
      rw [show (3 : Int32) = nI 3 from rfl, ltn (by omega) (by omega)]
      refine ⟨fun y => absurd y (by omega), fun _ => ⟨rfl, ?_⟩⟩
      show _ ∧ _
      rw [xR_11_0_1 x, xS_28_0 x, ix, cl_n (by omega)]
      refine ⟨rfl, in_n (by omega) (by omega), w_ripeC a S (by omega) (fun h2 s2 z2 => fun v26 e26 v28 e28 => ?_)⟩
      rw [e26, e28, nI_1, nI_add]
      exact ih (k + 1) h2 (by omega) s2 (z.tr z2)
  exact ⟨5, key 4 0 h rfl s (Sm.rf _ h)⟩
theorem AtH.fr {g' : xH} {o : xN} {a : Nat → Nat} (A : AtH g o a) (e : ∀ j, hI g' o j = hI g o j) (e2 : hS g' = hS g) : AtH g' o a := ⟨A.1, by rw [e2]; exact A.2.1, fun k hk => by rw [e]; exact A.2.2 k hk⟩
theorem w_chnM (i : InvQ False L xs nr nt v) {r : Nat} (hr : r < 12) (rp : ∀ k, k < 4 → hI v (40, 0) (4 * r + k) = 1 → rip v (4 * r + k)) (s : SMx v g) (A : AtH g (67, 0) (atP (posM (hI v) r) (nRn v r))) {K Q : Int32 → xH → Prop} (q : ∀ g', SMx (chn v nr nt r 4) g' → Sm KM g g' → K (nI (tot v nr nt r 4)) g') : ∃ f, p_M_official_L54 (12, 0) (nI r) K Q f 0 (nI (4 * r)) g := by
  have i4 : (4 : Int32) * nI r + (4 : Int32) = nI (4 * r + 4) := by rw [show (4 : Int32) = nI 4 from rfl, nI_x, nI_add]
  have key : ∀ (m k : Nat) (g' : xH), k + m = 4 → SMx (chn v nr nt r k) g' → Sm KM g g' → AtH g' (67, 0) (atP (posM (hI v) r) (nRn v r)) → p_M_official_L54 (12, 0) (nI r) K Q (m + 1) (nI (tot v nr nt r k)) (nI (4 * r + k)) g' := by
    intro m
    induction m with
    | zero =>
      intro k g' hk S z A
      have : k = 4 := by omega
      subst this
      unfold p_M_official_L54
      rw [i4, le_nn (by omega) (by omega)]
      exact ⟨fun _ => q g' S z, fun y => absurd (Nat.le_refl _) y⟩
    | succ m ih =>
      intro k g' hk S z A
      obtain ⟨a, b, c, -⟩ := chn_ok i hr k (by omega)
      have m' : ShM (hS g') (hR g') := by rw [S.2.1, S.2.2]; exact a.m
      have e40 : hI g' (40, 0) (4 * r + k) = hI v (40, 0) (4 * r + k) := by rw [S.1 _ _ (Or.inl (by simp)) (ksc_k (by omega)), b.1 _ _ (kv_k (by omega))]
      have en : tot v nr nt r (k + 1) = tot v nr nt r k + nsv (chn v nr nt r k) (4 * r + k) := rfl
      have es : chn v nr nt r (k + 1) = svr (chn v nr nt r k) nr nt (4 * r + k) := rfl
      have rc := rip_cg b (c (4 * r + k) (by omega))
      unfold p_M_official_L54
      rw [i4, le_nn (by omega) (by omega), mR6 m', mS6 m', cl_n (by omega), e40]
      refine ⟨fun y => absurd y (by omega), fun _ => ⟨rfl, rfl, in_n (by omega) (by omega), fun nth y ey => ?_, fun th => ?_⟩⟩
      · have nr' : ¬ rip (chn v nr nt r k) (4 * r + k) := fun y => absurd (nth.symm.trans (rc.mp y).1) (by decide)
        have := ih (k + 1) g' (by omega) (by rw [es]; unfold svr; rw [if_neg nr']; exact S) z A
        rw [en] at this
        unfold nsv at this
        rw [if_neg nr'] at this
        rw [ey, nI_1]
        exact this
      · have th1 : hI v (40, 0) (4 * r + k) = 1 := (th01 i (p := 4 * r + k) (by omega)).elim (fun z => z.1) (fun z => absurd z.1 th)
        have R := rc.mpr (rp k (by omega) th1)
        have k4 : kf (4 * r + k) ≠ 4 := by unfold kf; rw [if_neg (by omega)]; omega
        have fr : frp (hI (chn v nr nt r k)) (4 * r + k) = r := by unfold frp; rw [if_neg (by omega)]; omega
        have ep : posM (hI (chn v nr nt r k)) r = posM (hI v) r := funext (fun x => by unfold posM; rw [b.1 _ _ (kv_k (by omega))])
        have er : nRn (chn v nr nt r k) r = nRn v r := by unfold nRn; rw [b.1 _ _ (kv_k (by omega))]
        refine w_settleM a S (by omega) R.1 R.2.1 (at1 := atP (posM (hI (chn v nr nt r k)) (frp (hI (chn v nr nt r k)) (4 * r + k))) (nRn (chn v nr nt r k) (frp (hI (chn v nr nt r k)) (4 * r + k)))) (at2 := atP (posM (hI (chn v nr nt r k)) (scp (hI (chn v nr nt r k)) (4 * r + k))) (nRn (chn v nr nt r k) (scp (hI (chn v nr nt r k)) (4 * r + k)))) (by rw [fr, ep, er]; exact A) (fun e => absurd e k4) rfl (fun g2 s2 z2 m2 => fun y ey y2 ey2 => ?_)
        have := ih (k + 1) g2 (by omega) (by rw [es]; unfold svr; rw [if_pos R]; exact s2) (z.tr m2) (A.fr z2 m2.2.1)
        rw [en] at this
        unfold nsv at this
        rw [if_pos R] at this
        rw [ey, ey2, nI_1, nI_1]
        exact this
  exact ⟨5, key 4 0 g rfl s (Sm.rf _ g) A⟩
end Ripe
