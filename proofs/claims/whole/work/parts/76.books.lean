section Books
variable {qq : Prop} {L : Nat} {xs : Nat → Int32} {nr nt : Nat} {v h g : xH}
theorem nI_x (a b : Nat) : nI a * nI b = nI (a * b) := (Int32.ofNat_mul a b).symm
theorem sm_some {f : Nat → Nat} : ∀ n, 0 < sm f n → ∃ k, k < n ∧ 0 < f k
  | 0, h => absurd h (Nat.lt_irrefl 0)
  | n + 1, h => by
    unfold sm at h
    by_cases c : 0 < f n
    · exact ⟨n, by omega, c⟩
    · obtain ⟨k, h1, h2⟩ := sm_some (f := f) n (by omega)
      exact ⟨k, by omega, h2⟩
theorem sm_add (f g : Nat → Nat) : ∀ n, sm (fun k => f k + g k) n = sm f n + sm g n
  | 0 => rfl
  | n + 1 => by unfold sm; rw [sm_add f g n]; omega
theorem sm_0 : ∀ n, sm (fun _ => 0) n = 0
  | 0 => rfl
  | n + 1 => by unfold sm; rw [sm_0 n]
theorem sm_swap (F : Nat → Nat → Nat) (M : Nat) : ∀ n, sm (fun l => sm (fun t => F t l) n) M = sm (fun t => sm (fun l => F t l) M) n
  | 0 => sm_0 M
  | n + 1 => by
    show sm (fun l => sm (fun t => F t l) n + F n l) M = sm (fun t => sm (fun l => F t l) M) n + sm (fun l => F n l) M
    rw [sm_add, sm_swap F M n]
theorem sm_spike {x u : Nat} : ∀ M, sm (fun l => if x = l then u else 0) M = if x < M then u else 0
  | 0 => by simp [sm]
  | M + 1 => by
    unfold sm
    rw [sm_spike M]
    by_cases e : x = M
    · rw [if_neg (by omega), if_pos e, if_pos (by omega)]; omega
    · rw [if_neg e]
      by_cases c : x < M
      · rw [if_pos c, if_pos (by omega)]; rfl
      · rw [if_neg c, if_neg (by omega)]
theorem sm_mono {f g : Nat → Nat} : ∀ n, (∀ k, k < n → f k ≤ g k) → sm f n ≤ sm g n
  | 0, _ => Nat.le_refl _
  | n + 1, e => by
    unfold sm
    have := sm_mono n (fun k hk => e k (by omega))
    have := e n (by omega)
    omega
theorem sm_mul (f : Nat → Nat) (u : Nat) : ∀ n, sm (fun k => f k * u) n = sm f n * u
  | 0 => by simp [sm]
  | n + 1 => by unfold sm; rw [sm_mul f u n, Nat.add_mul]
theorem lvl_ub (i : InvQ qq L xs nr nt v) (p : Nat) : UB p (lvl (hI v) nt p) := by
  have hn := i.vc.2.1
  refine ⟨fun l => ?_, fun ln n S e h => Nat.le_trans (en_le e h) hn⟩
  have := sm_le (f := fun t => if hI v (58, 0) t = nI p ∧ hI v (63, 0) t = 0 ∧ tl (hI v) t = l then (hI v (62, 0) t).toNatClampNeg else 0) (B := 1000) nt (fun t ht => by
    obtain ⟨p', A, B, C, u, k⟩ := tkf i ht
    have hu := k.u2
    rw [k.eu, cl_n (by omega)]
    split <;> omega)
  unfold lvl
  omega
theorem lvl_trp (i : InvQ qq L xs nr nt v) {p l : Nat} (hp : p < 49) (h : 0 < lvl (hI v) nt p l) : ∃ a b c, trp (kf p) a b c ∧ lin (kf p) a b c = l := by
  obtain ⟨t, ht, z⟩ := sm_some nt h
  obtain ⟨p', A, B, C, u, k⟩ := tkf i ht
  have hp' := k.p49
  by_cases c : hI v (58, 0) t = nI p ∧ hI v (63, 0) t = 0 ∧ tl (hI v) t = l
  · have e : p' = p := (nI_inj (by omega) (by omega)).mp (k.pool.symm.trans c.1)
    subst e
    exact ⟨A, B, C, k.trp, by rw [← tl_eq k]; exact c.2.2⟩
  · rw [if_neg c] at z; omega
theorem lvl_sum (i : InvQ qq L xs nr nt v) {p : Nat} (hp : p < 49) : sm (lvl (hI v) nt p) (lls p) = lvu (hI v) nt p := by
  have := sm_swap (fun t l => if hI v (58, 0) t = nI p ∧ hI v (63, 0) t = 0 ∧ tl (hI v) t = l then (hI v (62, 0) t).toNatClampNeg else 0) (lls p) nt
  refine Eq.trans this (sm_congr nt (fun t ht => ?_))
  obtain ⟨p', A, B, C, u, k⟩ := tkf i ht
  have hp' := k.p49
  by_cases c : hI v (58, 0) t = nI p ∧ hI v (63, 0) t = 0
  · have e : p' = p := (nI_inj (by omega) (by omega)).mp (k.pool.symm.trans c.1)
    subst e
    rw [if_pos c]
    refine Eq.trans (sm_congr _ (fun l _ => ?_)) ((sm_spike (x := tl (hI v) t) (u := (hI v (62, 0) t).toNatClampNeg) (lls p')).trans (if_pos (by rw [tl_eq k]; exact lin_lt k.a12 k.b12 k.c12)))
    by_cases e : tl (hI v) t = l
    · rw [if_pos ⟨c.1, c.2, e⟩, if_pos e]
    · rw [if_neg (fun y => e y.2.2), if_neg e]
  · rw [if_neg c]
    exact Eq.trans (sm_congr _ (fun l _ => if_neg (fun y => c ⟨y.1, y.2.1⟩))) (sm_0 _)
theorem lvl_psm (i : InvQ qq L xs nr nt v) {p : Nat} (hp : p < 49) : psm (fun l => if 0 < lvl (hI v) nt p l then nI (lvl (hI v) nt p l) else 0) (lls p) = nI (lvu (hI v) nt p) := by
  rw [← lvl_sum i hp]
  refine psm_n _ (fun l _ => ?_)
  split
  · rfl
  · rw [show lvl (hI v) nt p l = 0 by omega]; rfl
/-- the live stakes of a pool are among its stakes -/
theorem lvu_le (i : InvQ qq L xs nr nt v) {p u : Nat} (hp : p < 49) (hu : hI v (42, 0) p = nI u) (u1 : u ≤ 1000) : lvu (hI v) nt p * u ≤ sm (fun t => if (hI v (58, 0) t).toNatClampNeg = p then (hI v (62, 0) t).toNatClampNeg * (hI v (42, 0) (hI v (58, 0) t).toNatClampNeg).toNatClampNeg else 0) nt := by
  unfold lvu
  rw [← sm_mul]
  refine sm_mono nt (fun t ht => ?_)
  by_cases c : hI v (58, 0) t = nI p ∧ hI v (63, 0) t = 0
  · rw [if_pos c, c.1, cl_n (by omega), if_pos rfl, hu, cl_n (by omega)]; omega
  · rw [if_neg c, Nat.zero_mul]; exact Nat.zero_le _
theorem lvu_le2 (i : InvQ qq L xs nr nt v) {p u : Nat} (hp : p < 49) (hu : hI v (42, 0) p = nI u) (u1 : u ≤ 1000) : lvu (hI v) nt p * u ≤ 200000000 := Nat.le_trans (lvu_le i hp hu u1) (stakes_le i (fun t => (hI v (58, 0) t).toNatClampNeg = p))
theorem zT_n {lu un de : Nat} (h : lu * un ≤ 200000000) (hd : de ≤ 500) : zT (nI lu) (nI un) (nI de) = nI (lu * un * de / 1000) := by
  unfold zT
  rw [nI_x, nI_l (by omega), nI_l (by omega), lN_mul, show (1000 : Int64) = lN 1000 from rfl, pk_lDiv (by have := Nat.mul_le_mul h hd; omega) (by omega) (by omega), lN_i]
theorem nI_mn {a b : Nat} (h : b ≤ a) : nI a - nI b = nI (a - b) := by
  have : nI a = nI (a - b) + nI b := by rw [nI_add]; congr 1; omega
  rw [this, Int32.add_sub_cancel]
theorem zE_n {lu un de ca : Nat} (h : lu * un ≤ 200000000) (hd : de ≤ 500) : zE (nI lu) (nI un) (nI de) (nI ca) = nI (lu * un - lu * un * de / 1000 + ca) := by
  unfold zE
  rw [zT_n h hd, nI_x, nI_mn, nI_add]
  have := Nat.mul_le_mul_left (lu * un) hd
  omega
theorem zB_n (M : Nat) (U : Nat → Nat) (W : Nat → Bool) : ∃ b, b ≤ sm U M ∧ zB M U W = nI b := by
  refine ⟨sm (fun l => if W l = true ∧ 0 < U l then U l else 0) M, sm_mono M (fun l _ => ?_), psm_n M (fun l _ => ?_)⟩
  · split <;> omega
  · split <;> rfl
/-- what a pool has in hand -/
def Bk (v : xH) (nt p lu un de ca : Nat) : Prop := lvu (hI v) nt p = lu ∧ hI v (42, 0) p = nI un ∧ hI v (41, 0) p = nI de ∧ hI v (50, 0) p = nI ca ∧ 10 ≤ un ∧ un ≤ 1000 ∧ de ≤ 500 ∧ lu * un ≤ 200000000 ∧ ca ≤ 200000000 ∧ (kf p ≠ 3 → ca = 0)
theorem bk (i : InvQ qq L xs nr nt v) {p : Nat} (hp : p < 49) (there : hI v (40, 0) p = 1) (uns : ¬ hI v (43, 0) p = 1) : ∃ un de ca, Bk v nt p (lvu (hI v) nt p) un de ca := by
  obtain ⟨d, d1, d2⟩ := (plk i hp there).2.2.2.2.1
  obtain ⟨u, u1, u2, u3⟩ := (plk i hp there).2.2.2.2.2.1
  obtain ⟨ca, dd, re, v1, v2, v3, v4, v5, v6⟩ := i.vm
  have B := stakes_le i (fun t => hI v (43, 0) (hI v (58, 0) t).toNatClampNeg = 1)
  refine ⟨u, d, ca p, rfl, u3, d2, v1 p hp, u1, u2, d1, lvu_le2 i hp u3 u2, ?_, v4 p hp⟩
  have := sm_ex (f := fun p => if hI v (43, 0) p = 1 then 0 else ca p) (g := fun k => if k = p then 0 else if hI v (43, 0) k = 1 then 0 else ca k) (i := p) (fun k hk => if_neg hk) 49 hp
  simp only [if_neg uns, if_true, Nat.add_zero] at this
  omega
theorem bk_zE {p lu un de ca : Nat} (b : Bk v nt p lu un de ca) : 0 ≤ (zE (nI lu) (nI un) (nI de) (nI ca)).toInt := by
  obtain ⟨b1, b2, b3, b4, b5, b6, b7, b8, b9, b10⟩ := b
  rw [zE_n b8 b7, ti_n (by omega)]; omega
theorem bk_zA (i : InvQ qq L xs nr nt v) {p lu un de ca : Nat} (hp : p < 49) (b : Bk v nt p lu un de ca) (W : Nat → Bool) : -2147483648 < (zA (lls p) (lvl (hI v) nt p) W (nI lu) (nI un) (nI de) (nI ca)).toInt := by
  obtain ⟨b1, b2, b3, b4, b5, b6, b7, b8, b9, b10⟩ := b
  obtain ⟨z, z1, z2⟩ := zB_n (lls p) (lvl (hI v) nt p) W
  rw [lvl_sum i hp, b1] at z1
  have z3 := Nat.mul_le_mul_right un z1
  unfold zA
  rw [zE_n b8 b7, z2, nI_x, Int32.toInt_sub, ti_n (by omega), ti_n (by omega), Int.bmod_eq_of_le (by omega) (by omega)]
  omega
end Books
