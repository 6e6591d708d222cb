section SvInv2
variable {qq : Prop} {L : Nat} {xs : Nat → Int32} {nr nt : Nat} {v b w e h g : xH}
theorem cn_pos {f : Nat → Bool} {x : Nat} : ∀ {n}, x < n → f x = true → 0 < cn f n
  | 0, h, _ => by omega
  | n + 1, h, e => by
    unfold cn
    by_cases c : x = n
    · subst c; rw [e]; simp
    · have := cn_pos (n := n) (by omega) e
      omega
theorem cts_66 (p : Nat) (gt : Nat → Int32) (v : xH) : ∀ T t, hI (cts p gt v T) (66, 0) t = if t < T ∧ hI v (58, 0) t = nI p ∧ hI v (63, 0) t = 0 then 1 else hI v (66, 0) t
  | 0, t => by rw [if_neg (fun z => by omega)]; rfl
  | T + 1, t => by
    have ih := cts_66 p gt v T t
    unfold cts ct1
    rw [cts_o T (by omega), cts_o T (by omega)]
    by_cases c : hI v (58, 0) T = nI p ∧ hI v (63, 0) T = 0
    · rw [if_pos c, hI_sI, if_neg (by simp), hI_sI]
      by_cases e : t = T
      · rw [if_pos ⟨rfl, e⟩, if_pos ⟨by omega, by rw [e]; exact c⟩]
      · rw [if_neg (fun z => e z.2), ih]
        by_cases d : t < T ∧ hI v (58, 0) t = nI p ∧ hI v (63, 0) t = 0
        · rw [if_pos d, if_pos ⟨by omega, d.2⟩]
        · rw [if_neg d, if_neg (fun z => d ⟨by omega, z.2⟩)]
    · rw [if_neg c, ih]
      by_cases d : t < T ∧ hI v (58, 0) t = nI p ∧ hI v (63, 0) t = 0
      · rw [if_pos d, if_pos ⟨by omega, d.2⟩]
      · rw [if_neg d, if_neg (fun z => d ⟨by
          have : t ≠ T := fun e => c (by rw [← e]; exact z.2)
          omega, z.2⟩)]
theorem cts_65 (p : Nat) (gt : Nat → Int32) (v : xH) : ∀ T t, hI (cts p gt v T) (65, 0) t = if t < T ∧ hI v (58, 0) t = nI p ∧ hI v (63, 0) t = 0 then gt (tl (hI v) t) else hI v (65, 0) t
  | 0, t => by rw [if_neg (fun z => by omega)]; rfl
  | T + 1, t => by
    have ih := cts_65 p gt v T t
    have et : tl (hI (cts p gt v T)) T = tl (hI v) T := by unfold tl; rw [cts_o T (by omega), cts_o T (by omega), cts_o T (by omega), cts_o T (by omega)]
    unfold cts ct1
    rw [cts_o T (by omega), cts_o T (by omega), et]
    by_cases c : hI v (58, 0) T = nI p ∧ hI v (63, 0) T = 0
    · rw [if_pos c, hI_sI]
      by_cases e : t = T
      · rw [if_pos ⟨rfl, e⟩, if_pos ⟨by omega, by rw [e]; exact c⟩, e]
      · rw [if_neg (fun z => e z.2), hI_sI, if_neg (by simp), ih]
        by_cases d : t < T ∧ hI v (58, 0) t = nI p ∧ hI v (63, 0) t = 0
        · rw [if_pos d, if_pos ⟨by omega, d.2⟩]
        · rw [if_neg d, if_neg (fun z => d ⟨by omega, z.2⟩)]
    · rw [if_neg c, ih]
      by_cases d : t < T ∧ hI v (58, 0) t = nI p ∧ hI v (63, 0) t = 0
      · rw [if_pos d, if_pos ⟨by omega, d.2⟩]
      · rw [if_neg d, if_neg (fun z => d ⟨by
          have : t ≠ T := fun e => c (by rw [← e]; exact z.2)
          omega, z.2⟩)]
theorem rfs_dead (i : InvQ qq L xs nr nt v) {p : Nat} (hp : p < 49) (uns : hI v (43, 0) p = 0) : ∀ T, T ≤ nt → ∀ t, t < T → hI (rfs p v T) (58, 0) t = nI p → ¬ hI (rfs p v T) (63, 0) t = 0
  | 0, _, t, ht => by omega
  | T + 1, hT, t, ht => by
    obtain ⟨ii, kk⟩ := rfs_inv i hp uns T (by omega)
    obtain ⟨q, A, B, C, u, k⟩ := tkf ii (t := T) (by omega)
    have e63 : ∀ x, hI (refv (rfs p v T) T) (63, 0) x = if x = T then 2 else hI (rfs p v T) (63, 0) x := fun x => by
      rw [refv_eq k]; unfold eM eC
      rw [hI_sI, if_neg (by simp), hI_sI]
      by_cases e : x = T
      · rw [if_pos ⟨rfl, e⟩, if_pos e]
      · rw [if_neg (fun z => e z.2), if_neg e, hI_sI, if_neg (by simp), hI_sI, if_neg (by simp), hI_sI, if_neg (by simp), hI_sI, if_neg (by simp)]
    have e58 : ∀ x, hI (refv (rfs p v T) T) (58, 0) x = hI (rfs p v T) (58, 0) x := fun x => (refv_sm _ _).1 _ _ (by simp [KK])
    show hI (rf1 p (rfs p v T) T) (58, 0) t = nI p → ¬ hI (rf1 p (rfs p v T) T) (63, 0) t = 0
    unfold rf1
    by_cases c : hI (rfs p v T) (58, 0) T = nI p ∧ hI (rfs p v T) (63, 0) T = 0
    · rw [if_pos c, e58, e63]
      by_cases e : t = T
      · rw [if_pos e]; intro _ z; exact absurd z (by decide)
      · rw [if_neg e]; exact rfs_dead i hp uns T (by omega) t (by omega)
    · rw [if_neg c]
      by_cases e : t = T
      · subst e; exact fun y z => c ⟨y, z⟩
      · exact rfs_dead i hp uns T (by omega) t (by omega)
theorem nxr_some {I : xN → Nat → Int32} : ∀ m a x, nxr I m a = some x → a ≤ x ∧ x < a + m ∧ I (40, 0) (4 * x + 3) = 1 ∧ ¬ I (35, 0) x = 2
  | 0, a, x, z => by simp [nxr] at z
  | m + 1, a, x, z => by
    rw [nxr] at z
    by_cases c : I (40, 0) (4 * a + 3) = 1 ∧ ¬ I (35, 0) a = 2
    · rw [if_pos c] at z
      have : a = x := Option.some.inj z
      subst this
      exact ⟨Nat.le_refl _, by omega, c.1, c.2⟩
    · rw [if_neg c] at z
      have y := nxr_some m (a + 1) x z
      exact ⟨by omega, by omega, y.2.2⟩
theorem cry_inv (i : InvQ qq L xs nr nt e) {x : Nat} (m : VMx (hI e) nt x) (p : Nat) : InvQ qq L xs nr nt (cry e nr p (nI x)) := by
  have hnr := i.vc.1
  unfold cry
  refine cry1_inv i m _ (fun a ha => ?_)
  obtain ⟨a1, a2, a3, a4⟩ := nxr_some _ _ _ ha
  have a12 : a < 12 := by omega
  refine ⟨a12, a3, (i.vqw (4 * a + 3) (by omega) a3).elim (fun y => absurd y.2.1 ?_) id⟩
  unfold frp; rw [if_neg (by omega), show (4 * a + 3) / 4 = a by omega]; exact a4
theorem dv_vd (i : InvQ qq L xs nr nt v) {p : Nat} (hp : p < 49) (there : hI v (40, 0) p = 1) (uns : hI v (43, 0) p = 0) : VD (hI (dvP v (cts p (gtP v nt p) v nt) nt p)) nt := by
  have hI' : ∀ n j, hI (dvP v (cts p (gtP v nt p) v nt) nt p) n j = @ite _ (n = (18, p) ∧ j < lls p ∧ Wp v p j = true ∧ 0 < lvl (hI v) nt p j) (Classical.propDecidable _) (dP v nt p j) (hI (cts p (gtP v nt p) v nt) n j) := fun n j => rfl
  have o : ∀ k j, k ≠ 18 → k ≠ 65 → k ≠ 66 → hI (dvP v (cts p (gtP v nt p) v nt) nt p) (k, 0) j = hI v (k, 0) j := fun k j h1 h2 h3 => by
    rw [hI', if_neg (fun z => h1 (congrArg Prod.fst z.1)), cts_o nt ⟨h2, h3⟩]
  have o66 : ∀ t, hI (dvP v (cts p (gtP v nt p) v nt) nt p) (66, 0) t = if t < nt ∧ hI v (58, 0) t = nI p ∧ hI v (63, 0) t = 0 then 1 else hI v (66, 0) t := fun t => by
    rw [hI', if_neg (by simp), cts_66]
  have o65 : ∀ t, hI (dvP v (cts p (gtP v nt p) v nt) nt p) (65, 0) t = if t < nt ∧ hI v (58, 0) t = nI p ∧ hI v (63, 0) t = 0 then gtP v nt p (tl (hI v) t) else hI v (65, 0) t := fun t => by
    rw [hI', if_neg (by simp), cts_65]
  have oc18 : ∀ q l, hI (cts p (gtP v nt p) v nt) (18, q) l = hI v (18, q) l := fun q l => (cts_sm _ _ _ _).1 _ _ (by simp)
  have et : ∀ t, tl (hI (dvP v (cts p (gtP v nt p) v nt) nt p)) t = tl (hI v) t := fun t => by
    unfold tl; rw [o 58 _ (by omega) (by omega) (by omega), o 59 _ (by omega) (by omega) (by omega), o 60 _ (by omega) (by omega) (by omega), o 61 _ (by omega) (by omega) (by omega)]
  intro q hq c l hl
  rw [o 40 _ (by omega) (by omega) (by omega)] at c
  have z := i.vd q hq c l hl
  by_cases e : q = p
  · subst e
    have none : ∀ t, t < nt → hI v (66, 0) t = 1 → hI v (58, 0) t = nI q → False := fun t ht y1 y2 => by
      obtain ⟨p', A, B, C, u, k⟩ := tkf i ht
      have hp' := k.p49
      have ep : p' = q := (nI_inj (by omega) (by omega)).mp (k.pool.symm.trans y2)
      subst ep
      rcases k.cnt with y | y
      · exact absurd (uns.symm.trans y.2.1) (by decide)
      · exact absurd (y1.symm.trans y.1) (by decide)
    have z0 : hI v (18, q) l = 0 := z.2 (fun t ht y1 y2 => (none t ht y1 y2).elim)
    refine ⟨fun t ht h1 h2 h3 => ?_, fun y => ?_⟩
    · rw [o66] at h1
      rw [o 58 _ (by omega) (by omega) (by omega)] at h2
      rw [et] at h3
      have lv : hI v (63, 0) t = 0 := Classical.byContradiction (fun nl => by
        rw [if_neg (fun y => nl y.2.2)] at h1
        exact none t ht h1 h2)
      obtain ⟨p', A, B, C, u, k⟩ := tkf i ht
      have hp' := k.p49
      have ep : p' = q := (nI_inj (by omega) (by omega)).mp (k.pool.symm.trans h2)
      subst ep
      have lp := lvl_pos ht k lv
      rw [h3] at lp
      rw [o65, if_pos ⟨ht, h2, lv⟩, h3, hI', oc18, z0]
      unfold gtP
      by_cases W : Wp v p' l = true
      · have n0 : ¬ zNp v nt p' = 0 := fun z => by
          unfold zNp zN at z
          have := cn_pos (f := fun l => Wp v p' l && decide (0 < lvl (hI v) nt p' l)) hl (by simp [W, lp])
          omega
        rw [if_pos ⟨rfl, hl, W, lp⟩, if_neg n0, if_pos W]
      · rw [if_neg (fun y => W y.2.2.1)]
        by_cases n0 : zNp v nt p' = 0
        · rw [if_pos n0]
        · rw [if_neg n0, if_neg W]
    · rw [hI', oc18, z0, if_neg (fun yy => ?_)]
      obtain ⟨t, ht, z⟩ := sm_some nt yy.2.2.2
      by_cases d : hI v (58, 0) t = nI q ∧ hI v (63, 0) t = 0 ∧ tl (hI v) t = l
      · exact y t ht (by rw [o66, if_pos ⟨ht, d.1, d.2.1⟩]) (by rw [o 58 _ (by omega) (by omega) (by omega)]; exact d.1) (by rw [et]; exact d.2.2)
      · rw [if_neg d] at z; omega
  · have n : ∀ t, hI v (58, 0) t = nI q → ¬ (t < nt ∧ hI v (58, 0) t = nI p ∧ hI v (63, 0) t = 0) := fun t y w => e ((nI_inj (by omega) (by omega)).mp (y.symm.trans w.2.1))
    have e18 : hI (dvP v (cts p (gtP v nt p) v nt) nt p) (18, q) l = hI v (18, q) l := by
      rw [hI', oc18, if_neg (fun y => e (congrArg Prod.snd y.1))]
    refine ⟨fun t ht h1 h2 h3 => ?_, fun y => ?_⟩
    · rw [o 58 _ (by omega) (by omega) (by omega)] at h2
      rw [o66, if_neg (n t h2)] at h1
      rw [et] at h3
      rw [e18, o65, if_neg (n t h2)]
      exact z.1 t ht h1 h2 h3
    · rw [e18]
      refine z.2 (fun t ht h1 h2 => ?_)
      rw [← et]
      exact y t ht (by rw [o66, if_neg (n t h2)]; exact h1) (by rw [o 58 _ (by omega) (by omega) (by omega)]; exact h2)
theorem sv_inv (i : InvQ qq L xs nr nt v) {p : Nat} (hp : p < 49) (there : hI v (40, 0) p = 1) (uns : hI v (43, 0) p = 0) (st1 : hI v (35, 0) (frp (hI v) p) = 2) (st2 : hI v (35, 0) (scp (hI v) p) = 2) : InvQ False L xs nr nt (sv v nr nt p) := by
  obtain ⟨un, de, ca, b⟩ := bk i hp there (by rw [uns]; decide)
  obtain ⟨-, b2, b3, b4, b5, b6, b7, b8, b9, b10⟩ := b
  have cE : ∀ {x}, hI v (50, 0) p = nI x → x ≤ 200000000 → x = ca := fun h1 h2 => (nI_inj (by omega) (by omega)).mp (h1.symm.trans b4)
  have uE : ∀ {x}, hI v (42, 0) p = nI x → x ≤ 1000 → x = un := fun h1 h2 => (nI_inj (by omega) (by omega)).mp (h1.symm.trans b2)
  by_cases R : refP v nt p
  · obtain ⟨ii, kk⟩ := rfs_inv i hp uns nt (Nat.le_refl _)
    have x3 : x3P v nt p = nI 0 := by unfold x3P; rw [if_pos R]; rfl
    have x5 : x5P v nt p = nI ca := by unfold x5P; rw [if_pos R, b4]
    have ko : ∀ k j, k ≠ 17 ∧ k ≠ 5 ∧ k ≠ 19 ∧ k ≠ 10 ∧ k ≠ 63 ∧ k ≠ 48 → hI (rfs p v nt) (k, 0) j = hI v (k, 0) j := fun k j hk => kk.1 _ _ (by simp [KK]; omega)
    have fr : frp (hI (rfs p v nt)) p = frp (hI v) p := by unfold frp; rw [ko 12 _ (by omega)]
    have sc : scp (hI (rfs p v nt)) p = scp (hI v) p := by unfold scp; rw [ko 12 _ (by omega)]
    unfold sv
    rw [x3, x5, bs_r R]
    obtain ⟨j, m⟩ := ent_inv (X6 := x6P v nt p) (X7 := x7P v nt p) (X8 := x8P v nt p) (x3 := 0) (x5 := ca) ii hp (by rw [ko 40 _ (by omega)]; exact there) (by rw [ko 43 _ (by omega)]; exact uns) (by rw [fr, ko 35 _ (by omega)]; exact st1) (by rw [sc, ko 35 _ (by omega)]; exact st2) (Sm.rf _ _) (fun t ht y1 y2 => absurd y2 (rfs_dead i hp uns nt (Nat.le_refl _) t ht y1)) (fun _ _ => rfl) ii.vd (fun c u h1 h2 h3 h4 => by
      rw [ko 50 _ (by omega)] at h1
      have := cE h1 h2
      omega)
    exact cry_inv j m p
  · have x3 : x3P v nt p = nI (lvu (hI v) nt p * un * de / 1000) := by unfold x3P; rw [if_neg R, b2, b3, zT_n b8 b7]
    have le : lvu (hI v) nt p * un * de / 1000 ≤ lvu (hI v) nt p * un := by
      have := Nat.mul_le_mul_left (lvu (hI v) nt p * un) b7
      omega
    obtain ⟨y5, x5, l5⟩ : ∃ y, x5P v nt p = nI y ∧ lvu (hI v) nt p * un * de / 1000 + y ≤ lvu (hI v) nt p * un + ca := by
      by_cases z : zNp v nt p = 0
      · refine ⟨lvu (hI v) nt p * un - lvu (hI v) nt p * un * de / 1000 + ca, ?_, by omega⟩
        unfold x5P; rw [if_neg R, if_pos z, b2, b3, b4, zE_n b8 b7]
      · refine ⟨0, ?_, by omega⟩
        unfold x5P; rw [if_neg R, if_neg z]; rfl
    have cs := cts_sm p (gtP v nt p) v nt
    unfold sv
    rw [x3, x5, bs_n R]
    obtain ⟨j, m⟩ := ent_inv (w := dvP v (cts p (gtP v nt p) v nt) nt p) (X6 := x6P v nt p) (X7 := x7P v nt p) (X8 := x8P v nt p) (x3 := lvu (hI v) nt p * un * de / 1000) (x5 := y5) i hp there uns st1 st2 ⟨fun n j k => by
        show @ite _ (n = (18, p) ∧ j < lls p ∧ Wp v p j = true ∧ 0 < lvl (hI v) nt p j) (Classical.propDecidable _) (dP v nt p j) (hI (cts p (gtP v nt p) v nt) n j) = _
        rw [if_neg (fun y => k (by rw [y.1]; simp [KK]))]
        exact cs.1 n j (fun y => k (by rcases y with y | y <;> (rw [y]; simp [KK]))), cs.2.1, cs.2.2⟩
      (fun t ht y1 y2 => by
        show @ite _ ((66, 0) = (18, p) ∧ t < lls p ∧ Wp v p t = true ∧ 0 < lvl (hI v) nt p t) (Classical.propDecidable _) (dP v nt p t) (hI (cts p (gtP v nt p) v nt) (66, 0) t) = _
        rw [if_neg (by simp), cts_66, if_pos ⟨ht, y1, y2⟩])
      (fun t y => by
        show @ite _ ((66, 0) = (18, p) ∧ t < lls p ∧ Wp v p t = true ∧ 0 < lvl (hI v) nt p t) (Classical.propDecidable _) (dP v nt p t) (hI (cts p (gtP v nt p) v nt) (66, 0) t) = _
        rw [if_neg (by simp), cts_66, if_neg (fun z => y z.1 z.2.1 z.2.2)])
      (dv_vd i hp there uns) (fun c u h1 h2 h3 h4 => by
        rw [cE h1 h2, uE h3 h4]; exact l5)
    exact cry_inv j m p
end SvInv2
