section SettleM
variable {qq : Prop} {L : Nat} {xs : Nat → Int32} {nr nt : Nat} {v v0 h g : xH}
theorem nxr_cg {I J : xN → Nat → Int32} (h1 : ∀ j, I (40, 0) j = J (40, 0) j) (h2 : ∀ j, I (35, 0) j = J (35, 0) j) : ∀ m a, nxr I m a = nxr J m a
  | 0, _ => rfl
  | m + 1, a => by rw [nxr, nxr, h1, h2, nxr_cg h1 h2 m (a + 1)]
theorem SMx.cc (s : SMx v g) {n : xN} (hn : n.1 < 34 ∧ n.1 ≠ 12) (j : Nat) (a b : Int32) : SMx (sI v n j a) (sI g n j b) := ⟨fun n' j' h1 h3 => by
  rw [hI_sI, if_neg (fun z => by rw [z.1] at h1; omega), hI_sI, if_neg (fun z => by rw [z.1] at h1; omega)]
  exact s.1 n' j' h1 h3, s.2.1, s.2.2⟩
theorem cry_cg {a b : xH} (s : SMx a b) (nr p : Nat) (y : Int32) : SMx (cry a nr p y) (cry b nr p y) := by
  unfold cry
  have e : nxr (hI b) (nr - (p / 4 + 1)) (p / 4 + 1) = nxr (hI a) (nr - (p / 4 + 1)) (p / 4 + 1) := nxr_cg (fun j => s.1 _ _ (Or.inl (by simp)) (ksc_k (by omega))) (fun j => s.1 _ _ (Or.inl (by simp)) (ksc_k (by omega))) _ _
  rw [e]
  generalize nxr (hI a) (nr - (p / 4 + 1)) (p / 4 + 1) = o
  cases o with
  | none =>
    show SMx (sI (sI a (11, 0) 12 (hI a (11, 0) 12 + y)) (12, 0) 22 (hI a (12, 0) 22 + y)) (sI (sI b (11, 0) 12 (hI b (11, 0) 12 + y)) (12, 0) 22 (hI b (12, 0) 22 + y))
    rw [s.1 (12, 0) 22 (Or.inr rfl) (by simp [KSc])]
    exact (s.cc ⟨by simp, by simp⟩ _ _ _).si _ _ _
  | some x =>
    show SMx (sI (sI a (19, 4 * x + 3) 4 (hI a (19, 4 * x + 3) 4 + y)) (50, 0) (4 * x + 3) (hI a (50, 0) (4 * x + 3) + y)) (sI (sI b (19, 4 * x + 3) 4 (hI b (19, 4 * x + 3) 4 + y)) (50, 0) (4 * x + 3) (hI b (50, 0) (4 * x + 3) + y))
    rw [s.1 (50, 0) _ (Or.inl (by simp)) (ksc_k (by omega))]
    exact (s.cc ⟨by simp, by simp⟩ _ _ _).si _ _ _
theorem w_settleM (i : InvQ qq L xs nr nt v) (s : SMx v g) {p : Nat} (hp : p < 49) (there : hI v (40, 0) p = 1) (uns : hI v (43, 0) p = 0) {at1 at2 : Nat → Nat} (A1 : AtH g (67, 0) at1) (A2 : kf p = 4 → AtH g (68, 0) at2) (hW : Wc (kf p) (rnOf v (frp (hI v) p)) at1 at2 = Wp v p) {Q : xH → Prop} (q : ∀ g', SMx (sv v nr nt p) g' → (∀ j, hI g' (67, 0) j = hI g (67, 0) j) → Sm KM g g' → Q g') : p_M_settle (12, 0) (nI p) g Q := by
  have hkf := kf_le (p := p)
  have u0 := uns_0 i hp uns
  have l2 := lls_le (p := p)
  unfold p_M_settle
  refine ⟨rfl, w_gfM i s hp there uns A1 A2 hW (fun g5 G gl s5 z5 zm5 hG gr fg => ?_)⟩
  have m5 : ShM (hS g5) (hR g5) := by rw [s5.2.1, s5.2.2]; exact i.m
  obtain ⟨f41, f43, f44, -, fN⟩ := fg
  replace f41 : hI g5 (12, 0) 41 = nI (zNp v nt p) := f41
  replace fN : zNp v nt p ≠ 0 → _ := fN
  have nb : zNp v nt p ≤ 2197 := Nat.le_trans (cn_le _ _) l2
  have n0 : nI (zNp v nt p) = (0 : Int32) ↔ zNp v nt p = 0 := nI_inj (b := 0) (by omega) (by omega)
  show _ ∧ _
  rw [mR9 m5, mS9 m5, cl_n (by omega)]
  refine ⟨rfl, in_n (by omega) (by omega), fun h8 q8 => w_mKindOf hp ?_⟩
  have s8 : SMx (sI v (43, 0) p 1) h8 := by rw [q8]; exact s5.si _ _ _
  have m8 : ShM (hS h8) (hR h8) := by rw [q8]; exact m5
  have o8 : ∀ n j, n ≠ (43, 0) → hI h8 n j = hI g5 n j := fun n j hn => by rw [q8, hI_sI, if_neg (fun z => hn z.1)]
  have k3 : nI (kf p) = (3 : Int32) ↔ kf p = 3 := nI_inj (b := 3) (by omega) (by omega)
  have zm8 : Sm KM g h8 := by rw [q8]; exact zm5.si _ (by simp [KM])
  -- refunds
  have ref : ∀ (l2 : Int32) (y : Bool), refP v nt p → (y = true → kf p = 3) → (y = false → kf p ≠ 3) → (l2 = 0 ↔ y = false) → ∃ f, p_M_settle_L62 (12, 0) (nI p) l2 (fun (h85 : xH) => ((l2 = 0 → Q h85) ∧ (¬ l2 = 0 → (kd (hR h85 (12, 0) 16).1 = (2, 0)) ∧ (vp_in (nI p) (hS h85 (hR h85 (12, 0) 16) - 1)) ∧ p_M_carry (12, 0) (nI p) (hI h85 (hR h85 (12, 0) 16) (nI p).toNatClampNeg) h85 (fun h89 : xH => Q h89)))) Q f 0 h8 := by
    intro l2 y R y1 y2 yl
    obtain ⟨ii, kk⟩ := rfs_inv i hp uns nt (Nat.le_refl _)
    have x3 : x3P v nt p = 0 := by unfold x3P; rw [if_pos R]
    have x5 : x5P v nt p = hI v (50, 0) p := by unfold x5P; rw [if_pos R]
    have x6 : x6P v nt p = 0 := by unfold x6P; rw [if_pos (Or.inl R)]
    have x7 : x7P v nt p = 0 := by unfold x7P; rw [if_pos (Or.inl R)]
    have x8 : x8P v nt p = 0 := by unfold x8P; rw [if_pos (Or.inl R)]
    have es : sv v nr nt p = cry (ent (rfs p v nt) p 0 (hI v (50, 0) p) 0 0 0) nr p (hI v (50, 0) p) := by
      unfold sv; rw [x3, x5, x6, x7, x8, bs_r R]
    refine w_refM i hp uns s8 (fun g' S' z' zm' => ?_)
    have z'' : ∀ j, hI g' (67, 0) j = hI g (67, 0) j := fun j => by rw [z', o8 _ _ (by simp), z5]
    refine ⟨fun z => q g' ?_ z'' (zm8.tr zm'), fun z => ?_⟩
    · rw [es, u0.2.2.2.2.2 (y2 (yl.mp z))]
      exact (cry_0 _ nr p).trans S'
    · have m' : ShM (hS g') (hR g') := by rw [S'.2.1, S'.2.2, (ent_sm _ _ _ _ _ _ _).2.1, (ent_sm _ _ _ _ _ _ _).2.2]; exact ii.m
      have e50 : hI g' (50, 0) p = hI v (50, 0) p := by
        rw [S'.1 _ _ (Or.inl (by simp)) (ksc_k (by omega)), (ent_sm _ _ _ _ _ _ _).1 _ _ (ke_k (by omega)), kk.1 _ _ (by simp [KK])]
      rw [mR16 m', mS16 m', cl_n (by omega), e50]
      refine ⟨rfl, in_n (by omega) (by omega), w_carryM ii (ent_sm _ _ _ _ _ _ _) S' hp (fun g2 S2 z2 zm2 => q g2 ?_ (fun j => by rw [z2, z'']) ((zm8.tr zm').tr zm2))⟩
      rw [es]
      refine (cry_cg ?_ nr p _).trans S2
      refine ⟨fun n j h1 h3 => ?_, rfl, rfl⟩
      rw [hI_sI, ent_m _ _ _ _ _ _ _ n j h1, ent_m _ _ _ _ _ _ _ n j h1]
      by_cases c : n = (51, 0) ∧ j = p
      · rw [if_pos c, if_pos c, c.1]; simp
      · rw [if_neg c, if_neg c, if_neg c]
  -- counting
  have j116 : ¬ refP v nt p → p_M_settle_j116 (12, 0) (nI p) h8 Q := by
    intro R
    unfold p_M_settle_j116
    rw [mR15 m8, mS15 m8, cl_n (by omega), o8 (12, 0) 43 (by simp), f43]
    refine ⟨rfl, rfl, in_n (by omega) (by omega), fun h18 q18 => ?_⟩
    generalize eT : zT (nI (lvu (hI v) nt p)) (hI v (42, 0) p) (hI v (41, 0) p) = T at q18
    have x3 : x3P v nt p = T := by unfold x3P; rw [if_neg R, eT]
    generalize eB : sI (sI v (43, 0) p 1) (49, 0) p T = B
    have s18 : SMx B h18 := by rw [q18, ← eB]; exact s8.si _ _ _
    have kb : Sm KE v B := by rw [← eB]; exact ((Sm.rf _ v).si _ (by simp [KE])).si _ (by simp [KE])
    have o18 : ∀ n j, n ≠ (43, 0) → n ≠ (49, 0) → hI h18 n j = hI g5 n j := fun n j h1 h2 => by rw [q18, hI_sI, if_neg (fun z => h2 z.1), o8 n j h1]
    have gr18 : GR0 h18 (hI v) p nt 0 G gl := gr.fr (fun k x h1 h2 _ => o18 _ _ (fun z => by have := congrArg Prod.fst z; simp at this; omega) (fun z => by have := congrArg Prod.fst z; simp at this; omega))
    refine w_count i kb hp s18 (n := zNp v nt p) (gt := gtP v nt p) (by rw [o18 _ _ (by simp) (by simp)]; exact f41) nb gr18 hG (fun nz x hx => ?_) (fun z l => by unfold gtP; rw [if_pos z]) (fun g' S' Z' => ?_)
    · rw [o18 _ _ (by simp) (by simp), (fN nz).2.2 x (by omega) hx]
      unfold gtP; rw [if_neg nz]; rfl
    have m' : ShM (hS g') (hR g') := by rw [Z'.2.1, Z'.2.2, q18]; exact m8
    have og : ∀ j, hI g' (12, 0) j = hI g5 (12, 0) j := fun j => by rw [Z'.1 _ _ (by simp), o18 _ _ (by simp) (by simp)]
    have z67 : ∀ j, hI g' (67, 0) j = hI g (67, 0) j := fun j => by rw [Z'.1 _ _ (by simp), o18 _ _ (by simp) (by simp), z5]
    have zm18 : Sm KM g h18 := by rw [q18]; exact zm8.si _ (by simp [KM])
    have zmc : Sm KM g g' := zm18.tr (Z'.mono (fun n j z => by rcases z with z | z <;> simp [KM, z]))
    have eb := bs_n R
    -- what is counted, pointwise
    have pt : ∀ n j, 34 ≤ n.1 ∨ n.1 = 12 → hI (cts p (gtP v nt p) B nt) n j = if n = (49, 0) ∧ j = p then T else if n = (43, 0) ∧ j = p then 1 else hI (bsP v nt p) n j := fun n j h1 => by
      have hb : hI (bsP v nt p) n j = hI (cts p (gtP v nt p) v nt) n j := by
        rw [eb]; show @ite _ (n = (18, p) ∧ j < lls p ∧ Wp v p j = true ∧ 0 < lvl (hI v) nt p j) (Classical.propDecidable _) (dP v nt p j) (hI (cts p (gtP v nt p) v nt) n j) = _
        rw [if_neg (fun z => by rw [z.1] at h1; simp at h1)]
      rw [hb]
      by_cases c : n = (49, 0) ∧ j = p
      · rw [if_pos c, c.1, c.2, cts_o nt (by omega), ← eB, hI_sI, if_pos ⟨rfl, rfl⟩]
      · rw [if_neg c]
        by_cases d : n = (43, 0) ∧ j = p
        · rw [if_pos d, d.1, d.2, cts_o nt (by omega), ← eB, hI_sI, if_neg (by simp), hI_sI, if_pos ⟨rfl, rfl⟩]
        · rw [if_neg d]
          refine cts_cg kb nt n j ?_
          rw [← eB, hI_sI, if_neg c, hI_sI, if_neg d]
    have b5 : ∀ k, k = 51 ∨ k = 52 ∨ k = 53 ∨ k = 54 → hI (bsP v nt p) (k, 0) p = 0 := fun k hk => by
      have hb : hI (bsP v nt p) (k, 0) p = hI (cts p (gtP v nt p) v nt) (k, 0) p := by
        rw [eb]; show @ite _ ((k, 0) = (18, p) ∧ p < lls p ∧ Wp v p p = true ∧ 0 < lvl (hI v) nt p p) (Classical.propDecidable _) (dP v nt p p) (hI (cts p (gtP v nt p) v nt) (k, 0) p) = _
        rw [if_neg (fun z => by have := congrArg Prod.fst z.1; simp at this; omega)]
      rw [hb, cts_o nt (by omega)]
      rcases hk with e | e | e | e <;> subst e
      · exact u0.2.1
      · exact u0.2.2.1
      · exact u0.2.2.2.1
      · exact u0.2.2.2.2.1
    have sh : hS (bsP v nt p) = hS v ∧ hR (bsP v nt p) = hR v := ⟨(bs_sm R).2.1, (bs_sm R).2.2⟩
    have shB : hS (cts p (gtP v nt p) B nt) = hS v ∧ hR (cts p (gtP v nt p) B nt) = hR v := ⟨(cts_sm _ _ _ _).2.1.trans kb.2.1, (cts_sm _ _ _ _).2.2.trans kb.2.2⟩
    show _ ∧ _
    rw [og, f41, n0]
    refine ⟨fun nz => ?_, fun nz => ?_⟩
    · have zz : ¬ (refP v nt p ∨ zNp v nt p = 0) := fun y => y.elim R nz
      have x5 : x5P v nt p = 0 := by unfold x5P; rw [if_neg R, if_neg nz]
      rw [mR19 m', mS19 m', og, (fN nz).2.1]
      refine ⟨rfl, in_n (by omega) (by omega), fun h57 q57 => ?_⟩
      have m57 : ShM (hS h57) (hR h57) := by rw [q57]; exact m'
      have o57 : ∀ j, hI h57 (12, 0) j = hI g5 (12, 0) j := fun j => by rw [q57, hI_sI, if_neg (by simp)]; exact og j
      rw [mR20 m57, mS20 m57, o57, (fN nz).1]
      refine ⟨rfl, in_n (by omega) (by omega), fun h61 q61 => ?_⟩
      have m61 : ShM (hS h61) (hR h61) := by rw [q61]; exact m57
      have o61 : ∀ j, hI h61 (12, 0) j = hI g5 (12, 0) j := fun j => by rw [q61, hI_sI, if_neg (by simp)]; exact o57 j
      rw [mR18 m61, mS18 m61, o61, o61, o61, (fN nz).1, (fN nz).2.1, f44]
      refine ⟨rfl, in_n (by omega) (by omega), fun h65 q65 => q h65 ?_ (fun j => by rw [q65, hI_sI, if_neg (by simp), q61, hI_sI, if_neg (by simp), q57, hI_sI, if_neg (by simp)]; exact z67 j) (by rw [q65, q61, q57]; exact ((zmc.si _ (by simp [KM])).si _ (by simp [KM])).si _ (by simp [KM]))⟩
      have x7 : x7P v nt p = zC (kf p) (lls p) (lvl (hI v) nt p) (Wp v p) (nI (lvu (hI v) nt p)) (hI v (42, 0) p) (hI v (41, 0) p) (hI v (50, 0) p) := by unfold x7P; rw [if_neg zz]
      have x8 : x8P v nt p = zU (kf p) (lls p) (lvl (hI v) nt p) (Wp v p) (nI (lvu (hI v) nt p)) (hI v (42, 0) p) (hI v (41, 0) p) (hI v (50, 0) p) := by unfold x8P; rw [if_neg zz]
      have x6 : x6P v nt p = zE (nI (lvu (hI v) nt p)) (hI v (42, 0) p) (hI v (41, 0) p) (hI v (50, 0) p) + x7P v nt p - x8P v nt p := by unfold x6P; rw [if_neg zz]
      rw [← x7, ← x8, ← x6] at q65
      rw [← x8] at q61
      rw [← x7] at q57
      unfold sv
      rw [x5, x3]
      refine (cry_0 _ nr p).trans ⟨fun n j h1 h3 => ?_, ?_, ?_⟩
      · rw [ent_m _ _ _ _ _ _ _ n j h1, q65, hI_sI, q61, hI_sI, q57, hI_sI, S'.1 n j h1 h3, pt n j h1]
        by_cases c1 : n = (52, 0) ∧ j = p
        · rw [if_pos c1, if_pos c1, c1.1]; simp
        rw [if_neg c1, if_neg c1]
        by_cases c2 : n = (54, 0) ∧ j = p
        · rw [if_pos c2, if_pos c2, c2.1]; simp
        rw [if_neg c2, if_neg c2]
        by_cases c3 : n = (53, 0) ∧ j = p
        · rw [if_pos c3, if_pos c3, c3.1]; simp
        rw [if_neg c3, if_neg c3]
        by_cases c4 : n = (49, 0) ∧ j = p
        · rw [if_pos c4, if_pos c4, c4.1]; simp
        rw [if_neg c4, if_neg c4]
        by_cases c5 : n = (43, 0) ∧ j = p
        · rw [if_pos c5, if_pos c5]
        rw [if_neg c5, if_neg c5]
        by_cases c6 : n = (51, 0) ∧ j = p
        · rw [if_pos c6, c6.1, c6.2]; exact b5 51 (by simp)
        rw [if_neg c6]
      · rw [q65, q61, q57]; exact S'.2.1.trans (shB.1.trans ((ent_sm _ _ _ _ _ _ _).2.1.trans sh.1).symm)
      · rw [q65, q61, q57]; exact S'.2.2.trans (shB.2.trans ((ent_sm _ _ _ _ _ _ _).2.2.trans sh.2).symm)
    · rw [og, f44]
      have x5 : x5P v nt p = zE (nI (lvu (hI v) nt p)) (hI v (42, 0) p) (hI v (41, 0) p) (hI v (50, 0) p) := by unfold x5P; rw [if_neg R, if_pos nz]
      have x6 : x6P v nt p = 0 := by unfold x6P; rw [if_pos (Or.inr nz)]
      have x7 : x7P v nt p = 0 := by unfold x7P; rw [if_pos (Or.inr nz)]
      have x8 : x8P v nt p = 0 := by unfold x8P; rw [if_pos (Or.inr nz)]
      rw [← x5]
      refine w_carryM i (kb.tr ((cts_sm p (gtP v nt p) B nt).mono (fun n j z => by rcases z with z | z <;> (rw [z]; simp [KE])))) S' hp (fun g2 S2 z2 zm2 => q g2 ?_ (fun j => by rw [z2]; exact z67 j) (zmc.tr zm2))
      unfold sv
      rw [x3, x6, x7, x8]
      refine (cry_cg ?_ nr p _).trans S2
      refine ⟨fun n j h1 h3 => ?_, ?_, ?_⟩
      · rw [ent_m _ _ _ _ _ _ _ n j h1, hI_sI, pt n j h1]
        by_cases c6 : n = (51, 0) ∧ j = p
        · rw [if_pos c6, if_pos c6, c6.1]; simp
        rw [if_neg c6, if_neg c6]
        by_cases c4 : n = (49, 0) ∧ j = p
        · rw [if_pos c4, if_pos c4, c4.1]; simp
        rw [if_neg c4, if_neg c4]
        by_cases c5 : n = (43, 0) ∧ j = p
        · rw [if_pos c5, if_pos c5]
        rw [if_neg c5, if_neg c5]
        by_cases c2 : n = (54, 0) ∧ j = p
        · rw [if_pos c2, c2.1, c2.2]; exact b5 54 (by simp)
        rw [if_neg c2]
        by_cases c3 : n = (53, 0) ∧ j = p
        · rw [if_pos c3, c3.1, c3.2]; exact b5 53 (by simp)
        rw [if_neg c3]
        by_cases c1 : n = (52, 0) ∧ j = p
        · rw [if_pos c1, c1.1, c1.2]; exact b5 52 (by simp)
        rw [if_neg c1]
      · exact shB.1.trans ((ent_sm _ _ _ _ _ _ _).2.1.trans sh.1).symm
      · exact shB.2.trans ((ent_sm _ _ _ _ _ _ _).2.2.trans sh.2).symm
  have nv : ∀ {rn : Nat}, zNp v nt p ≠ 0 → ¬ refP v nt p := fun nz R => nz (R.elim (fun y => zN_void y) (fun y => y.1))
  have e41 : hI h8 (12, 0) 41 = nI (zNp v nt p) := by rw [o8 _ _ (by simp)]; exact f41
  rw [k3]
  refine ⟨fun nk => ?_, fun yk => ?_⟩
  · unfold p_M_settle_j40
    rw [e41, n0]
    exact ⟨rfl, fun nz => j116 (nv (rn := 0) nz), fun nz => ⟨fun _ => ref 0 false (Or.inr ⟨nz, nk⟩) (by simp) (fun _ => nk) (by simp), fun z => absurd rfl z⟩⟩
  · unfold p_M_settle_j40
    rw [e41, n0]
    refine ⟨rfl, fun nz => j116 (nv (rn := 0) nz), fun nz => ⟨fun z => absurd z (by decide), fun _ => w_mVoid hp (fun hk => runH_of i hp there hk m8 (fun j => by rw [s8.1 _ _ (Or.inl (by simp)) (ksc_k (by omega)), hI_sI, if_neg (by simp)]) (fun j => by rw [s8.1 _ _ (Or.inl (by simp)) (ksc_k (by omega)), hI_sI, if_neg (by simp)])) (fun no => ⟨fun _ => j116 (fun R => R.elim no (fun y => y.2 yk)), fun z => absurd rfl z⟩) (fun yes => ⟨fun z => absurd z (by decide), fun _ => ref 1 true (Or.inl yes) (fun _ => yk) (by simp) (by simp)⟩)⟩⟩
end SettleM
