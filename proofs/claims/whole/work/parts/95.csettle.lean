section CSettle
variable {qq : Prop} {L : Nat} {xs : Nat → Int32} {nr nt : Nat} {v v0 h g : xH}
theorem SCx.trans {w : xH} (a : SCx w v) (b : SCx v h) : SCx w h := ⟨fun n j h1 h2 h3 => (b.1 n j h1 h2 h3).trans (a.1 n j h1 h2 h3), b.2.1.trans a.2.1, b.2.2.trans a.2.2⟩
theorem scx_ent {w : xH} (a : SCx w v) (p : Nat) (x3 x5 x6 x7 x8 : Int32) : SCx (ent w p x3 x5 x6 x7 x8) (ent v p x3 x5 x6 x7 x8) := by
  unfold ent
  exact (((((((((((a.si _ _ _).si _ _ _).si _ _ _).si _ _ _).si _ _ _).si _ _ _).si _ _ _).si _ _ _).si _ _ _).si _ _ _).si _ _ _).si _ _ _
theorem ent_sm (w : xH) (p : Nat) (x3 x5 x6 x7 x8 : Int32) : Sm KE w (ent w p x3 x5 x6 x7 x8) := by
  unfold ent
  exact ((((((((((((Sm.rf _ w).si _ (by simp [KE])).si _ (by simp [KE])).si _ (by simp [KE])).si _ (by simp [KE])).si _ (by simp [KE])).si _ (by simp [KE])).si _ (by simp [KE])).si _ (by simp [KE])).si _ (by simp [KE])).si _ (by simp [KE])).si _ (by simp [KE])).si _ (by simp [KE])
theorem ent_5 (w : xH) (p : Nat) (x3 x5 x6 x7 x8 : Int32) : hI (ent w p x3 x5 x6 x7 x8) (19, p) 5 = x5 := by
  unfold ent
  simp [hI_sI]
theorem dvc_sh (v : xH) (p : Nat) (ln : Nat → Nat) (d : Nat → Int32) : ∀ n, hS (dvc v p ln d n) = hS v ∧ hR (dvc v p ln d n) = hR v
  | 0 => ⟨rfl, rfl⟩
  | n + 1 => dvc_sh v p ln d n
theorem bs_r {p : Nat} (z : refP v nt p) : bsP v nt p = rfs p v nt := by unfold bsP; rw [if_pos z]
theorem bs_n {p : Nat} (z : ¬ refP v nt p) : bsP v nt p = dvP v (cts p (gtP v nt p) v nt) nt p := by unfold bsP; rw [if_neg z]
theorem bs_sm {p : Nat} (z : ¬ refP v nt p) : Sm KE v (bsP v nt p) := by
  rw [bs_n z]
  have c := cts_sm p (gtP v nt p) v nt
  refine ⟨fun n j k => ?_, c.2.1, c.2.2⟩
  show @ite _ (n = (18, p) ∧ j < lls p ∧ Wp v p j = true ∧ 0 < lvl (hI v) nt p j) (Classical.propDecidable _) (dP v nt p j) (hI (cts p (gtP v nt p) v nt) n j) = _
  rw [if_neg (fun y => k (by rw [y.1]; simp [KE]))]
  exact c.1 n j (fun y => k (by rcases y with y | y <;> (rw [y]; simp [KE])))
theorem w_settleC (i : InvQ qq L xs nr nt v) (s : SCx v h) {p : Nat} (hp : p < 49) (there : hI v (40, 0) p = 1) (uns : hI v (43, 0) p = 0) (st1 : hI v (35, 0) (frp (hI v) p) = 2) (st2 : hI v (35, 0) (scp (hI v) p) = 2) {Q : Int32 → xH → Prop} (q : ∀ h', SCx (sv v nr nt p) h' → Sm KC h h' → Q 1 h') : p_T_settleIfRipe (11, 0) (5, p) h Q := by
  have hnr := i.vc.1
  have rc := prc i hp there
  have pr := plr i hp there
  have l2 := lls_le (p := p)
  obtain ⟨w, iw, sw, kw⟩ := SCx.up i s
  have E := scr_eq kw
  have x := SC.x iw sw
  have x0 : ∀ h', hR h' = hR h → hR h' (11, 0) 7 = (8, 0) := fun h' e => by rw [e]; exact xR_11_0_7 x
  have tw : hI w (40, 0) p = 1 := by rw [E.2.2.2.2.2.2.1]; exact there
  have uw : hI w (43, 0) p = 0 := by rw [E.2.2.2.2.2.2.2.2]; exact uns
  obtain ⟨cnt, ru, ps, F1, A1, e3⟩ := fin_of i rc.1 st1
  obtain ⟨cnt2, ru2, ps2, F2, A2, -⟩ := fin_of i rc.2.1 st2
  have sr1 := i.sr.1 _ rc.1
  have sr2 := i.sr.1 _ rc.2.1
  have R2 : hR h (5, p) 2 = (6, frp (hI v) p) := by rw [s.2.2]; exact pr.2.1
  have R3 : hR h (5, p) 3 = (6, scp (hI v) p) := by rw [s.2.2]; exact pr.2.2.1
  have Rf1 : hR h (6, frp (hI v) p) 3 = (4, frp (hI v) p) := by rw [s.2.2]; exact sr1.2.2.2.1
  have Rf2 : hR h (6, scp (hI v) p) 3 = (4, scp (hI v) p) := by rw [s.2.2]; exact sr2.2.2.2.1
  have S1 : hI h (6, frp (hI v) p) 7 = 2 := by rw [s.i 6 _ 7 (by omega) (ksk_k (by omega)), (i.vr.1 _ rc.1).2.1]; exact st1
  have S2 : hI h (6, scp (hI v) p) 7 = 2 := by rw [s.i 6 _ 7 (by omega) (ksk_k (by omega)), (i.vr.1 _ rc.2.1).2.1]; exact st2
  have rr := rn_of i rc.1
  have e3' : hI h (4, frp (hI v) p) 3 = nI (rnOf v (frp (hI v) p)) := by
    rw [s.1 _ _ (by simp) (by simp) (fun z => by
      rcases z with z | z
      · simp at z
      · have := z.2; simp at this; omega)]
    exact e3
  obtain ⟨un, de, ca, b⟩ := bk iw hp tw (by rw [uw]; decide)
  have b2 : hI v (42, 0) p = nI un := by rw [← kw.1 (42, 0) p (ksc_k (by omega))]; exact b.2.1
  have b3 : hI v (41, 0) p = nI de := by rw [← kw.1 (41, 0) p (ksc_k (by omega))]; exact b.2.2.1
  have b4 : hI v (50, 0) p = nI ca := by rw [← kw.1 (50, 0) p (ksc_k (by omega))]; exact b.2.2.2.1
  unfold p_T_settleIfRipe
  refine ⟨fun z => absurd z (by simp), fun _ => ⟨rfl, w_isSettled iw sw hp tw (fun _ => ⟨fun z => absurd rfl z, fun _ => ?_⟩) (fun z => absurd (uw.symm.trans z) (by decide))⟩⟩
  rw [R2, R3, S1, S2, Rf1, Rf2, x0 h rfl]
  refine ⟨rfl, fun z => absurd rfl z, fun _ => ⟨rfl, fun _ => ⟨rfl, rfl, w_rkI iw sw hp tw b (F1.cx s (by omega)) (F2.cx s (by omega)) rr.2 e3' A1 (fun _ => A2) (fun h12 S12 rk => ?_)⟩, fun z => absurd rfl z⟩⟩
  rw [E.1, E.2.1, ← b2, ← b3, ← b4] at rk
  have s12 : SCx v h12 := s.tr (S12.mono kk_9)
  have z12 : hR h12 = hR h ∧ hS h12 = hS h := ⟨S12.2.2, S12.2.1⟩
  have zc12 : Sm KC h h12 := S12.mono (fun n j e => by rcases e with ⟨rfl, -⟩ | rfl | rfl <;> simp [KC])
  show _ ∧ _
  rw [x0 h12 z12.1]
  have j72 : ∀ (h' B1 B2 base : xH) (n : Nat) (ln : Nat → Nat), hR h' = hR h → hS h' = hS h → Sm KC h h' → SCx B1 h' → TK h' n ln → n ≤ 200 → (∀ i, i < n → ln i < lls p) → (∀ i, i < n → hI h' (25, 0) i = dP v nt p (ln i)) → hI h' (8, 0) 4 = x3P v nt p → hI h' (8, 0) 5 = x5P v nt p → hI h' (8, 0) 6 = x6P v nt p → hI h' (8, 0) 7 = x7P v nt p → hI h' (8, 0) 8 = x8P v nt p → SCx B2 (dvc B1 p ln (dP v nt p) n) → InvQ qq L xs nr nt base → Sm KE base B2 → hI base (40, 0) p = 1 → B2 = bsP v nt p → p_T_settleIfRipe_j72 (11, 0) (5, p) h' Q := by
    intro h' B1 B2 base n ln eR eS zc sB t hn hl hd e4 e5 e6 e7 e8 hB ib kb tb eB
    unfold p_T_settleIfRipe_j72
    rw [x0 h' eR]
    refine ⟨rfl, rfl, w_enter (by rw [eR, eS]; exact x) sB (by rw [eR, s.2.2]; exact pr.2.2.2.2.1) (by rw [eR, s.2.2]; exact pr.2.2.2.2.2.1) (by rw [eS, s.2.1]; exact pr.2.2.2.2.2.2.2.1) (by rw [eS, s.2.1]; exact pr.2.2.2.2.2.2.2.2) t hn hl (dP v nt p) hd e4 e5 e6 e7 e8 (fun h17 s17 z17 => ?_)⟩
    have s17' := (scx_ent hB p (x3P v nt p) (x5P v nt p) (x6P v nt p) (x7P v nt p) (x8P v nt p)).trans s17
    refine w_carryC ib (kb.tr (ent_sm B2 p _ _ _ _ _)) s17' hp tb (fun h18 s18 z18 => q h18 ?_ ((zc.tr z17).tr z18))
    rw [ent_5] at s18
    unfold sv
    rw [← eB]; exact s18
  obtain ⟨ln, en, t, r⟩ := rk
  have t' : TK h12 (zNp v nt p) ln := t
  have hN : zNp v nt p ≤ 200 := (lvl_ub i p).2 ln _ _ en (fun l _ z => z.2)
  have notref : ¬ refP v nt p → hI h12 (8, 0) 3 = 0 → (∀ k, k < zNp v nt p → hI h12 (25, 0) k = dP v nt p (ln k)) → hI h12 (8, 0) 4 = x3P v nt p → hI h12 (8, 0) 5 = x5P v nt p → hI h12 (8, 0) 6 = x6P v nt p → hI h12 (8, 0) 7 = x7P v nt p → hI h12 (8, 0) 8 = x8P v nt p → ((hI h12 (8, 0) 3 = 0 → p_T_settleIfRipe_j72 (11, 0) (5, p) h12 Q) ∧ (¬ hI h12 (8, 0) 3 = 0 → p_T_refundAll (11, 0) (5, p) h12 (fun h19 : xH => p_T_settleIfRipe_j72 (11, 0) (5, p) h19 Q))) := fun nr3 e0 d y4 y5 y6 y7 y8 => by
    refine ⟨fun _ => j72 h12 v (bsP v nt p) v (zNp v nt p) ln z12.1 z12.2 zc12 s12 t' hN (fun k hk => (en.1 k hk).1) d y4 y5 y6 y7 y8 ⟨fun n j h1 h2 h3 => ?_, ?_, ?_⟩ i ?_ there rfl, fun z => absurd e0 z⟩
    · have eb : bsP v nt p = dvP v (cts p (gtP v nt p) v nt) nt p := by unfold bsP; rw [if_neg nr3]
      rw [eb]
      have ec : hI (cts p (gtP v nt p) v nt) n j = hI v n j := (cts_sm p (gtP v nt p) v nt).1 n j (fun z => by rcases z with z | z <;> (rw [z] at h1; simp at h1))
      show _ = @ite _ (n = (18, p) ∧ j < lls p ∧ Wp v p j = true ∧ 0 < lvl (hI v) nt p j) (Classical.propDecidable _) (dP v nt p j) (hI (cts p (gtP v nt p) v nt) n j)
      by_cases c : n = (18, p) ∧ j < lls p ∧ Wp v p j = true ∧ 0 < lvl (hI v) nt p j
      · rw [if_pos c]
        obtain ⟨k, hk, ek⟩ := en.2.2 j c.2.1 c.2.2
        rw [c.1, ← ek]
        exact dvc_l v p ln (dP v nt p) _ k hk
      · rw [if_neg c, ec]
        refine dvc_i v p ln (dP v nt p) _ n j ?_
        by_cases e : n = (18, p)
        · exact Or.inr (fun k hk ek => c ⟨e, by rw [← ek]; exact (en.1 k hk).1, by rw [← ek]; exact (en.1 k hk).2⟩)
        · exact Or.inl e
    · rw [(dvc_sh v p ln (dP v nt p) _).1, (bs_sm nr3).2.1]
    · rw [(dvc_sh v p ln (dP v nt p) _).2, (bs_sm nr3).2.2]
    · exact bs_sm nr3
  rcases r with ⟨r1, f3, f4, f5, f6, f7, f8⟩ | ⟨r1, z, f3, f4, f5, f6, f7, f8⟩ | ⟨r1, z, f3, f4, f5, f6, f7, f8, d⟩
  · have R : refP v nt p := r1
    have z0 : zNp v nt p = 0 := R.elim (fun y => zN_void y) (fun y => y.1)
    obtain ⟨ii, kk⟩ := rfs_inv i hp uns nt (Nat.le_refl _)
    refine ⟨rfl, fun y => absurd (f3.symm.trans y) (by decide), fun _ => w_refAll i s12 hp uns (fun h19 s19 z8 zc19 => ?_)⟩
    refine j72 h19 (rfs p v nt) (bsP v nt p) (rfs p v nt) 0 ln (by rw [s19.2.2, kk.2.2, s.2.2]) (by rw [s19.2.1, kk.2.1, s.2.1]) (zc12.tr zc19) s19 ⟨by rw [z8, t'.1, z0], fun k hk => by omega⟩ (by omega) (fun k hk => by omega) (fun k hk => by omega) ?_ ?_ ?_ ?_ ?_ ?_ ii ?_ ?_ rfl
    · rw [z8, f4]; unfold x3P; rw [if_pos R]
    · rw [z8, f5]; unfold x5P; rw [if_pos R]
    · rw [z8, f6]; unfold x6P; rw [if_pos (Or.inl R)]
    · rw [z8, f7]; unfold x7P; rw [if_pos (Or.inl R)]
    · rw [z8, f8]; unfold x8P; rw [if_pos (Or.inl R)]
    · rw [bs_r R]; exact ⟨fun _ _ _ _ _ => rfl, rfl, rfl⟩
    · rw [bs_r R]; exact Sm.rf _ _
    · rw [kk.1 _ _ (by simp [KK])]; exact there
  · have R : ¬ refP v nt p := r1
    have z' : zNp v nt p = 0 := z
    refine ⟨rfl, notref R f3 (fun k hk => by omega) ?_ ?_ ?_ ?_ ?_⟩
    · rw [f4]; unfold x3P; rw [if_neg R]
    · rw [f5]; unfold x5P; rw [if_neg R, if_pos z']
    · rw [f6]; unfold x6P; rw [if_pos (Or.inr z')]
    · rw [f7]; unfold x7P; rw [if_pos (Or.inr z')]
    · rw [f8]; unfold x8P; rw [if_pos (Or.inr z')]
  · have R : ¬ refP v nt p := r1
    have z' : ¬ zNp v nt p = 0 := z
    have zz : ¬ (refP v nt p ∨ zNp v nt p = 0) := fun y => y.elim R z'
    refine ⟨rfl, notref R f3 d ?_ ?_ ?_ ?_ ?_⟩
    · rw [f4]; unfold x3P; rw [if_neg R]
    · rw [f5]; unfold x5P; rw [if_neg R, if_neg z']
    · rw [f6]; unfold x6P x7P x8P; rw [if_neg zz, if_neg zz, if_neg zz]; rfl
    · rw [f7]; unfold x7P; rw [if_neg zz]; rfl
    · rw [f8]; unfold x8P; rw [if_neg zz]; rfl
end CSettle
