section Race2
variable {L : Nat} {xs : Nat → Int32} {nr nt : Nat} {h : xH}
theorem KK_fr {l : List Nat} {l2 : List (xN × Nat)} {rd : xN → Nat → Bool} {I I' : xN → Nat → Int32} (z : nrd l l2 rd) (s : ∀ n j, ¬ KK l l2 n j → I' n j = I n j) : ∀ n j, rd n j = true → I' n j = I n j := fun n j hr => s n j (fun k => by rw [KK_rd z n j k] at hr; cases hr)
theorem Inv.updA {h' : xH} {nr' : Nat} (l : List Nat) (l2 : List (xN × Nat)) (i : Inv L xs nr nt h) (s : ∀ n j, ¬ KK l l2 n j → hI h' n j = hI h n j) (sh : Sh (hS h') (hR h')) (sr : ShR (hS h') (hR h') nr') (sp : ShP (hS h') (hR h') (hI h')) (st : ShT (hS h') (hR h') (hI h') nt) (vs : VS (hS h') (hI h') L xs) (vc : VC (hI h') nr' nt) (vr : VR (hI h') nr') (vl : VL (hI h') nr') (vf : VF (hI h') nr') (vp : VP (hI h') nr') (vq : VQ (hI h'))
    (vt : nrd l l2 rdVT ∨ VT (hI h') nt := by
      refine Or.inl ⟨?_, rfl⟩
      repeat (first | exact List.forall_mem_nil _ | refine List.forall_mem_cons.mpr ⟨fun _ _ => rfl, ?_⟩))
    (vv : nrd l l2 rdVV ∨ VV (hI h') nt := by
      refine Or.inl ⟨?_, rfl⟩
      repeat (first | exact List.forall_mem_nil _ | refine List.forall_mem_cons.mpr ⟨fun _ _ => rfl, ?_⟩))
    (vd : nrd l l2 rdVD ∨ VD (hI h') nt := by
      refine Or.inl ⟨?_, rfl⟩
      repeat (first | exact List.forall_mem_nil _ | refine List.forall_mem_cons.mpr ⟨fun _ _ => rfl, ?_⟩))
    (vm : nrd l l2 rdVM ∨ VM (hI h') nt := by
      refine Or.inl ⟨?_, rfl⟩
      repeat (first | exact List.forall_mem_nil _ | refine List.forall_mem_cons.mpr ⟨fun _ _ => rfl, ?_⟩))
    (vw : nrd l l2 rdVW ∨ VW (hI h') nt := by
      refine Or.inl ⟨?_, rfl⟩
      repeat (first | exact List.forall_mem_nil _ | refine List.forall_mem_cons.mpr ⟨fun _ _ => rfl, ?_⟩))
    (vx : nrd l l2 rdVX ∨ VX (hI h') nt := by
      refine Or.inl ⟨?_, rfl⟩
      repeat (first | exact List.forall_mem_nil _ | refine List.forall_mem_cons.mpr ⟨fun _ _ => rfl, ?_⟩))
    (vb : nrd l l2 rdVB ∨ VB (hI h') := by
      refine Or.inl ⟨?_, rfl⟩
      repeat (first | exact List.forall_mem_nil _ | refine List.forall_mem_cons.mpr ⟨fun _ _ => rfl, ?_⟩))
    (vn : nrd l l2 rdVN ∨ VN (hI h') := by
      refine Or.inl ⟨?_, rfl⟩
      repeat (first | exact List.forall_mem_nil _ | refine List.forall_mem_cons.mpr ⟨fun _ _ => rfl, ?_⟩))
    : Inv L xs nr' nt h' :=
  ⟨sh, sr, sp, st, vs, vc, vr, vl, vf, vp, vt.elim (fun z => fr1 (C := fun I => VT I nt) (fun _ => rfl) (KK_fr z s) i.vt) id, vv.elim (fun z => fr1 (C := fun I => VV I nt) (fun _ => rfl) (KK_fr z s) i.vv) id, vd.elim (fun z => fr1 (C := fun I => VD I nt) (fun _ => rfl) (KK_fr z s) i.vd) id, vm.elim (fun z => fr1 (C := fun I => VM I nt) (fun _ => rfl) (KK_fr z s) i.vm) id, vw.elim (fun z => fr1 (C := fun I => VW I nt) (fun _ => rfl) (KK_fr z s) i.vw) id, vx.elim (fun z => fr1 (C := fun I => VX I nt) (fun _ => rfl) (KK_fr z s) i.vx) id, vb.elim (fun z => fr1 (C := VB) (fun _ => rfl) (KK_fr z s) i.vb) id, vn.elim (fun z => fr1 (C := VN) (fun _ => rfl) (KK_fr z s) i.vn) id, mkq vq⟩
theorem cn_all {f : Nat → Bool} : ∀ n, (∀ k, k < n → f k = true) → cn f n = n
  | 0, _ => rfl
  | n + 1, e => by
    unfold cn
    rw [cn_all n (fun k hk => e k (by omega)), e n (by omega)]; rfl
/-- promise 2 -/
theorem o_race (H : Ok L xs h) (x : Int32) {F : Int32 → xH → Prop} (hF : Nx L xs (p_M_race (12, 0) x) F) : p_T_race (11, 0) x h F := by
  obtain ⟨nr, nt, i⟩ := H
  obtain ⟨v1, v2, v3, v4, v5, v6⟩ := i.vc
  have e2 : (2 : Int32).toInt = 2 := rfl
  have e12 : (12 : Int32).toInt = 12 := rfl
  have no : ¬ (2 ≤ x.toInt ∧ x.toInt ≤ 12) → F (-3) h := fun c => hF _ _ i.vs (fun G hG => by
    unfold p_M_race
    exact w_in (fun _ => ⟨fun z => absurd rfl z, fun _ => hG h ⟨nr, nt, i⟩⟩) (fun c2 => absurd c2 c))
  have lt12 : nI nr < (12 : Int32) ↔ nr < 12 := by
    rw [ti_lt, ti_n (by omega), e12]; omega
  unfold p_T_race
  rw [v3, lt12]
  refine ⟨fun c => no (by rw [ti_lt, e2] at c; omega), fun c => ⟨fun c2 => ⟨rfl, fun c3 => ?_, fun c3 => hF _ _ i.vs (fun G hG => ?_)⟩, fun c2 => no (by rw [ti_le, e12] at c2; omega)⟩⟩
  · obtain ⟨n, hn1, hn2, rfl⟩ : ∃ n, 2 ≤ n ∧ n ≤ 12 ∧ x = nI n := by
      rw [ti_le, e12] at c2
      rw [ti_lt, e2] at c
      exact ⟨x.toInt.toNat, by omega, by omega, by rw [ti_eq, ti_n (by omega)]; omega⟩
    obtain ⟨z6, z20, z21, z4, z22, z15, z16⟩ := i.sr.2 nr (by omega) c3
    rw [cl_n (by omega), xR_11_0_0 i.x]
    refine ⟨z6, fun h0 q0 => w_Rinit (r := nr) (by rw [q0]; simp [hS_nW, z20]) (by rw [q0]; simp [hS_nW, z21]) (by rw [q0]; simp [hS_nW, z4]) (by rw [q0]; simp [hS_nW, z22]) (by rw [q0]; simp [hS_nW, z15]) (by rw [q0]; simp [hS_nW, z16]) (fun h1 f1 r1 g0 g6 g7 g5 g8 g20 g21 => ⟨rfl, ?_, fun h2 q2 h3 q3 => ?_⟩)⟩
    · rw [(f1 (27, 0) (by simp [nR])).2.2, q0, hS_nW, if_neg (by simp), xS_27_0 i.x]
      exact in_n (by omega) (by omega)
    have o0 : ∀ m, ¬ nR nr m → (∀ j, hI h1 m j = hI h m j) ∧ (∀ j, hR h1 m j = hR h m j) ∧ hS h1 m = hS h m := fun m hm => by
      have := nR_ne hm
      obtain ⟨a, b, c⟩ := f1 m hm
      refine ⟨fun j => ?_, fun j => ?_, ?_⟩
      · rw [a, q0, hI_nW, if_neg this.1]
      · rw [b, q0, hR_nW, if_neg this.1]
      · rw [c, q0, hS_nW, if_neg this.1]
    have g10 : hI h2 (11, 0) 10 = nI nr := by rw [q2, hI_sR, (o0 (11, 0) (by simp [nR])).1]; exact v3
    rw [g10, nI_1] at q3
    have g11 : hI h3 (11, 0) 10 = nI (nr + 1) := by rw [q3, hI_sI]; simp
    rw [g11]
    have oI : ∀ m j, ¬ nR nr m → ¬ (m = (11, 0) ∧ j = 10) → hI h3 m j = hI h m j := fun m j hm hj => by
      rw [q3, hI_sI, if_neg hj, q2, hI_sR, (o0 m hm).1]
    have oR : ∀ m j, ¬ nR nr m → ¬ (m = (27, 0) ∧ j = nr) → hR h3 m j = hR h m j := fun m j hm hj => by
      rw [q3, hR_sI, q2, hR_sR, if_neg hj, (o0 m hm).2.1]
    have oS : ∀ m, ¬ nR nr m → hS h3 m = hS h m := fun m hm => by rw [q3, hS_sI, q2, hS_sR, (o0 m hm).2.2]
    have nI3 : ∀ m j, nR nr m → hI h3 m j = hI h1 m j := fun m j hm => by
      rw [q3, hI_sI, if_neg (fun z => by rw [z.1] at hm; simp [nR] at hm), q2, hI_sR]
    have nR3 : ∀ m j, nR nr m → hR h3 m j = hR h1 m j := fun m j hm => by
      rw [q3, hR_sI, q2, hR_sR, if_neg (fun z => by rw [z.1] at hm; simp [nR] at hm)]
    have nS3 : ∀ m, hS h3 m = hS h1 m := fun m => by rw [q3, hS_sI, q2, hS_sR]
    have r27 : hR h3 (27, 0) nr = (6, nr) := by rw [q3, hR_sI, q2, hR_sR]; simp
    have sh : Sh (hS h3) (hR h3) := fr2 Sh_rs (fun m hm => oS m (fun z => ?_)) (fun m j hm => oR m j (fun z => ?_) (fun z => ?_)) i.1
    · have vs3 : VS (hS h3) (hI h3) L xs := ⟨by rw [oS _ (by simp [nR])]; exact i.vs.1, fun j => by rw [oI _ _ (by simp [nR]) (by simp)]; exact i.vs.2 j⟩
      have a12 : (nI (nr + 1) - (1 : Int32)) = nI nr := (sb_n (a := nr + 1) (b := 1) (by omega)).trans (by rw [Nat.add_sub_cancel])
      rw [a12]
      refine hF _ _ vs3 (fun G hG => ?_)
      unfold p_M_race
      refine w_in (fun c => absurd ⟨by rw [ti_n (by omega), e2]; omega, by rw [ti_n (by omega), e12]; omega⟩ c) (fun _ => ⟨fun _ => ⟨rfl, fun _ => ?_, fun z => ?_⟩, fun z => absurd z (by decide)⟩)
      · have k0 : hI h3 (12, 0) 0 = nI nr := by rw [oI _ _ (by simp [nR]) (by simp)]; exact v4
        rw [mR1 sh.1, mS1 sh.1, k0, cl_n (by omega)]
        refine ⟨rfl, in_n (by omega) (by omega), fun h4 q4 => ?_⟩
        have m4 : ShM (hS h4) (hR h4) := by rw [q4]; exact sh.1
        rw [mR2 m4, mS2 m4, show hI h4 (12, 0) 0 = nI nr by rw [q4, hI_sI, if_neg (by simp)]; exact k0, cl_n (by omega)]
        refine ⟨rfl, in_n (by omega) (by omega), fun h5 q5 => ?_⟩
        have m5 : ShM (hS h5) (hR h5) := by rw [q5]; exact m4
        rw [mR3 m5, mS3 m5, show hI h5 (12, 0) 0 = nI nr by rw [q5, hI_sI, if_neg (by simp), q4, hI_sI, if_neg (by simp)]; exact k0, cl_n (by omega)]
        refine ⟨rfl, in_n (by omega) (by omega), fun h6 q6 h7 q7 => ?_⟩
        rw [show hI h6 (12, 0) 0 = nI nr by rw [q6, hI_sI, if_neg (by simp), q5, hI_sI, if_neg (by simp), q4, hI_sI, if_neg (by simp)]; exact k0, nI_1] at q7
        have k12 : hI h7 (12, 0) 0 = nI (nr + 1) := by rw [q7, hI_sI]; simp
        rw [k12, a12]
        have k35 : hI h7 (35, 0) nr = 0 := by rw [q7, q6, q5, q4]; simp [hI_sI]
        have k36 : hI h7 (36, 0) nr = nI n := by rw [q7, q6, q5, q4]; simp [hI_sI]
        have k37 : hI h7 (37, 0) nr = 0 := by rw [q7, q6, q5, q4]; simp [hI_sI]
        have s7 : Sm (KL [((12, 0), 0), ((35, 0), nr), ((36, 0), nr), ((37, 0), nr)]) h3 h7 := by
          rw [q7, q6, q5, q4]; exact ((((Sm.rf _ h3).si _ (by simp [KL])).si _ (by simp [KL])).si _ (by simp [KL])).si _ (by simp [KL])
        have eS : hS h7 = hS h3 := s7.2.1
        have eR : hR h7 = hR h3 := s7.2.2
        have oI7 : ∀ m j, ¬ nR nr m → ¬ KL [((11, 0), 10), ((12, 0), 0), ((35, 0), nr), ((36, 0), nr), ((37, 0), nr)] m j → hI h7 m j = hI h m j := fun m j hm hk => by
          rw [s7.1 m j (fun z => hk (List.mem_cons_of_mem _ z)), oI m j hm (fun z => hk (by rw [z.1, z.2]; simp [KL]))]
        have nI7 : ∀ m j, nR nr m → hI h7 m j = hI h1 m j := fun m j hm => by
          rw [s7.1 m j (fun z => by unfold KL at z; simp at z; unfold nR at hm; rcases z with z | z | z | z <;> rw [z.1] at hm <;> simp at hm), nI3 m j hm]
        clear q7 q6 q5 q4
        have old : ∀ r, r < nr → ∀ m, m.2 = r → ¬ nR nr m := fun r hr m hm z => by have := z.1; omega
        have z0 : ∀ j, hI h0 (6, nr) j = 0 := fun j => by rw [q0, hI_nW]; simp
        have w38 : ∀ q, hI h7 (38, 0) q = hI h (38, 0) q := fun q => oI7 _ _ (by simp [nR]) (by simp [KL])
        have w39 : ∀ q, hI h7 (39, 0) q = hI h (39, 0) q := fun q => oI7 _ _ (by simp [nR]) (by simp [KL])
        have w12 : ∀ q, q ≠ 0 → hI h7 (12, 0) q = hI h (12, 0) q := fun q hq => oI7 _ _ (by simp [nR]) (by simp [KL, hq])
        have wf : ∀ p, frp (hI h7) p = frp (hI h) p := fun p => by unfold frp; rw [w12 10 (by omega)]
        have wc : ∀ p, scp (hI h7) p = scp (hI h) p := fun p => by unfold scp; rw [w12 11 (by omega)]
        refine hG h7 ⟨nr + 1, nt, i.updA [4, 6, 15, 16, 20, 21, 22] [((11, 0), 10), ((12, 0), 0), ((35, 0), nr), ((36, 0), nr), ((37, 0), nr)] (fun m j hk => oI7 m j (fun z => hk (Or.inl ?_)) (fun z => hk (Or.inr z))) (by rw [eS, eR]; exact sh) ⟨fun r hr => ?_, fun r hr hr2 => ?_⟩ (fr3 ShP_rs3 (S := hS h) (R := hR h) (I := hI h) (fun m hm => ?_) (fun m j hm => ?_) (fun m j hm => ?_) i.sp) (fr3 (C := fun S R I => ShT S R I nt) ShT_rs3 (S := hS h) (R := hR h) (I := hI h) (fun m hm => ?_) (fun m j hm => ?_) (fun m j hm => ?_) i.st) ⟨by rw [eS]; exact vs3.1, fun j => by rw [s7.1 _ _ (by simp [KL])]; exact vs3.2 j⟩ ⟨by omega, v2, by rw [s7.1 _ _ (by simp [KL])]; exact g11, k12, by rw [oI7 _ _ (by simp [nR]) (by simp [KL])]; exact v5, by rw [w12 _ (by omega)]; exact v6⟩ ⟨fun r hr => ?_, fun q hq => ?_⟩ ⟨fun r hr => ?_, fun r hr => ?_⟩ (fun r hr c5 => ?_) (fun p hp => ?_) (fun p hp cp => ?_)⟩
        · unfold nR at z; simp; omega
        · rw [eS, eR]
          by_cases er : r = nr
          · subst er
            have t := fun m j => nR3 m j
            rw [r27, nR3 (6, r) 1 (by simp [nR]), nR3 (6, r) 2 (by simp [nR]), nR3 (6, r) 3 (by simp [nR]), nR3 (6, r) 4 (by simp [nR]), nR3 (4, r) 0 (by simp [nR]), nR3 (4, r) 1 (by simp [nR]), nS3, nS3, nS3, nS3, nS3]
            exact ⟨rfl, r1⟩
          · have hr' : r < nr := by omega
            have o := old r hr'
            rw [oR (27, 0) r (by simp [nR]) (by simp [er]), oR (6, r) 1 (o _ rfl) (by simp), oR (6, r) 2 (o _ rfl) (by simp), oR (6, r) 3 (o _ rfl) (by simp), oR (6, r) 4 (o _ rfl) (by simp), oR (4, r) 0 (o _ rfl) (by simp), oR (4, r) 1 (o _ rfl) (by simp), oS _ (o (20, r) rfl), oS _ (o (21, r) rfl), oS _ (o (22, r) rfl), oS _ (o (15, r) rfl), oS _ (o (16, r) rfl)]
            exact i.sr.1 r hr'
        · have o : ∀ m : xN, m.2 = r → ¬ nR nr m := fun m hm z => by have := z.1; omega
          rw [eS, oS _ (o (6, r) rfl), oS _ (o (20, r) rfl), oS _ (o (21, r) rfl), oS _ (o (4, r) rfl), oS _ (o (22, r) rfl), oS _ (o (15, r) rfl), oS _ (o (16, r) rfl)]
          exact i.sr.2 r (by omega) hr2
        · rw [eS]; exact oS m (fun z => by rcases z.2 with z | z | z | z | z | z | z <;> (unfold spS at hm; rw [z] at hm; cases hm))
        · rw [eR]; exact oR m j (fun z => by rcases z.2 with z | z | z | z | z | z | z <;> (unfold spR at hm; rw [z] at hm; cases hm)) (fun z => by rw [z.1] at hm; cases hm)
        · refine oI7 m j (fun z => by rcases z.2 with z | z | z | z | z | z | z <;> (unfold rdShP at hm; rw [z] at hm; cases hm)) (fun z => ?_)
          unfold KL at z; simp at z
          rcases z with z | z | z | z | z <;> (rw [z.1, z.2] at hm; cases hm)
        · rw [eS]; exact oS m (fun z => by rcases z.2 with z | z | z | z | z | z | z <;> (unfold stS at hm; rw [z] at hm; cases hm))
        · rw [eR]; exact oR m j (fun z => by rcases z.2 with z | z | z | z | z | z | z <;> (unfold stR at hm; rw [z] at hm; cases hm)) (fun z => by rw [z.1] at hm; cases hm)
        · refine oI7 m j (fun z => by rcases z.2 with z | z | z | z | z | z | z <;> (unfold rdShT at hm; rw [z] at hm; cases hm)) (fun z => ?_)
          unfold KL at z; simp at z
          rcases z with z | z | z | z | z <;> (rw [z.1, z.2] at hm; cases hm)
        · by_cases er : r = nr
          · subst er
            refine ⟨⟨n, 0, hn1, hn2, by omega, by rw [nI7 _ _ (by simp [nR])]; exact g0, k36, by rw [nI7 _ _ (by simp [nR]), g8, z0]; rfl, k37, ?_⟩, by rw [nI7 _ _ (by simp [nR]), g7, k35], Or.inl k35, fun k hk => ?_⟩
            · rw [nI7 _ _ (by simp [nR]), g6, cn_all]
              intro k hk
              rw [w38, (i.vr.2 _ (by omega)).1]; rfl
            · rw [nI7 (20, r) k (by simp [nR]), nI7 (21, r) k (by simp [nR]), g20, g21, w38, w39, (i.vr.2 (13 * r + k) (by omega)).1, (i.vr.2 (13 * r + k) (by omega)).2]
              exact ⟨rfl, Or.inl rfl, rfl, 0, by omega, rfl⟩
          · have hr' : r < nr := by omega
            have o := old r hr'
            have vr := i.vr.1 r hr'
            have o6 : ∀ q, hI h7 (6, r) q = hI h (6, r) q := fun q => oI7 _ _ (o _ rfl) (by simp [KL])
            have o20 : ∀ q, hI h7 (20, r) q = hI h (20, r) q := fun q => oI7 _ _ (o _ rfl) (by simp [KL])
            have o21 : ∀ q, hI h7 (21, r) q = hI h (21, r) q := fun q => oI7 _ _ (o _ rfl) (by simp [KL])
            simp only [w38, w39, o6, o20, o21, oI7 (35, 0) r (by simp [nR]) (by simp [KL, er]), oI7 (36, 0) r (by simp [nR]) (by simp [KL, er]), oI7 (37, 0) r (by simp [nR]) (by simp [KL, er])]
            exact vr
        · rw [w38, w39]; exact i.vr.2 q (by omega)
        · have o98 : ∀ q, hI h7 (98, 0) q = hI h (98, 0) q := fun q => oI7 _ _ (by simp [nR]) (by simp [KL])
          have o99 : ∀ q, hI h7 (99, 0) q = hI h (99, 0) q := fun q => oI7 _ _ (by simp [nR]) (by simp [KL])
          by_cases er : r = nr
          · subst er
            exact ⟨0, by omega, by rw [nI7 _ _ (by simp [nR]), g5, z0]; rfl, by rw [o98]; exact i.vl.2 r (by omega), fun k hk => by omega⟩
          · have hr' : r < nr := by omega
            have o := old r hr'
            have o6 : ∀ q, hI h7 (6, r) q = hI h (6, r) q := fun q => oI7 _ _ (o _ rfl) (by simp [KL])
            have o22 : ∀ q, hI h7 (22, r) q = hI h (22, r) q := fun q => oI7 _ _ (o _ rfl) (by simp [KL])
            simp only [o98, o99, o6, o22]
            exact i.vl.1 r hr'
        · rw [oI7 _ _ (by simp [nR]) (by simp [KL])]; exact i.vl.2 r (by omega)
        · by_cases er : r = nr
          · subst er; rw [k35] at c5; exact absurd c5 (by decide)
          · have hr' : r < nr := by omega
            have o := old r hr'
            rw [oI7 _ _ (by simp [nR]) (by simp [KL, er])] at c5
            have f := i.vf r hr' c5
            refine ⟨by rw [oI7 _ _ (o (4, r) rfl) (by simp [KL]), oI7 _ _ (o (6, r) rfl) (by simp [KL])]; exact f.1, ?_⟩
            rw [oI7 _ _ (by simp [nR]) (by simp [KL, er])]
            exact FinOK_fr (fun k _ _ => by unfold posM; rw [w39]) (oI7 _ _ (o _ rfl) (by simp [KL])) (fun _ => oI7 _ _ (o _ rfl) (by simp [KL])) (fun _ => oI7 _ _ (o _ rfl) (by simp [KL])) f.2
        · have P : VP (hI h7) nr := fr1 (C := fun I => VP I nr) (c := rdVP) (fun _ => rfl) (fun m j hm => oI7 m j (fun z => by rcases z.2 with z | z | z | z | z | z | z <;> (unfold rdVP at hm; rw [z] at hm; cases hm)) (fun z => by
            unfold KL at z; simp at z
            rcases z with z | z | z | z | z <;> (rw [z.1, z.2] at hm; cases hm))) i.vp
          refine ⟨fun c => ?_, fun c => (P p hp).2 c⟩
          have := (P p hp).1 c
          exact ⟨by omega, by omega, this.2.2⟩
        · have k40 : hI h7 (40, 0) p = hI h (40, 0) p := oI7 _ _ (by simp [nR]) (by simp [KL])
          have k43 : hI h7 (43, 0) p = hI h (43, 0) p := oI7 _ _ (by simp [nR]) (by simp [KL])
          rw [k40] at cp
          have P := (i.vp p hp).1 cp
          have Q := i.vq p hp cp
          rw [k43, wf, wc, oI7 (35, 0) (frp (hI h) p) (by simp [nR]) (by simp [KL]; omega), oI7 (35, 0) (scp (hI h) p) (by simp [nR]) (by simp [KL]; omega)]
          exact Q
      · rw [oI _ _ (by simp [nR]) (by simp), v4] at z
        have z' : nI nr = nI 12 := z
        rw [nI_inj (by omega) (by omega)] at z'
        omega
    · have := z.1
      rcases z.2 with z | z | z | z | z | z | z <;> (unfold shS at hm; rw [z] at hm; simp at hm)
      all_goals omega
    · have := z.1
      rcases z.2 with z | z | z | z | z | z | z <;> (unfold shR at hm; rw [z] at hm; simp at hm)
      all_goals omega
    · rw [z.1] at hm; cases hm
  · unfold p_M_race
    refine w_in (fun c4 => absurd ⟨?_, ?_⟩ c4) (fun _ => ⟨fun _ => ⟨rfl, fun z => ?_, fun _ => hG h ⟨nr, nt, i⟩⟩, fun z => absurd z (by decide)⟩)
    · rw [v4, show nr = 12 by omega] at z; exact absurd rfl z
    · rw [ti_lt] at c; omega
    · rw [ti_le] at c2; omega
end Race2
