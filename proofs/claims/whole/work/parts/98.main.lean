section Law
variable {L : Nat} {xs : Nat → Int32} {h : xH}
theorem lg_refl (x : Int64) : lg_cmp x x = 0 := by
  unfold lg_cmp
  rw [if_neg (show ¬ x > x from Int64.lt_irrefl), if_pos rfl]
set_option maxHeartbeats 8000000 in
set_option maxRecDepth 8000 in
theorem law_loop (hL : L ≤ 3584) : ∀ (m a k : Nat) (h : xH), L < 7 * a + 7 * (m + 1) → k ≤ 233 + 7 * a → 7 * a ≤ L → Ok L xs h → p_L_law_L18 (11, 0) (12, 0) (fun (_ : Nat) (_ : xH) => (1 : Int32) = 1) (fun r _ => r = 1) (m + 1) (nI (7 * a)) k h := by
  intro m
  induction m with
  | zero =>
    intro a k h hm hk ha ok
    obtain ⟨nr, nt, i⟩ := ok
    have s1 := i.vs.1
    unfold p_L_law_L18
    rw [s1]
    refine ⟨fun _ => rfl, fun z => absurd ?_ z⟩
    show nI (L + 1 - 1) - nI 7 < nI (7 * a)
    rw [Nat.add_sub_cancel, ti_lt, Int32.toInt_sub, ti_n (by omega), ti_n (by omega), ti_n (by omega), Int.bmod_eq_of_le (by omega) (by omega)]
    omega
  | succ m ih =>
    intro a k h hm hk ha ok
    have vs0 : VS (hS h) (hI h) L xs := by obtain ⟨nr, nt, i⟩ := ok; exact i.vs
    have e : ∀ h1, VS (hS h1) (hI h1) L xs → ∀ j, hI h1 (1, 0) j = hI h (1, 0) j := fun h1 v j => (v.2 j).trans (vs0.2 j).symm
    unfold p_L_law_L18
    refine ⟨fun _ => rfl, fun z => ?_⟩
    have a7 : 7 * a + 7 ≤ L := by
      rw [vs0.1] at z
      have z' : ¬ nI (L + 1 - 1) - nI 7 < nI (7 * a) := z
      rw [Nat.add_sub_cancel, ti_lt, Int32.toInt_sub, ti_n (by omega), ti_n (by omega), ti_n (by omega), Int.bmod_eq_of_le (by omega) (by omega)] at z'
      omega
    have go : ∀ m', m' ≤ 7 → ∀ y, y = nI (7 * a) + (7 : Int32) → ∀ h2, Ok L xs h2 → p_L_law_L18 (11, 0) (12, 0) (fun (_ : Nat) (_ : xH) => (1 : Int32) = 1) (fun r _ => r = 1) (m + 1) y (k + m') h2 := fun m' hm' y ey h2 ok2 => by
      have e7 : nI (7 * a) + (7 : Int32) = nI (7 * (a + 1)) := by rw [show (7 : Int32) = nI 7 from rfl, nI_add]; rfl
      rw [ey, e7]
      exact ih (a + 1) (k + m') h2 (by omega) (by omega) (by omega) ok2
    have vi : ∀ h1, VS (hS h1) (hI h1) L xs → ∀ i : Nat, i < 7 → vp_in (nI (7 * a) + nI i) (hS h1 (1, 0) - 1) := fun h1 v i hi => by
      rw [v.1, nI_add]; exact in_n (by omega) (by omega)
    have vi0 : vp_in (nI (7 * a)) (hS h (1, 0) - 1) := by rw [vs0.1]; exact in_n (by omega) (by omega)
    refine ⟨vi0, ?_, ?_, ?_, ?_, ?_, ?_, ?_, ?_, ?_, ?_, ?_, ?_, ?_, ?_, ?_, ?_, ?_, ?_, ?_, ?_, ?_, ?_, ?_, ?_, ?_, ?_, ?_, ?_, ?_, ?_, ?_, ?_, ?_, ?_, ?_, ?_, ?_, ?_, ?_, ?_, ?_, ?_, ?_, ?_, ?_, ?_, ?_, ?_, ?_, ?_⟩
    · exact fun _ => ⟨vi h vs0 1 (by omega), by omega, rfl, o_race ok _ (fun c h1 v1 mm => ⟨vi h1 v1 1 (by omega), by omega, rfl, by rw [e h1 v1]; exact mm _ (fun h2 ok2 => ⟨fun _ y ey => go 7 (by omega) y ey h2 ok2, fun z => absurd rfl z⟩)⟩)⟩
    · exact fun _ => ⟨vi h vs0 1 (by omega), vi h vs0 2 (by omega), vi h vs0 3 (by omega), vi h vs0 4 (by omega), by omega, rfl, o_pool ok _ _ _ _ (fun c h1 v1 mm => ⟨vi h1 v1 1 (by omega), vi h1 v1 2 (by omega), vi h1 v1 3 (by omega), vi h1 v1 4 (by omega), by omega, rfl, by rw [e h1 v1, e h1 v1, e h1 v1, e h1 v1]; exact mm _ (fun h2 ok2 => ⟨fun _ y ey => go 6 (by omega) y ey h2 ok2, fun z => absurd rfl z⟩)⟩)⟩
    · exact fun _ => ⟨vi h vs0 1 (by omega), vi h vs0 2 (by omega), vi h vs0 3 (by omega), vi h vs0 4 (by omega), by omega, rfl, o_twin ok _ _ _ _ (fun c h1 v1 mm => ⟨vi h1 v1 1 (by omega), vi h1 v1 2 (by omega), vi h1 v1 3 (by omega), vi h1 v1 4 (by omega), by omega, rfl, by rw [e h1 v1, e h1 v1, e h1 v1, e h1 v1]; exact mm _ (fun h2 ok2 => ⟨fun _ y ey => go 6 (by omega) y ey h2 ok2, fun z => absurd rfl z⟩)⟩)⟩
    · exact fun _ => ⟨vi h vs0 1 (by omega), vi h vs0 2 (by omega), by omega, rfl, o_substitute ok _ _ (fun c h1 v1 mm => ⟨vi h1 v1 1 (by omega), vi h1 v1 2 (by omega), by omega, rfl, by rw [e h1 v1, e h1 v1]; exact mm _ (fun h2 ok2 => ⟨fun _ y ey => go 0 (by omega) y ey h2 ok2, fun z => absurd rfl z⟩)⟩)⟩
    · exact fun _ => ⟨vi h vs0 1 (by omega), vi h vs0 2 (by omega), by omega, rfl, o_scratch ok _ _ (fun c h1 v1 mm => ⟨vi h1 v1 1 (by omega), vi h1 v1 2 (by omega), by omega, rfl, by rw [e h1 v1, e h1 v1]; exact mm _ (fun h2 ok2 => ⟨fun _ y ey => go 0 (by omega) y ey h2 ok2, fun z => absurd rfl z⟩)⟩)⟩
    · exact fun _ => ⟨vi h vs0 1 (by omega), by omega, rfl, o_off ok _ (fun c h1 v1 mm => ⟨vi h1 v1 1 (by omega), by omega, rfl, by rw [e h1 v1]; exact mm _ (fun h2 ok2 => ⟨fun _ y ey => go 0 (by omega) y ey h2 ok2, fun z => absurd rfl z⟩)⟩)⟩
    · exact fun _ => ⟨vi h vs0 1 (by omega), vi h vs0 2 (by omega), vi h vs0 3 (by omega), by omega, rfl, o_place ok _ _ _ (fun c h1 v1 mm => ⟨vi h1 v1 1 (by omega), vi h1 v1 2 (by omega), vi h1 v1 3 (by omega), by omega, rfl, by rw [e h1 v1, e h1 v1, e h1 v1]; exact mm _ (fun h2 ok2 => ⟨fun _ y ey => go 0 (by omega) y ey h2 ok2, fun z => absurd rfl z⟩)⟩)⟩
    · exact fun _ => ⟨vi h vs0 1 (by omega), by omega, rfl, o_official ok _ (fun c h1 v1 mm => ⟨vi h1 v1 1 (by omega), by omega, rfl, by rw [e h1 v1]; exact mm _ (fun h2 ok2 => ⟨fun _ y ey => go 0 (by omega) y ey h2 ok2, fun z => absurd rfl z⟩)⟩)⟩
    · exact fun _ => ⟨vi h vs0 1 (by omega), vi h vs0 2 (by omega), by omega, rfl, o_raceAt ok _ _ (fun c h1 v1 mm => ⟨vi h1 v1 1 (by omega), vi h1 v1 2 (by omega), by omega, rfl, by rw [e h1 v1, e h1 v1]; exact mm _ (fun h2 ok2 => ⟨fun _ y ey => go 0 (by omega) y ey h2 ok2, fun z => absurd rfl z⟩)⟩)⟩
    · exact fun _ => ⟨vi h vs0 1 (by omega), vi h vs0 2 (by omega), vi h vs0 3 (by omega), vi h vs0 4 (by omega), vi h vs0 5 (by omega), vi h vs0 6 (by omega), by omega, rfl, o_sell ok _ _ _ _ _ _ (fun c h1 v1 mm => ⟨vi h1 v1 1 (by omega), vi h1 v1 2 (by omega), vi h1 v1 3 (by omega), vi h1 v1 4 (by omega), vi h1 v1 5 (by omega), vi h1 v1 6 (by omega), by omega, rfl, by rw [e h1 v1, e h1 v1, e h1 v1, e h1 v1, e h1 v1, e h1 v1]; exact mm _ (fun h2 ok2 => ⟨fun _ y ey => go 1 (by omega) y ey h2 ok2, fun z => absurd rfl z⟩)⟩)⟩
    · exact fun _ => ⟨vi h vs0 1 (by omega), by omega, rfl, o_cancel ok _ (fun c h1 v1 mm => ⟨vi h1 v1 1 (by omega), by omega, rfl, by rw [e h1 v1]; exact mm _ (fun h2 ok2 => ⟨fun _ y ey => go 0 (by omega) y ey h2 ok2, fun z => absurd rfl z⟩)⟩)⟩
    · exact fun _ => ⟨vi h vs0 1 (by omega), by omega, rfl, o_pay ok _ (fun c h1 v1 mm => ⟨vi h1 v1 1 (by omega), by omega, rfl, by rw [e h1 v1]; exact mm _ (fun h2 ok2 => ⟨fun _ y ey => go 0 (by omega) y ey h2 ok2, fun z => absurd rfl z⟩)⟩)⟩
    · exact fun _ => ⟨vi h vs0 1 (by omega), vi h vs0 2 (by omega), by omega, rfl, o_ticket ok _ _ (fun c h1 v1 mm => ⟨vi h1 v1 1 (by omega), vi h1 v1 2 (by omega), by omega, rfl, by rw [e h1 v1, e h1 v1]; exact mm _ (fun h2 ok2 => ⟨fun _ y ey => go 0 (by omega) y ey h2 ok2, fun z => absurd rfl z⟩)⟩)⟩
    · exact fun _ => ⟨vi h vs0 1 (by omega), vi h vs0 2 (by omega), vi h vs0 3 (by omega), vi h vs0 4 (by omega), by omega, rfl, o_units ok _ _ _ _ (fun c h1 v1 mm => ⟨vi h1 v1 1 (by omega), vi h1 v1 2 (by omega), vi h1 v1 3 (by omega), vi h1 v1 4 (by omega), by omega, rfl, by rw [e h1 v1, e h1 v1, e h1 v1, e h1 v1]; exact mm _ (fun h2 ok2 => ⟨fun _ y ey => go 0 (by omega) y ey h2 ok2, fun z => absurd rfl z⟩)⟩)⟩
    · exact fun _ => ⟨vi h vs0 1 (by omega), vi h vs0 2 (by omega), vi h vs0 3 (by omega), vi h vs0 4 (by omega), by omega, rfl, o_dividend ok _ _ _ _ (fun c h1 v1 mm => ⟨vi h1 v1 1 (by omega), vi h1 v1 2 (by omega), vi h1 v1 3 (by omega), vi h1 v1 4 (by omega), by omega, rfl, by rw [e h1 v1, e h1 v1, e h1 v1, e h1 v1]; exact mm _ (fun h2 ok2 => ⟨fun _ y ey => go 0 (by omega) y ey h2 ok2, fun z => absurd rfl z⟩)⟩)⟩
    · exact fun _ => ⟨vi h vs0 1 (by omega), vi h vs0 2 (by omega), vi h vs0 3 (by omega), vi h vs0 4 (by omega), by omega, rfl, o_odds ok _ _ _ _ (fun c h1 v1 mm => ⟨vi h1 v1 1 (by omega), vi h1 v1 2 (by omega), vi h1 v1 3 (by omega), vi h1 v1 4 (by omega), by omega, rfl, by rw [e h1 v1, e h1 v1, e h1 v1, e h1 v1]; exact mm _ (fun h2 ok2 => ⟨fun _ y ey => go 0 (by omega) y ey h2 ok2, fun z => absurd rfl z⟩)⟩)⟩
    · exact fun _ => ⟨vi h vs0 1 (by omega), vi h vs0 2 (by omega), by omega, rfl, o_book ok _ _ (fun c h1 v1 mm => ⟨vi h1 v1 1 (by omega), vi h1 v1 2 (by omega), by omega, rfl, by rw [e h1 v1, e h1 v1]; exact mm _ (fun h2 ok2 => ⟨fun _ y ey => go 0 (by omega) y ey h2 ok2, fun z => absurd rfl z⟩)⟩)⟩
    · exact fun _ => ⟨by omega, rfl, o_rest ok  (fun c h1 v1 mm => ⟨by omega, rfl, by exact mm _ (fun h2 ok2 => ⟨fun _ y ey => go 0 (by omega) y ey h2 ok2, fun z => absurd rfl z⟩)⟩)⟩
    · exact fun _ => ⟨by omega, rfl, o_unclaimed ok  (fun c h1 v1 mm => ⟨by omega, rfl, by exact mm _ (fun h2 ok2 => ⟨fun _ y ey => go 0 (by omega) y ey h2 ok2, fun z => absurd rfl z⟩)⟩)⟩
    · exact fun _ => ⟨vi h vs0 1 (by omega), by omega, rfl, o_worst ok _ (fun c h1 v1 mm => ⟨vi h1 v1 1 (by omega), by omega, rfl, by rw [e h1 v1]; exact mm _ (fun h2 ok2 => ⟨fun _ y ey => go 0 (by omega) y ey h2 ok2, fun z => absurd rfl z⟩)⟩)⟩
    · exact fun _ => ⟨by omega, rfl, o_worstDue ok  (fun c h1 v1 mm => ⟨by omega, rfl, by exact mm _ (fun h2 ok2 => ⟨fun _ y ey => go 0 (by omega) y ey h2 ok2, fun z => absurd rfl z⟩)⟩)⟩
    · exact fun _ => ⟨vi h vs0 1 (by omega), by omega, rfl, o_premium ok _ (fun c h1 v1 mm => ⟨vi h1 v1 1 (by omega), by omega, rfl, by rw [e h1 v1]; exact mm _ (fun h2 ok2 => ⟨fun _ y ey => go 0 (by omega) y ey h2 ok2, fun z => absurd rfl z⟩)⟩)⟩
    · exact fun _ => ⟨vi h vs0 1 (by omega), vi h vs0 2 (by omega), by omega, rfl, o_drawer ok _ _ (fun c h1 v1 mm => ⟨vi h1 v1 1 (by omega), vi h1 v1 2 (by omega), by omega, rfl, by rw [e h1 v1, e h1 v1]; exact mm _ (fun h2 ok2 => ⟨fun _ y ey => go 0 (by omega) y ey h2 ok2, fun z => absurd rfl z⟩)⟩)⟩
    · exact fun _ => ⟨vi h vs0 1 (by omega), by omega, rfl, o_lose ok _ (fun c h1 v1 mm => ⟨vi h1 v1 1 (by omega), by omega, rfl, by rw [e h1 v1]; exact mm _ (fun h2 ok2 => ⟨fun _ y ey => go 0 (by omega) y ey h2 ok2, fun z => absurd rfl z⟩)⟩)⟩
    · exact fun _ => ⟨vi h vs0 1 (by omega), vi h vs0 2 (by omega), vi h vs0 3 (by omega), by omega, rfl, o_keep ok _ _ _ (fun c h1 v1 mm => ⟨vi h1 v1 1 (by omega), vi h1 v1 2 (by omega), vi h1 v1 3 (by omega), by omega, rfl, by rw [e h1 v1, e h1 v1, e h1 v1]; exact mm _ (fun h2 ok2 => ⟨fun _ y ey => go 0 (by omega) y ey h2 ok2, fun z => absurd rfl z⟩)⟩)⟩
    · exact fun _ => ⟨vi h vs0 1 (by omega), vi h vs0 2 (by omega), vi h vs0 3 (by omega), vi h vs0 4 (by omega), vi h vs0 5 (by omega), by omega, rfl, o_note ok _ _ _ _ (fun c h1 v1 mm => ⟨vi h1 v1 1 (by omega), vi h1 v1 2 (by omega), vi h1 v1 3 (by omega), vi h1 v1 4 (by omega), vi h1 v1 5 (by omega), by omega, rfl, by rw [e h1 v1, e h1 v1, e h1 v1, e h1 v1, e h1 v1]; exact mm _ (fun h2 ok2 => ⟨fun _ y ey => go 0 (by omega) y ey h2 ok2, fun z => absurd rfl z⟩)⟩)⟩
    · exact fun _ => ⟨vi h vs0 1 (by omega), vi h vs0 2 (by omega), vi h vs0 3 (by omega), by omega, rfl, o_coins ok _ _ _ (fun c h1 v1 mm => ⟨vi h1 v1 1 (by omega), vi h1 v1 2 (by omega), vi h1 v1 3 (by omega), by omega, rfl, by rw [e h1 v1, e h1 v1, e h1 v1]; exact mm _ (fun h2 ok2 => ⟨fun _ y ey => go 0 (by omega) y ey h2 ok2, fun z => absurd rfl z⟩)⟩)⟩
    · exact fun _ => ⟨vi h vs0 1 (by omega), vi h vs0 2 (by omega), by omega, rfl, o_clear ok _ _ (fun c h1 v1 mm => ⟨vi h1 v1 1 (by omega), vi h1 v1 2 (by omega), by omega, rfl, by rw [e h1 v1, e h1 v1]; exact mm _ (fun h2 ok2 => ⟨fun _ y ey => go 0 (by omega) y ey h2 ok2, fun z => absurd rfl z⟩)⟩)⟩
    · exact fun _ => ⟨vi h vs0 1 (by omega), vi h vs0 2 (by omega), by omega, rfl, o_kind ok _ _ (fun c h1 v1 mm => ⟨vi h1 v1 1 (by omega), vi h1 v1 2 (by omega), by omega, rfl, by rw [e h1 v1, e h1 v1]; exact mm _ (fun h2 ok2 => ⟨fun _ y ey => go 0 (by omega) y ey h2 ok2, fun z => absurd rfl z⟩)⟩)⟩
    · exact fun _ => ⟨vi h vs0 1 (by omega), vi h vs0 2 (by omega), by omega, rfl, o_read ok _ _ (fun c h1 v1 mm => ⟨vi h1 v1 1 (by omega), vi h1 v1 2 (by omega), by omega, rfl, by rw [e h1 v1, e h1 v1]; exact mm _ (fun h2 ok2 => ⟨fun _ y ey => go 0 (by omega) y ey h2 ok2, fun z => absurd rfl z⟩)⟩)⟩
    · exact fun _ => ⟨vi h vs0 1 (by omega), vi h vs0 2 (by omega), vi h vs0 3 (by omega), by omega, rfl, o_letter ok _ _ _ (fun c h1 v1 mm => ⟨vi h1 v1 1 (by omega), vi h1 v1 2 (by omega), vi h1 v1 3 (by omega), by omega, rfl, by rw [e h1 v1, e h1 v1, e h1 v1]; exact mm _ (fun h2 ok2 => ⟨fun _ y ey => go 0 (by omega) y ey h2 ok2, fun z => absurd rfl z⟩)⟩)⟩
    · exact fun _ => ⟨vi h vs0 1 (by omega), vi h vs0 2 (by omega), vi h vs0 3 (by omega), vi h vs0 4 (by omega), by omega, rfl, o_coin ok _ _ _ _ (fun c h1 v1 mm => ⟨vi h1 v1 1 (by omega), vi h1 v1 2 (by omega), vi h1 v1 3 (by omega), vi h1 v1 4 (by omega), by omega, rfl, by rw [e h1 v1, e h1 v1, e h1 v1, e h1 v1]; exact mm _ (fun h2 ok2 => ⟨fun _ y ey => go 0 (by omega) y ey h2 ok2, fun z => absurd rfl z⟩)⟩)⟩
    · exact fun _ => ⟨vi h vs0 1 (by omega), vi h vs0 2 (by omega), vi h vs0 3 (by omega), by omega, rfl, o_coinAt ok _ _ _ (fun c h1 v1 mm => ⟨vi h1 v1 1 (by omega), vi h1 v1 2 (by omega), vi h1 v1 3 (by omega), by omega, rfl, by rw [e h1 v1, e h1 v1, e h1 v1]; exact mm _ (fun h2 ok2 => ⟨fun _ y ey => go 0 (by omega) y ey h2 ok2, fun z => absurd rfl z⟩)⟩)⟩
    · exact fun _ => ⟨vi h vs0 1 (by omega), vi h vs0 2 (by omega), vi h vs0 3 (by omega), vi h vs0 4 (by omega), by omega, rfl, o_change ok _ _ _ _ (fun c h1 v1 mm => ⟨vi h1 v1 1 (by omega), vi h1 v1 2 (by omega), vi h1 v1 3 (by omega), vi h1 v1 4 (by omega), by omega, rfl, by rw [e h1 v1, e h1 v1, e h1 v1, e h1 v1]; exact mm _ (fun h2 ok2 => ⟨fun _ y ey => go 0 (by omega) y ey h2 ok2, fun z => absurd rfl z⟩)⟩)⟩
    · exact fun _ => ⟨vi h vs0 1 (by omega), vi h vs0 2 (by omega), vi h vs0 3 (by omega), by omega, rfl, o_satchel ok _ _ _ (fun c h1 v1 mm => ⟨vi h1 v1 1 (by omega), vi h1 v1 2 (by omega), vi h1 v1 3 (by omega), by omega, rfl, by rw [e h1 v1, e h1 v1, e h1 v1]; exact mm _ (fun h2 ok2 => ⟨fun _ y ey => go 0 (by omega) y ey h2 ok2, fun z => absurd rfl z⟩)⟩)⟩
    · exact fun _ => ⟨vi h vs0 1 (by omega), vi h vs0 2 (by omega), vi h vs0 3 (by omega), vi h vs0 4 (by omega), vi h vs0 5 (by omega), by omega, rfl, o_gather ok _ _ _ _ _ (fun c h1 v1 mm => ⟨vi h1 v1 1 (by omega), vi h1 v1 2 (by omega), vi h1 v1 3 (by omega), vi h1 v1 4 (by omega), vi h1 v1 5 (by omega), by omega, rfl, by rw [e h1 v1, e h1 v1, e h1 v1, e h1 v1, e h1 v1]; exact mm _ (fun h2 ok2 => ⟨fun _ y ey => go 0 (by omega) y ey h2 ok2, fun z => absurd rfl z⟩)⟩)⟩
    · exact fun _ => ⟨vi h vs0 1 (by omega), vi h vs0 2 (by omega), vi h vs0 3 (by omega), vi h vs0 4 (by omega), vi h vs0 5 (by omega), by omega, rfl, o_shift ok _ _ _ _ _ (fun c h1 v1 mm => ⟨vi h1 v1 1 (by omega), vi h1 v1 2 (by omega), vi h1 v1 3 (by omega), vi h1 v1 4 (by omega), vi h1 v1 5 (by omega), by omega, rfl, by rw [e h1 v1, e h1 v1, e h1 v1, e h1 v1, e h1 v1]; exact mm _ (fun h2 ok2 => ⟨fun _ y ey => go 0 (by omega) y ey h2 ok2, fun z => absurd rfl z⟩)⟩)⟩
    · exact fun _ => ⟨by omega, rfl, o_came ok  (fun c h1 v1 mm => ⟨by omega, rfl, by exact mm _ (fun h2 ok2 => ⟨fun _ y ey => go 0 (by omega) y ey h2 ok2, fun z => absurd rfl z⟩)⟩)⟩
    · exact fun _ => ⟨vi h vs0 1 (by omega), vi h vs0 2 (by omega), by omega, rfl, o_held ok _ _ (fun c h1 v1 mm => ⟨vi h1 v1 1 (by omega), vi h1 v1 2 (by omega), by omega, rfl, by rw [e h1 v1, e h1 v1]; exact mm _ (fun h2 ok2 => ⟨fun _ y ey => go 0 (by omega) y ey h2 ok2, fun z => absurd rfl z⟩)⟩)⟩
    · exact fun _ => ⟨vi h vs0 1 (by omega), by omega, rfl, o_cash ok _ (fun c h1 v1 mm => ⟨vi h1 v1 1 (by omega), by omega, rfl, by rw [e h1 v1]; exact mm _ (fun h2 ok2 => ⟨fun _ y ey => go 0 (by omega) y ey h2 ok2, fun z => absurd rfl z⟩)⟩)⟩
    · exact fun _ => ⟨vi h vs0 1 (by omega), vi h vs0 2 (by omega), by omega, rfl, o_lap ok _ _ (fun c h1 v1 mm => ⟨vi h1 v1 1 (by omega), vi h1 v1 2 (by omega), by omega, rfl, by rw [e h1 v1, e h1 v1]; exact mm _ (fun h2 ok2 => ⟨fun _ y ey => go 0 (by omega) y ey h2 ok2, fun z => absurd rfl z⟩)⟩)⟩
    · exact fun _ => ⟨vi h vs0 1 (by omega), vi h vs0 2 (by omega), by omega, rfl, o_lapAt ok _ _ (fun c h1 v1 mm => ⟨vi h1 v1 1 (by omega), vi h1 v1 2 (by omega), by omega, rfl, by rw [e h1 v1, e h1 v1]; exact mm _ (fun h2 ok2 => ⟨fun _ y ey => go 0 (by omega) y ey h2 ok2, fun z => absurd rfl z⟩)⟩)⟩
    · exact fun _ => ⟨vi h vs0 1 (by omega), vi h vs0 2 (by omega), by omega, rfl, o_pace ok _ _ (fun c h1 v1 mm => ⟨vi h1 v1 1 (by omega), vi h1 v1 2 (by omega), by omega, rfl, by rw [e h1 v1, e h1 v1]; exact mm _ (fun h2 ok2 => ⟨fun _ y ey => go 0 (by omega) y ey h2 ok2, fun z => absurd rfl z⟩)⟩)⟩
    · exact fun _ => ⟨vi h vs0 1 (by omega), vi h vs0 2 (by omega), vi h vs0 3 (by omega), by omega, rfl, o_remainder ok _ _ _ (fun c h1 v1 mm => ⟨vi h1 v1 1 (by omega), vi h1 v1 2 (by omega), vi h1 v1 3 (by omega), by omega, rfl, by rw [e h1 v1, e h1 v1, e h1 v1]; exact mm _ (fun h2 ok2 => ⟨fun _ y ey => go 0 (by omega) y ey h2 ok2, fun z => absurd rfl z⟩)⟩)⟩
    · exact fun _ => ⟨vi h vs0 1 (by omega), vi h vs0 2 (by omega), by omega, rfl, o_ask ok _ _ (fun c h1 v1 mm => ⟨vi h1 v1 1 (by omega), vi h1 v1 2 (by omega), by omega, rfl, by rw [e h1 v1, e h1 v1]; exact mm _ (fun h2 ok2 => ⟨fun _ y ey => go 0 (by omega) y ey h2 ok2, fun z => absurd rfl z⟩)⟩)⟩
    · exact fun _ => ⟨vi h vs0 1 (by omega), by omega, rfl, o_trace ok _ (fun c h1 v1 mm => ⟨vi h1 v1 1 (by omega), by omega, rfl, by rw [e h1 v1]; exact mm _ (fun h2 ok2 => ⟨fun _ y ey => go 0 (by omega) y ey h2 ok2, fun z => absurd rfl z⟩)⟩)⟩
    · exact fun _ => ⟨by omega, rfl, o_finding ok  (fun c h1 v1 mm => ⟨by omega, rfl, by exact mm _ (fun h2 ok2 => ⟨fun _ y ey => go 0 (by omega) y ey h2 ok2, fun z => absurd rfl z⟩)⟩)⟩
    · exact fun _ => ⟨vi h vs0 1 (by omega), by omega, rfl, o_count ok _ (fun c h1 v1 mm => ⟨vi h1 v1 1 (by omega), by omega, rfl, by rw [e h1 v1]; exact mm _ (fun h2 ok2 => ⟨fun _ y ey => go 0 (by omega) y ey h2 ok2, fun z => absurd rfl z⟩)⟩)⟩
    · exact fun _ => ⟨by omega, rfl, o_digest ok  (fun c h1 v1 mm => ⟨by omega, rfl, by exact mm _ (fun h2 ok2 => ⟨fun _ y ey => go 0 (by omega) y ey h2 ok2, fun z => absurd (lg_refl _) z⟩)⟩)⟩
    · exact fun _ y ey => go 0 (by omega) y ey h ok
theorem main_p (L : Nat) (xs : Nat → Int32) (hL : L ≤ 3584) : p_L_law (h_in L xs) (fun r _ => r = 1) := by
  unfold p_L_law
  refine ⟨by rw [hS_in, if_neg (by simp)], fun h2 e2 => ?_⟩
  rw [e2]
  refine w_TI (fun h4 t => ⟨t.2.2.2.1 12 0 (by omega), fun h6 e6 => ?_⟩)
  rw [e6]
  refine w_MI (fun k hk => ?_) ?_
  · rw [hS_nW, if_neg (by simp; omega)]; exact t.2.2.2.1 k 0 (by omega)
  · exact ⟨L / 7 + 1, law_loop hL (L / 7) 0 233 _ (by omega) (by omega) (by omega) ⟨0, 0, inv_start t⟩⟩
end Law
