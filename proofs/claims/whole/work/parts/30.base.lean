/-! plain facts: Int32 as numbers, heaps, counting -/
theorem ti_lt (a b : Int32) : a < b ↔ a.toInt < b.toInt := Int32.lt_iff_toInt_lt
theorem ti_le (a b : Int32) : a ≤ b ↔ a.toInt ≤ b.toInt := Int32.le_iff_toInt_le
theorem ti_eq (a b : Int32) : a = b ↔ a.toInt = b.toInt := Int32.toInt_inj.symm
theorem ti_n {n : Nat} (h : n < 2147483648) : (nI n).toInt = n := nI_toInt h
theorem ti_c (x : Int32) : x.toNatClampNeg = x.toInt.toNat := rfl
theorem cl_n {n : Nat} (h : n < 2147483648) : (nI n).toNatClampNeg = n := nI_clamp h
theorem li_n (n : Nat) : (OfNat.ofNat n : Int32) = nI n := rfl
theorem nI_inj {a b : Nat} (ha : a < 2147483648) (hb : b < 2147483648) : nI a = nI b ↔ a = b := nI_eq ha hb
/-- an argument that is within: a number -/
theorem arg_lt {x : Int32} {n : Nat} (h0 : ¬ x < 0) (h1 : x < nI n) (hn : n < 2147483648) : ∃ j, j < n ∧ x = nI j := by
  rw [ti_lt] at h0 h1
  rw [ti_n hn] at h1
  have e0 : (0 : Int32).toInt = 0 := rfl
  rw [e0] at h0
  refine ⟨x.toInt.toNat, by omega, ?_⟩
  rw [ti_eq, ti_n (by omega)]
  omega
theorem arg_le {x : Int32} {m n : Nat} (h0 : ¬ x < nI m) (h1 : ¬ nI n < x) (hn : n < 2147483648) (hm : m < 2147483648) : ∃ j, m ≤ j ∧ j ≤ n ∧ x = nI j := by
  rw [ti_lt] at h0 h1
  rw [ti_n hn] at h1
  rw [ti_n hm] at h0
  refine ⟨x.toInt.toNat, by omega, by omega, ?_⟩
  rw [ti_eq, ti_n (by omega)]
  omega
theorem in_n {j n : Nat} (h : j < n) (hj : j < 2147483648) : vp_in (nI j) n := by
  unfold vp_in
  rw [cl_n hj, ti_lt, ti_n hj]
  have e0 : (0 : Int32).toInt = 0 := rfl
  rw [e0]
  omega
theorem ix_n (a b c : Nat) : nI a * nI b + nI c = nI (a * b + c) := by rw [pk_mul, nI_add]
theorem i01 (c : Prop) [Decidable c] : ((if c then (1 : Int32) else 0) = 0) ↔ ¬ c := by
  by_cases h : c
  · simp [h]
  · simp [h]
/-- counting -/
def cn (f : Nat → Bool) : Nat → Nat
  | 0 => 0
  | n + 1 => cn f n + (if f n then 1 else 0)
theorem cn_le (f : Nat → Bool) : ∀ n, cn f n ≤ n
  | 0 => Nat.le_refl _
  | n + 1 => by
    have := cn_le f n
    unfold cn
    split <;> omega
theorem cn_congr {f g : Nat → Bool} : ∀ n, (∀ k, k < n → f k = g k) → cn f n = cn g n
  | 0, _ => rfl
  | n + 1, h => by
    unfold cn
    rw [cn_congr n (fun k hk => h k (by omega)), h n (by omega)]
/-- one of them falls away -/
theorem cn_drop {f g : Nat → Bool} {i : Nat} (hf : f i = true) (hg : g i = false) (ho : ∀ k, k ≠ i → g k = f k) : ∀ n, i < n → cn f n = cn g n + 1
  | 0, h => by omega
  | n + 1, h => by
    unfold cn
    by_cases e : n = i
    · subst e
      rw [hf, hg, cn_congr n (fun k hk => ho k (by omega))]
      simp
    · rw [cn_drop hf hg ho n (by omega), ho n e]
      omega
/-- two heaps that differ at some places of ints alone -/
def Sm (K : xN → Nat → Prop) (h h' : xH) : Prop := (∀ n j, ¬ K n j → hI h' n j = hI h n j) ∧ hS h' = hS h ∧ hR h' = hR h
theorem Sm.rf (K : xN → Nat → Prop) (h : xH) : Sm K h h := ⟨fun _ _ _ => rfl, rfl, rfl⟩
theorem Sm.tr {K : xN → Nat → Prop} {h h1 h2 : xH} (a : Sm K h h1) (b : Sm K h1 h2) : Sm K h h2 := ⟨fun n j k => (b.1 n j k).trans (a.1 n j k), b.2.1.trans a.2.1, b.2.2.trans a.2.2⟩
theorem Sm.si {K : xN → Nat → Prop} {h h1 : xH} (a : Sm K h h1) {n : xN} {j : Nat} (x : Int32) (hk : K n j) : Sm K h (sI h1 n j x) := ⟨fun n' j' k => by
    rw [hI_sI, if_neg (fun z => k (by rw [z.1, z.2]; exact hk))]
    exact a.1 n' j' k, a.2.1, a.2.2⟩
theorem Sm.mono {K K' : xN → Nat → Prop} {h h1 : xH} (a : Sm K h h1) (hk : ∀ n j, K n j → K' n j) : Sm K' h h1 := ⟨fun n j k => a.1 n j (fun z => k (hk n j z)), a.2.1, a.2.2⟩
