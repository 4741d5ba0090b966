/-! base rows: pasted from kit/rows (pk_, nx_), then rows on bits of our own (tb_) -/
theorem pk_us {f : Nat → Int32} {k : Nat} {x : Int32} : upd f k x k = x := if_pos rfl
theorem pk_un {f : Nat → Int32} {k j : Nat} {x : Int32} (h : j ≠ k) : upd f k x j = f j := if_neg h
theorem pk_sub {a b : Nat} (h : b ≤ a) : nI a - nI b = nI (a - b) := by
  obtain ⟨c, rfl⟩ : ∃ c, a = c + b := ⟨a - b, by omega⟩
  rw [← nI_add, Int32.add_sub_cancel, Nat.add_sub_cancel]
theorem pk_m1 (n : Nat) : nI (n + 1) + (-1) = nI n := by
  rw [← nI_1, Int32.add_assoc, show (1 : Int32) + (-1) = 0 from rfl, Int32.add_zero]
theorem pk_ix (x : Int32) {n : Nat} (hn : n < 2 ^ 31) : x < 0 ∨ nI n ≤ x ∨ ∃ j : Nat, j < n ∧ x = nI j := by
  by_cases h : x < 0
  · exact Or.inl h
  · obtain ⟨j, hj, rfl⟩ := nI_of h
    by_cases h2 : j < n
    · exact Or.inr (Or.inr ⟨j, h2, rfl⟩)
    · exact Or.inr (Or.inl (nI_le (by omega) hj))
theorem pk_le {x y : Int32} {A B : Prop} (a b : Nat) (f : a ≤ b → A) (g : b < a → B) (hx : x = nI a := by rfl) (hy : y = nI b := by rfl) (ha : a < 2 ^ 31 := by omega) (hb : b < 2 ^ 31 := by omega) : (x ≤ y → A) ∧ (¬ x ≤ y → B) := by
  subst hx hy
  rw [nI_leI ha hb]
  exact ⟨f, fun z => g (by omega)⟩
theorem pk_lt {x y : Int32} {A B : Prop} (a b : Nat) (f : a < b → A) (g : b ≤ a → B) (hx : x = nI a := by rfl) (hy : y = nI b := by rfl) (ha : a < 2 ^ 31 := by omega) (hb : b < 2 ^ 31 := by omega) : (x < y → A) ∧ (¬ x < y → B) := by
  subst hx hy
  rw [nI_ltI ha hb]
  exact ⟨f, fun z => g (by omega)⟩
theorem pk_eq {x y : Int32} {A B : Prop} (a b : Nat) (f : a = b → A) (g : a ≠ b → B) (hx : x = nI a := by rfl) (hy : y = nI b := by rfl) (ha : a < 2 ^ 31 := by omega) (hb : b < 2 ^ 31 := by omega) : (x = y → A) ∧ (¬ x = y → B) := by
  subst hx hy
  rw [nI_eq ha hb]
  exact ⟨f, g⟩
theorem pk_in {x : Int32} (n N : Nat) (h : n < N) (hx : x = nI n := by rfl) (hN : N < 2 ^ 31 := by omega) : vp_in x N := by
  subst hx
  exact vp_in_nI h hN
theorem pk_cl {x : Int32} (n : Nat) (hx : x = nI n := by rfl) (h : n < 2 ^ 31 := by omega) : x.toNatClampNeg = n := by
  subst hx
  exact nI_clamp h
theorem pk_least (P : Nat → Prop) (h : ∃ k, P k) : ∃ k, P k ∧ ∀ j, j < k → ¬ P j := by
  obtain ⟨k, hk⟩ := h
  induction k using Nat.strongRecOn with
  | ind k ih =>
    by_cases e : ∃ j, j < k ∧ P j
    · obtain ⟨j, hj, pj⟩ := e
      exact ih j hj pj
    · exact ⟨k, hk, fun j hj pj => e ⟨j, hj, pj⟩⟩
theorem nx_and (a b : Nat) : nI a &&& nI b = nI (a &&& b) := by
  apply Int32.toBitVec_inj.1
  show BitVec.ofNat 32 a &&& BitVec.ofNat 32 b = BitVec.ofNat 32 (a &&& b)
  apply BitVec.eq_of_getLsbD_eq
  intro i hi
  simp [hi]
theorem nx_xor (a b : Nat) : nI a ^^^ nI b = nI (a ^^^ b) := by
  apply Int32.toBitVec_inj.1
  show BitVec.ofNat 32 a ^^^ BitVec.ofNat 32 b = BitVec.ofNat 32 (a ^^^ b)
  apply BitVec.eq_of_getLsbD_eq
  intro i hi
  simp [hi]

theorem tb_or (a b : Nat) : nI a ||| nI b = nI (a ||| b) := by
  apply Int32.toBitVec_inj.1
  show BitVec.ofNat 32 a ||| BitVec.ofNat 32 b = BitVec.ofNat 32 (a ||| b)
  apply BitVec.eq_of_getLsbD_eq
  intro i hi
  simp [hi]
/-- the set S without the members of M -/
def tb_df (S M : Nat) : Nat := S ^^^ (S &&& M)
theorem tb_dft (S M i : Nat) : (tb_df S M).testBit i = (S.testBit i && !M.testBit i) := by
  unfold tb_df
  rw [Nat.testBit_xor, Nat.testBit_and]
  cases S.testBit i <;> cases M.testBit i <;> rfl
theorem tb_dif (S M : Nat) : nI S &&& (nI M ^^^ (-1)) = nI (tb_df S M) := by
  apply Int32.toBitVec_inj.1
  show BitVec.ofNat 32 S &&& (BitVec.ofNat 32 M ^^^ (-1 : Int32).toBitVec) = BitVec.ofNat 32 (tb_df S M)
  rw [show (-1 : Int32).toBitVec = BitVec.allOnes 32 from by decide]
  apply BitVec.eq_of_getLsbD_eq
  intro i hi
  rw [BitVec.getLsbD_and, BitVec.getLsbD_xor, BitVec.getLsbD_ofNat, BitVec.getLsbD_ofNat, BitVec.getLsbD_ofNat, BitVec.getLsbD_allOnes, tb_dft]
  simp [hi]
theorem tb_bit : ∀ k, k < 7 → (1 : Int32) <<< (nI k &&& 31) = nI (2 ^ k) := by decide +kernel
theorem tb_has : ∀ S, S < 128 → ∀ k, k < 7 → ((nI S >>> (nI k &&& 31)) &&& 1) = if S.testBit k = true then 1 else 0 := by decide +kernel
theorem tb_127 : ∀ S, S < 128 → nI S &&& 127 = nI S := by decide +kernel
theorem tb_pt (k i : Nat) : (2 ^ k).testBit i = decide (k = i) := Nat.testBit_two_pow
theorem tb_ext {S T : Nat} (h : ∀ i, S.testBit i = true ↔ T.testBit i = true) : S = T := by
  apply Nat.eq_of_testBit_eq
  intro i
  have := h i
  cases hs : S.testBit i <;> cases ht : T.testBit i <;> simp_all
theorem tb_ort (S T i : Nat) : (S ||| T).testBit i = true ↔ S.testBit i = true ∨ T.testBit i = true := by
  rw [Nat.testBit_or, Bool.or_eq_true]
theorem tb_pm (k i : Nat) : (2 ^ k).testBit i = true ↔ k = i := by
  rw [tb_pt, decide_eq_true_iff]
theorem tb_dm (S M i : Nat) : (tb_df S M).testBit i = true ↔ S.testBit i = true ∧ ¬ M.testBit i = true := by
  rw [tb_dft]
  cases S.testBit i <;> cases M.testBit i <;> simp
theorem tb_d2 (S a b i : Nat) : (tb_df S (2 ^ a ||| 2 ^ b)).testBit i = true ↔ S.testBit i = true ∧ i ≠ a ∧ i ≠ b := by
  rw [tb_dm, tb_ort, tb_pm, tb_pm]
  constructor
  · exact fun h => ⟨h.1, fun e => h.2 (Or.inl e.symm), fun e => h.2 (Or.inr e.symm)⟩
  · exact fun h => ⟨h.1, fun e => e.elim (fun e => h.2.1 e.symm) (fun e => h.2.2 e.symm)⟩
theorem tb_d1 (S a i : Nat) : (tb_df S (2 ^ a)).testBit i = true ↔ S.testBit i = true ∧ i ≠ a := by
  rw [tb_dm, tb_pm]
  exact ⟨fun h => ⟨h.1, fun e => h.2 e.symm⟩, fun h => ⟨h.1, fun e => h.2 e.symm⟩⟩
theorem tb_o1 (S a i : Nat) : (S ||| 2 ^ a).testBit i = true ↔ S.testBit i = true ∨ i = a := by
  rw [tb_ort, tb_pm]
  exact ⟨fun h => h.imp id Eq.symm, fun h => h.imp id Eq.symm⟩
theorem tb_le {S T : Nat} (h : ∀ i, S.testBit i = true → T.testBit i = true) : S ≤ T := by
  have e : S &&& T = S := by
    apply Nat.eq_of_testBit_eq
    intro i
    rw [Nat.testBit_and]
    have := h i
    cases hs : S.testBit i <;> simp_all
  rw [← e]
  exact Nat.and_le_right
theorem tb_df0 {S M : Nat} : tb_df S M = 0 ↔ ∀ i, S.testBit i = true → M.testBit i = true := by
  constructor
  · intro h i hi
    have h2 := tb_dft S M i
    rw [h, Nat.zero_testBit, hi] at h2
    cases hm : M.testBit i
    · rw [hm] at h2; exact absurd h2 (by decide)
    · rfl
  · intro h
    apply Nat.eq_of_testBit_eq
    intro i
    rw [tb_dft, Nat.zero_testBit]
    have := h i
    cases hs : S.testBit i <;> simp_all
theorem tb_lt7 {S i : Nat} (h : S < 128) (hi : S.testBit i = true) : i < 7 := by
  rcases Nat.lt_or_ge i 7 with h7 | h7
  · exact h7
  · have : S < 2 ^ i := Nat.lt_of_lt_of_le h (show 2 ^ 7 ≤ 2 ^ i from Nat.pow_le_pow_right (by decide) h7)
    rw [Nat.testBit_lt_two_pow this] at hi
    exact absurd hi (by decide)
theorem tb_128 {S : Nat} (h : ∀ i, S.testBit i = true → i < 7) : S < 128 := by
  apply Nat.lt_pow_two_of_testBit (n := 7)
  intro i hi
  cases hs : S.testBit i
  · rfl
  · have := h i hs
    omega
theorem tb_ne {S : Nat} (h : S ≠ 0) : ∃ i, S.testBit i = true := by
  apply Classical.byContradiction
  intro hn
  apply h
  apply Nat.eq_of_testBit_eq
  intro i
  rw [Nat.zero_testBit]
  cases hs : S.testBit i
  · rfl
  · exact absurd ⟨i, hs⟩ hn
theorem tb_n0 (i : Nat) : ¬ (0 : Nat).testBit i = true := by
  rw [Nat.zero_testBit]
  decide
theorem tb_nz {S : Nat} (h : S < 128) : nI S = 0 ↔ S = 0 := by
  rw [← nI_0]
  exact nI_eq (by omega) (by omega)
theorem tb_o128 {S a : Nat} (h : S < 128) (ha : a < 7) : S ||| 2 ^ a < 128 := by
  apply tb_128
  intro i hi
  rcases (tb_o1 S a i).mp hi with h1 | h1
  · exact tb_lt7 h h1
  · omega
theorem tb_sl {S T : Nat} (h : ∀ i, S.testBit i = true → T.testBit i = true) (hT : T < 128) : S < 128 := Nat.lt_of_le_of_lt (tb_le h) hT
theorem tb_dle (S M : Nat) : tb_df S M ≤ S := tb_le (fun i hi => ((tb_dm S M i).mp hi).1)
theorem tb_dlt {S M a : Nat} (hs : S.testBit a = true) (hm : M.testBit a = true) : tb_df S M < S := by
  rcases Nat.lt_or_ge (tb_df S M) S with h | h
  · exact h
  · have e : tb_df S M = S := Nat.le_antisymm (tb_dle S M) h
    have h2 := (tb_dm S M a).mp (by rw [e]; exact hs)
    exact absurd hm h2.2
