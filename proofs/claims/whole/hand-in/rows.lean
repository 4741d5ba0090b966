section
/-! base rows: pasted from kit/rows (pk_, nx_), then rows on bits of our own (tb_) -/
theorem pk_us {f : Nat → Int32} {k : Nat} {x : Int32} : upd f k x k = x := if_pos rfl
theorem pk_un {f : Nat → Int32} {k j : Nat} {x : Int32} (h : j ≠ k) : upd f k x j = f j := if_neg h
theorem pk_sub {a b : Nat} (h : b ≤ a) : nI a - nI b = nI (a - b) := by
  obtain ⟨c, rfl⟩ : ∃ c, a = c + b := ⟨a - b, by omega⟩
  rw [← nI_add, Int32.add_sub_cancel, Nat.add_sub_cancel]
theorem pk_m1 (n : Nat) : nI (n + 1) + (-1) = nI n := by
  rw [← nI_1, Int32.add_assoc, show (1 : Int32) + (-1) = 0 from rfl, Int32.add_zero]
theorem pk_ix (x : Int32) {n : Nat} (hn : n < 2 ^ 31) : x < 0 ∨ nI n ≤ x ∨ ∃ j : Nat, j < n ∧ x = nI j := by
  by_cases h : x < 0
  · exact Or.inl h
  · obtain ⟨j, hj, rfl⟩ := nI_of h
    by_cases h2 : j < n
    · exact Or.inr (Or.inr ⟨j, h2, rfl⟩)
    · exact Or.inr (Or.inl (nI_le (by omega) hj))
theorem pk_le {x y : Int32} {A B : Prop} (a b : Nat) (f : a ≤ b → A) (g : b < a → B) (hx : x = nI a := by rfl) (hy : y = nI b := by rfl) (ha : a < 2 ^ 31 := by omega) (hb : b < 2 ^ 31 := by omega) : (x ≤ y → A) ∧ (¬ x ≤ y → B) := by
  subst hx hy
  rw [nI_leI ha hb]
  exact ⟨f, fun z => g (by omega)⟩
theorem pk_lt {x y : Int32} {A B : Prop} (a b : Nat) (f : a < b → A) (g : b ≤ a → B) (hx : x = nI a := by rfl) (hy : y = nI b := by rfl) (ha : a < 2 ^ 31 := by omega) (hb : b < 2 ^ 31 := by omega) : (x < y → A) ∧ (¬ x < y → B) := by
  subst hx hy
  rw [nI_ltI ha hb]
  exact ⟨f, fun z => g (by omega)⟩
theorem pk_eq {x y : Int32} {A B : Prop} (a b : Nat) (f : a = b → A) (g : a ≠ b → B) (hx : x = nI a := by rfl) (hy : y = nI b := by rfl) (ha : a < 2 ^ 31 := by omega) (hb : b < 2 ^ 31 := by omega) : (x = y → A) ∧ (¬ x = y → B) := by
  subst hx hy
  rw [nI_eq ha hb]
  exact ⟨f, g⟩
theorem pk_in {x : Int32} (n N : Nat) (h : n < N) (hx : x = nI n := by rfl) (hN : N < 2 ^ 31 := by omega) : vp_in x N := by
  subst hx
  exact vp_in_nI h hN
theorem pk_cl {x : Int32} (n : Nat) (hx : x = nI n := by rfl) (h : n < 2 ^ 31 := by omega) : x.toNatClampNeg = n := by
  subst hx
  exact nI_clamp h
theorem pk_least (P : Nat → Prop) (h : ∃ k, P k) : ∃ k, P k ∧ ∀ j, j < k → ¬ P j := by
  obtain ⟨k, hk⟩ := h
  induction k using Nat.strongRecOn with
  | ind k ih =>
    by_cases e : ∃ j, j < k ∧ P j
    · obtain ⟨j, hj, pj⟩ := e
      exact ih j hj pj
    · exact ⟨k, hk, fun j hj pj => e ⟨j, hj, pj⟩⟩
theorem nx_and (a b : Nat) : nI a &&& nI b = nI (a &&& b) := by
  apply Int32.toBitVec_inj.1
  show BitVec.ofNat 32 a &&& BitVec.ofNat 32 b = BitVec.ofNat 32 (a &&& b)
  apply BitVec.eq_of_getLsbD_eq
  intro i hi
  simp [hi]
theorem nx_xor (a b : Nat) : nI a ^^^ nI b = nI (a ^^^ b) := by
  apply Int32.toBitVec_inj.1
  show BitVec.ofNat 32 a ^^^ BitVec.ofNat 32 b = BitVec.ofNat 32 (a ^^^ b)
  apply BitVec.eq_of_getLsbD_eq
  intro i hi
  simp [hi]

theorem tb_or (a b : Nat) : nI a ||| nI b = nI (a ||| b) := by
  apply Int32.toBitVec_inj.1
  show BitVec.ofNat 32 a ||| BitVec.ofNat 32 b = BitVec.ofNat 32 (a ||| b)
  apply BitVec.eq_of_getLsbD_eq
  intro i hi
  simp [hi]
/-- the set S without the members of M -/
def tb_df (S M : Nat) : Nat := S ^^^ (S &&& M)
theorem tb_dft (S M i : Nat) : (tb_df S M).testBit i = (S.testBit i && !M.testBit i) := by
  unfold tb_df
  rw [Nat.testBit_xor, Nat.testBit_and]
  cases S.testBit i <;> cases M.testBit i <;> rfl
theorem tb_dif (S M : Nat) : nI S &&& (nI M ^^^ (-1)) = nI (tb_df S M) := by
  apply Int32.toBitVec_inj.1
  show BitVec.ofNat 32 S &&& (BitVec.ofNat 32 M ^^^ (-1 : Int32).toBitVec) = BitVec.ofNat 32 (tb_df S M)
  rw [show (-1 : Int32).toBitVec = BitVec.allOnes 32 from by decide]
  apply BitVec.eq_of_getLsbD_eq
  intro i hi
  rw [BitVec.getLsbD_and, BitVec.getLsbD_xor, BitVec.getLsbD_ofNat, BitVec.getLsbD_ofNat, BitVec.getLsbD_ofNat, BitVec.getLsbD_allOnes, tb_dft]
  simp [hi]
theorem tb_bit : ∀ k, k < 7 → (1 : Int32) <<< (nI k &&& 31) = nI (2 ^ k) := by decide +kernel
theorem tb_has : ∀ S, S < 128 → ∀ k, k < 7 → ((nI S >>> (nI k &&& 31)) &&& 1) = if S.testBit k = true then 1 else 0 := by decide +kernel
theorem tb_127 : ∀ S, S < 128 → nI S &&& 127 = nI S := by decide +kernel
theorem tb_pt (k i : Nat) : (2 ^ k).testBit i = decide (k = i) := Nat.testBit_two_pow
theorem tb_ext {S T : Nat} (h : ∀ i, S.testBit i = true ↔ T.testBit i = true) : S = T := by
  apply Nat.eq_of_testBit_eq
  intro i
  have := h i
  cases hs : S.testBit i <;> cases ht : T.testBit i <;> simp_all
theorem tb_ort (S T i : Nat) : (S ||| T).testBit i = true ↔ S.testBit i = true ∨ T.testBit i = true := by
  rw [Nat.testBit_or, Bool.or_eq_true]
theorem tb_pm (k i : Nat) : (2 ^ k).testBit i = true ↔ k = i := by
  rw [tb_pt, decide_eq_true_iff]
theorem tb_dm (S M i : Nat) : (tb_df S M).testBit i = true ↔ S.testBit i = true ∧ ¬ M.testBit i = true := by
  rw [tb_dft]
  cases S.testBit i <;> cases M.testBit i <;> simp
theorem tb_d2 (S a b i : Nat) : (tb_df S (2 ^ a ||| 2 ^ b)).testBit i = true ↔ S.testBit i = true ∧ i ≠ a ∧ i ≠ b := by
  rw [tb_dm, tb_ort, tb_pm, tb_pm]
  constructor
  · exact fun h => ⟨h.1, fun e => h.2 (Or.inl e.symm), fun e => h.2 (Or.inr e.symm)⟩
  · exact fun h => ⟨h.1, fun e => e.elim (fun e => h.2.1 e.symm) (fun e => h.2.2 e.symm)⟩
theorem tb_d1 (S a i : Nat) : (tb_df S (2 ^ a)).testBit i = true ↔ S.testBit i = true ∧ i ≠ a := by
  rw [tb_dm, tb_pm]
  exact ⟨fun h => ⟨h.1, fun e => h.2 e.symm⟩, fun h => ⟨h.1, fun e => h.2 e.symm⟩⟩
theorem tb_o1 (S a i : Nat) : (S ||| 2 ^ a).testBit i = true ↔ S.testBit i = true ∨ i = a := by
  rw [tb_ort, tb_pm]
  exact ⟨fun h => h.imp id Eq.symm, fun h => h.imp id Eq.symm⟩
theorem tb_le {S T : Nat} (h : ∀ i, S.testBit i = true → T.testBit i = true) : S ≤ T := by
  have e : S &&& T = S := by
    apply Nat.eq_of_testBit_eq
    intro i
    rw [Nat.testBit_and]
    have := h i
    cases hs : S.testBit i <;> simp_all
  rw [← e]
  exact Nat.and_le_right
theorem tb_df0 {S M : Nat} : tb_df S M = 0 ↔ ∀ i, S.testBit i = true → M.testBit i = true := by
  constructor
  · intro h i hi
    have h2 := tb_dft S M i
    rw [h, Nat.zero_testBit, hi] at h2
    cases hm : M.testBit i
    · rw [hm] at h2; exact absurd h2 (by decide)
    · rfl
  · intro h
    apply Nat.eq_of_testBit_eq
    intro i
    rw [tb_dft, Nat.zero_testBit]
    have := h i
    cases hs : S.testBit i <;> simp_all
theorem tb_lt7 {S i : Nat} (h : S < 128) (hi : S.testBit i = true) : i < 7 := by
  rcases Nat.lt_or_ge i 7 with h7 | h7
  · exact h7
  · have : S < 2 ^ i := Nat.lt_of_lt_of_le h (show 2 ^ 7 ≤ 2 ^ i from Nat.pow_le_pow_right (by decide) h7)
    rw [Nat.testBit_lt_two_pow this] at hi
    exact absurd hi (by decide)
theorem tb_128 {S : Nat} (h : ∀ i, S.testBit i = true → i < 7) : S < 128 := by
  apply Nat.lt_pow_two_of_testBit (n := 7)
  intro i hi
  cases hs : S.testBit i
  · rfl
  · have := h i hs
    omega
theorem tb_ne {S : Nat} (h : S ≠ 0) : ∃ i, S.testBit i = true := by
  apply Classical.byContradiction
  intro hn
  apply h
  apply Nat.eq_of_testBit_eq
  intro i
  rw [Nat.zero_testBit]
  cases hs : S.testBit i
  · rfl
  · exact absurd ⟨i, hs⟩ hn
theorem tb_n0 (i : Nat) : ¬ (0 : Nat).testBit i = true := by
  rw [Nat.zero_testBit]
  decide
theorem tb_nz {S : Nat} (h : S < 128) : nI S = 0 ↔ S = 0 := by
  rw [← nI_0]
  exact nI_eq (by omega) (by omega)
theorem tb_o128 {S a : Nat} (h : S < 128) (ha : a < 7) : S ||| 2 ^ a < 128 := by
  apply tb_128
  intro i hi
  rcases (tb_o1 S a i).mp hi with h1 | h1
  · exact tb_lt7 h h1
  · omega
theorem tb_sl {S T : Nat} (h : ∀ i, S.testBit i = true → T.testBit i = true) (hT : T < 128) : S < 128 := Nat.lt_of_le_of_lt (tb_le h) hT
theorem tb_dle (S M : Nat) : tb_df S M ≤ S := tb_le (fun i hi => ((tb_dm S M i).mp hi).1)
theorem tb_dlt {S M a : Nat} (hs : S.testBit a = true) (hm : M.testBit a = true) : tb_df S M < S := by
  rcases Nat.lt_or_ge (tb_df S M) S with h | h
  · exact h
  · have e : tb_df S M = S := Nat.le_antisymm (tb_dle S M) h
    have h2 := (tb_dm S M a).mp (by rw [e]; exact hs)
    exact absurd hm h2.2
end
section
/-! the mathematics: timetables of a set of tasks (no machine yet) -/
/-- at most w tasks a slot (w is 1 or 2) -/
def tp_W (w S : Nat) (s : Nat → Nat) : Prop :=
  (w = 1 → ∀ i j, S.testBit i = true → S.testBit j = true → s i = s j → i = j) ∧
  (∀ i j k, S.testBit i = true → S.testBit j = true → S.testBit k = true → s i = s j → s j = s k → i = j ∨ j = k ∨ i = k)
/-- s is a good timetable of the set S: windows from L up to below H, predecessors B -/
def tp_F (w : Nat) (B L H : Nat → Nat) (S : Nat) (s : Nat → Nat) : Prop :=
  (∀ i, S.testBit i = true → L i ≤ s i ∧ s i < H i) ∧
  (∀ i j, S.testBit i = true → S.testBit j = true → (B j).testBit i = true → s i < s j) ∧ tp_W w S s
def tp_C (B : Nat → Nat) (S : Nat) : Prop := ∀ j, S.testBit j = true → ∀ i, (B j).testBit i = true → S.testBit i = true
/-- the set S, closed under predecessors, can be done within t slots -/
def tp_G (w : Nat) (B L H : Nat → Nat) (S t : Nat) : Prop :=
  ∃ s, tp_F w B L H S s ∧ (∀ i, S.testBit i = true → s i < t) ∧ tp_C B S
def tp_E (w : Nat) (B L H : Nat → Nat) (S : Nat) : Prop := ∃ s, tp_F w B L H S s
def tp_up (H : Nat → Nat) (j d : Nat) : Nat → Nat := fun i => if i = j then d else H i
theorem tp_us (H : Nat → Nat) (j d : Nat) : tp_up H j d j = d := if_pos rfl
theorem tp_un (H : Nat → Nat) {j i : Nat} (d : Nat) (h : i ≠ j) : tp_up H j d i = H i := if_neg h
theorem tp_ui (H : Nat → Nat) (j : Nat) : tp_up H j (H j) = H := by
  funext i
  by_cases h : i = j
  · rw [h, tp_us]
  · rw [tp_un H _ h]
theorem tp_W_mono {w S T : Nat} {s : Nat → Nat} (h : ∀ i, S.testBit i = true → T.testBit i = true) (hw : tp_W w T s) : tp_W w S s :=
  ⟨fun e i j hi hj => hw.1 e i j (h i hi) (h j hj), fun i j k hi hj hk => hw.2 i j k (h i hi) (h j hj) (h k hk)⟩
theorem tp_F_mono {w S T : Nat} {B B' L L' H H' s : Nat → Nat} (h : ∀ i, S.testBit i = true → T.testBit i = true)
    (hB : ∀ j, S.testBit j = true → ∀ i, S.testBit i = true → (B' j).testBit i = true → (B j).testBit i = true)
    (hL : ∀ i, S.testBit i = true → L' i ≤ L i) (hH : ∀ i, S.testBit i = true → H i ≤ H' i)
    (hF : tp_F w B L H T s) : tp_F w B' L' H' S s := by
  refine ⟨fun i hi => ?_, fun i j hi hj hb => hF.2.1 i j (h i hi) (h j hj) (hB j hj i hi hb), tp_W_mono h hF.2.2⟩
  have h1 := hF.1 i (h i hi)
  have h2 := hL i hi
  have h3 := hH i hi
  omega
theorem tp_G_up {w S t t' : Nat} {B L H : Nat → Nat} (h : t ≤ t') (g : tp_G w B L H S t) : tp_G w B L H S t' := by
  obtain ⟨s, h1, h2, h3⟩ := g
  exact ⟨s, h1, fun i hi => Nat.lt_of_lt_of_le (h2 i hi) h, h3⟩
theorem tp_G_E {w S t : Nat} {B L H : Nat → Nat} (g : tp_G w B L H S t) : tp_E w B L H S := by
  obtain ⟨s, h1, _⟩ := g
  exact ⟨s, h1⟩
theorem tp_E_G {w S t : Nat} {B L H : Nat → Nat} (hH : ∀ i, S.testBit i = true → H i ≤ t) (hC : tp_C B S) (g : tp_E w B L H S) : tp_G w B L H S t := by
  obtain ⟨s, h1⟩ := g
  exact ⟨s, h1, fun i hi => Nat.lt_of_lt_of_le (h1.1 i hi).2 (hH i hi), hC⟩
theorem tp_G_0 {w S : Nat} {B L H : Nat → Nat} (h : S ≠ 0) : ¬ tp_G w B L H S 0 := by
  intro ⟨s, _, h2, _⟩
  obtain ⟨i, hi⟩ := tb_ne h
  exact absurd (h2 i hi) (Nat.not_lt_zero _)
theorem tp_G_e (w t : Nat) (B L H : Nat → Nat) : tp_G w B L H 0 t :=
  ⟨fun _ => 0, ⟨fun i hi => absurd hi (tb_n0 i), fun i j hi => absurd hi (tb_n0 i), fun _ i j hi => absurd hi (tb_n0 i), fun i j k hi => absurd hi (tb_n0 i)⟩,
    fun i hi => absurd hi (tb_n0 i), fun i hi => absurd hi (tb_n0 i)⟩
/-- one slot more, with a and b in it (a may be b) -/
theorem tp_ext {w S S' a b t : Nat} {B L H : Nat → Nat} (hS : ∀ i, S'.testBit i = true ↔ S.testBit i = true ∨ i = a ∨ i = b)
    (ha : ¬ S.testBit a = true) (hb : ¬ S.testBit b = true) (hw : w = 1 → a = b) (la : L a ≤ t ∧ t < H a) (lb : L b ≤ t ∧ t < H b)
    (pa : ∀ i, (B a).testBit i = true → S.testBit i = true) (pb : ∀ i, (B b).testBit i = true → S.testBit i = true)
    (g : tp_G w B L H S t) : tp_G w B L H S' (t + 1) := by
  obtain ⟨s, hF, ht, hC⟩ := g
  have vi : ∀ i, S.testBit i = true → (if S.testBit i = true then s i else t) = s i := fun i hi => if_pos hi
  have vn : ∀ i, ¬ S.testBit i = true → (if S.testBit i = true then s i else t) = t := fun i hi => if_neg hi
  refine ⟨fun i => if S.testBit i = true then s i else t, ⟨?_, ?_, ?_, ?_⟩, ?_, ?_⟩
  · intro i hi
    show L i ≤ (if S.testBit i = true then s i else t) ∧ (if S.testBit i = true then s i else t) < H i
    by_cases hs : S.testBit i = true
    · rw [vi i hs]
      exact hF.1 i hs
    · rw [vn i hs]
      rcases (hS i).mp hi with h | h | h
      · exact absurd h hs
      · rw [h]; exact la
      · rw [h]; exact lb
  · intro i j hi hj hbb
    show (if S.testBit i = true then s i else t) < (if S.testBit j = true then s j else t)
    by_cases hs : S.testBit j = true
    · have hsi := hC j hs i hbb
      rw [vi i hsi, vi j hs]
      exact hF.2.1 i j hsi hs hbb
    · rw [vn j hs]
      have hsi : S.testBit i = true := by
        rcases (hS j).mp hj with h | h | h
        · exact absurd h hs
        · rw [h] at hbb; exact pa i hbb
        · rw [h] at hbb; exact pb i hbb
      rw [vi i hsi]
      exact ht i hsi
  · intro e i j hi hj
    show (if S.testBit i = true then s i else t) = (if S.testBit j = true then s j else t) → i = j
    have hab := hw e
    by_cases hs : S.testBit i = true
    · by_cases hs2 : S.testBit j = true
      · rw [vi i hs, vi j hs2]
        exact hF.2.2.1 e i j hs hs2
      · rw [vi i hs, vn j hs2]
        have := ht i hs
        intro h
        omega
    · by_cases hs2 : S.testBit j = true
      · rw [vn i hs, vi j hs2]
        have := ht j hs2
        intro h
        omega
      · intro _
        rcases (hS i).mp hi with h | h | h
        · exact absurd h hs
        · rcases (hS j).mp hj with h' | h' | h'
          · exact absurd h' hs2
          · omega
          · omega
        · rcases (hS j).mp hj with h' | h' | h'
          · exact absurd h' hs2
          · omega
          · omega
  · intro i j k hi hj hk
    show (if S.testBit i = true then s i else t) = (if S.testBit j = true then s j else t) → (if S.testBit j = true then s j else t) = (if S.testBit k = true then s k else t) → _
    have key : ∀ i, S'.testBit i = true → ¬ S.testBit i = true → i = a ∨ i = b := by
      intro i hi hs
      rcases (hS i).mp hi with h | h
      · exact absurd h hs
      · exact h
    by_cases h1 : S.testBit i = true
    · have t1 := ht i h1
      by_cases h2 : S.testBit j = true
      · have t2 := ht j h2
        by_cases h3 : S.testBit k = true
        · rw [vi i h1, vi j h2, vi k h3]
          exact hF.2.2.2 i j k h1 h2 h3
        · rw [vi i h1, vi j h2, vn k h3]
          intro _ h
          omega
      · rw [vi i h1, vn j h2]
        intro h
        omega
    · by_cases h2 : S.testBit j = true
      · have t2 := ht j h2
        rw [vn i h1, vi j h2]
        intro h
        omega
      · by_cases h3 : S.testBit k = true
        · have t3 := ht k h3
          rw [vn j h2, vi k h3]
          intro _ h
          omega
        · intro _ _
          have k1 := key i hi h1
          have k2 := key j hj h2
          have k3 := key k hk h3
          omega
  · intro i hi
    show (if S.testBit i = true then s i else t) < t + 1
    by_cases hs : S.testBit i = true
    · rw [vi i hs]
      exact Nat.lt_succ_of_lt (ht i hs)
    · rw [vn i hs]
      exact Nat.lt_succ_self t
  · intro j hj i hi
    apply (hS i).mpr
    rcases (hS j).mp hj with h | h | h
    · exact Or.inl (hC j h i hi)
    · rw [h] at hi; exact Or.inl (pa i hi)
    · rw [h] at hi; exact Or.inl (pb i hi)
/-- what lies in the last slot can be taken off -/
theorem tp_off {w S a b t : Nat} {B L H s : Nat → Nat} (hF : tp_F w B L H S s) (ht : ∀ i, S.testBit i = true → s i < t + 1) (hC : tp_C B S)
    (hab : ∀ i, S.testBit i = true → (s i = t ↔ i = a ∨ i = b)) : tp_G w B L H (tb_df S (2 ^ a ||| 2 ^ b)) t := by
  have hs : ∀ i, (tb_df S (2 ^ a ||| 2 ^ b)).testBit i = true → S.testBit i = true := fun i hi => ((tb_d2 S a b i).mp hi).1
  have hl : ∀ i, (tb_df S (2 ^ a ||| 2 ^ b)).testBit i = true → s i < t := by
    intro i hi
    have h1 := (tb_d2 S a b i).mp hi
    have h2 := ht i h1.1
    have h3 := hab i h1.1
    omega
  refine ⟨s, tp_F_mono hs (fun j _ i _ h => h) (fun _ _ => Nat.le_refl _) (fun _ _ => Nat.le_refl _) hF, hl, ?_⟩
  intro j hj i hi
  have hj' := hs j hj
  have hi' := hC j hj' i hi
  apply (tb_d2 S a b i).mpr
  have h1 := hF.2.1 i j hi' hj' hi
  have h2 := hl j hj
  have h3 := hab i hi'
  refine ⟨hi', ?_⟩
  omega
theorem tp_unext {w S t : Nat} {B L H : Nat → Nat} (g : tp_G w B L H S (t + 1)) : tp_G w B L H S t ∨
    ∃ a b, a ≤ b ∧ (w = 1 → a = b) ∧ S.testBit a = true ∧ S.testBit b = true ∧ (L a ≤ t ∧ t < H a) ∧ (L b ≤ t ∧ t < H b) ∧
      (∀ i, (B a).testBit i = true → (tb_df S (2 ^ a ||| 2 ^ b)).testBit i = true) ∧
      (∀ i, (B b).testBit i = true → (tb_df S (2 ^ a ||| 2 ^ b)).testBit i = true) ∧ tp_G w B L H (tb_df S (2 ^ a ||| 2 ^ b)) t := by
  obtain ⟨s, hF, ht, hC⟩ := g
  by_cases e1 : ∃ a, S.testBit a = true ∧ s a = t
  · right
    obtain ⟨a0, ha0, sa0⟩ := e1
    have main : ∃ a b, a ≤ b ∧ (w = 1 → a = b) ∧ S.testBit a = true ∧ S.testBit b = true ∧ s a = t ∧ s b = t ∧ ∀ i, S.testBit i = true → (s i = t ↔ i = a ∨ i = b) := by
      by_cases e2 : ∃ b, S.testBit b = true ∧ s b = t ∧ b ≠ a0
      · obtain ⟨b0, hb0, sb0, hne⟩ := e2
        have hall : ∀ i, S.testBit i = true → (s i = t ↔ i = a0 ∨ i = b0) := by
          intro i hi
          constructor
          · intro h
            have := hF.2.2.2 a0 b0 i ha0 hb0 hi (by omega) (by omega)
            omega
          · intro h
            rcases h with h | h <;> rw [h] <;> assumption
        have hw : ¬ w = 1 := fun e => hne (hF.2.2.1 e b0 a0 hb0 ha0 (by omega))
        rcases Nat.lt_or_ge a0 b0 with hlt | hge
        · exact ⟨a0, b0, by omega, fun e => absurd e hw, ha0, hb0, sa0, sb0, hall⟩
        · exact ⟨b0, a0, by omega, fun e => absurd e hw, hb0, ha0, sb0, sa0, fun i hi => (hall i hi).trans Or.comm⟩
      · refine ⟨a0, a0, Nat.le_refl _, fun _ => rfl, ha0, ha0, sa0, sa0, ?_⟩
        intro i hi
        constructor
        · intro h
          by_cases hia : i = a0
          · exact Or.inl hia
          · exact absurd ⟨i, hi, h, hia⟩ e2
        · intro h
          rcases h with h | h <;> rw [h] <;> assumption
    obtain ⟨a, b, hle, hw, ha, hb, sa, sb, hall⟩ := main
    have pr : ∀ c, S.testBit c = true → s c = t → ∀ i, (B c).testBit i = true → (tb_df S (2 ^ a ||| 2 ^ b)).testBit i = true := by
      intro c hc sc i hi
      have hi' := hC c hc i hi
      have h1 := hF.2.1 i c hi' hc hi
      have h3 := hall i hi'
      exact (tb_d2 S a b i).mpr ⟨hi', by omega⟩
    have wa := hF.1 a ha
    have wb := hF.1 b hb
    rw [sa] at wa
    rw [sb] at wb
    exact ⟨a, b, hle, hw, ha, hb, wa, wb, pr a ha sa, pr b hb sb, tp_off hF ht hC hall⟩
  · left
    refine ⟨s, hF, fun i hi => ?_, hC⟩
    have h1 := ht i hi
    have h2 : s i ≠ t := fun h => e1 ⟨i, hi, h⟩
    omega
/-! X's table -/
def tp_T (w : Nat) (B H : Nat → Nat) (S x : Nat) : Prop :=
  (x = 100 ∧ ∀ t, ¬ tp_G w B (fun _ => 0) H S t) ∨ (x ≤ 8 ∧ tp_G w B (fun _ => 0) H S x ∧ ∀ t, tp_G w B (fun _ => 0) H S t → x ≤ t)
def tp_vl (f B H : Nat → Nat) (S a b : Nat) : Nat :=
  if tb_df (B a ||| B b) (tb_df S (2 ^ a ||| 2 ^ b)) = 0 ∧ f (tb_df S (2 ^ a ||| 2 ^ b)) + 1 ≤ H a ∧ f (tb_df S (2 ^ a ||| 2 ^ b)) + 1 ≤ H b
  then f (tb_df S (2 ^ a ||| 2 ^ b)) + 1 else 100
theorem tp_T0 (w : Nat) (B H : Nat → Nat) : tp_T w B H 0 0 :=
  Or.inr ⟨by omega, tp_G_e w 0 B _ H, fun _ _ => Nat.zero_le _⟩
theorem tp_Tx {w S x : Nat} {B H : Nat → Nat} (h : tp_T w B H S x) : x ≤ 8 ∨ x = 100 := h.elim (fun h => Or.inr h.1) (fun h => Or.inl h.1)
theorem tp_vs {w S T a b : Nat} {f B H : Nat → Nat} (hT : ∀ i, S.testBit i = true → T.testBit i = true) (hH : ∀ i, T.testBit i = true → H i ≤ 8)
    (hf : ∀ s, s < S → (∀ i, s.testBit i = true → T.testBit i = true) → tp_T w B H s (f s))
    (hw : w = 1 → a = b) (ha : S.testBit a = true) (hb : S.testBit b = true) :
    tp_vl f B H S a b = 100 ∨ (tp_vl f B H S a b ≤ 8 ∧ tp_G w B (fun _ => 0) H S (tp_vl f B H S a b)) := by
  by_cases hc : tb_df (B a ||| B b) (tb_df S (2 ^ a ||| 2 ^ b)) = 0 ∧ f (tb_df S (2 ^ a ||| 2 ^ b)) + 1 ≤ H a ∧ f (tb_df S (2 ^ a ||| 2 ^ b)) + 1 ≤ H b
  · right
    have e : tp_vl f B H S a b = f (tb_df S (2 ^ a ||| 2 ^ b)) + 1 := if_pos hc
    rw [e]
    obtain ⟨h1, h2, h3⟩ := hc
    have hHa := hH a (hT a ha)
    have hlt : tb_df S (2 ^ a ||| 2 ^ b) < S := tb_dlt ha ((tb_ort _ _ _).mpr (Or.inl ((tb_pm a a).mpr rfl)))
    have ht := hf _ hlt (fun i hi => hT i ((tb_d2 S a b i).mp hi).1)
    refine ⟨by omega, ?_⟩
    rcases ht with ht | ht
    · omega
    · have hp := tb_df0.mp h1
      refine tp_ext (S := tb_df S (2 ^ a ||| 2 ^ b)) (a := a) (b := b) ?_ ?_ ?_ hw ⟨Nat.zero_le _, h2⟩ ⟨Nat.zero_le _, h3⟩ ?_ ?_ ht.2.1
      · intro i
        rw [tb_d2]
        constructor
        · intro hi
          by_cases e1 : i = a
          · exact Or.inr (Or.inl e1)
          · by_cases e2 : i = b
            · exact Or.inr (Or.inr e2)
            · exact Or.inl ⟨hi, e1, e2⟩
        · intro h
          rcases h with h | h | h
          · exact h.1
          · rw [h]; exact ha
          · rw [h]; exact hb
      · rw [tb_d2]; exact fun h => h.2.1 rfl
      · rw [tb_d2]; exact fun h => h.2.2 rfl
      · exact fun i hi => hp i ((tb_ort _ _ _).mpr (Or.inl hi))
      · exact fun i hi => hp i ((tb_ort _ _ _).mpr (Or.inr hi))
  · exact Or.inl (if_neg hc)
theorem tp_rec {w S T l : Nat} {f B H : Nat → Nat} (hS : S ≠ 0) (hT : ∀ i, S.testBit i = true → T.testBit i = true) (hH : ∀ i, T.testBit i = true → H i ≤ 8)
    (hf : ∀ s, s < S → (∀ i, s.testBit i = true → T.testBit i = true) → tp_T w B H s (f s))
    (h1 : ∀ a b, a ≤ b → (w = 1 → a = b) → S.testBit a = true → S.testBit b = true → l ≤ tp_vl f B H S a b)
    (h2 : l = 100 ∨ ∃ a b, (w = 1 → a = b) ∧ S.testBit a = true ∧ S.testBit b = true ∧ l = tp_vl f B H S a b) : tp_T w B H S l := by
  have hl : l = 100 ∨ (l ≤ 8 ∧ tp_G w B (fun _ => 0) H S l) := by
    rcases h2 with h | ⟨a, b, hw, ha, hb, e⟩
    · exact Or.inl h
    · rw [e]
      exact tp_vs hT hH hf hw ha hb
  by_cases hg : ∃ t, tp_G w B (fun _ => 0) H S t
  · obtain ⟨t, gt, tmin⟩ := pk_least _ hg
    have ht8 : t ≤ 8 := by
      rcases Nat.lt_or_ge 8 t with h | h
      · exact absurd (tp_E_G (t := 8) (fun i hi => hH i (hT i hi)) (by obtain ⟨_, _, _, hc⟩ := gt; exact hc) (tp_G_E gt)) (tmin 8 h)
      · exact h
    have hlt : l ≤ t := by
      cases t with
      | zero => exact absurd gt (tp_G_0 hS)
      | succ t =>
        rcases tp_unext gt with h | ⟨a, b, hle, hw, ha, hb, wa, wb, pa, pb, g'⟩
        · exact absurd h (tmin t (Nat.lt_succ_self t))
        · have hlt : tb_df S (2 ^ a ||| 2 ^ b) < S := tb_dlt ha ((tb_ort _ _ _).mpr (Or.inl ((tb_pm a a).mpr rfl)))
          have ht := hf _ hlt (fun i hi => hT i ((tb_d2 S a b i).mp hi).1)
          have hft : f (tb_df S (2 ^ a ||| 2 ^ b)) ≤ t := by
            rcases ht with ht | ht
            · exact absurd g' (ht.2 t)
            · exact ht.2.2 t g'
          have hv : tp_vl f B H S a b = f (tb_df S (2 ^ a ||| 2 ^ b)) + 1 := by
            refine if_pos ⟨tb_df0.mpr (fun i hi => ?_), by omega, by omega⟩
            rcases (tb_ort _ _ _).mp hi with h | h
            · exact pa i h
            · exact pb i h
          have := h1 a b hle hw ha hb
          omega
    rcases hl with h | h
    · omega
    · exact Or.inr ⟨h.1, h.2, fun t' g => by
        rcases Nat.lt_or_ge t' t with hh | hh
        · exact absurd g (tmin t' hh)
        · omega⟩
  · left
    refine ⟨?_, fun t g => hg ⟨t, g⟩⟩
    rcases hl with h | h
    · exact h
    · exact absurd ⟨l, h.2⟩ hg
theorem tp_TE {w S x : Nat} {B H : Nat → Nat} (hH : ∀ i, S.testBit i = true → H i ≤ 8) (hC : tp_C B S) (h : tp_T w B H S x) : x ≠ 100 ↔ tp_E w B (fun _ => 0) H S := by
  rcases h with h | h
  · exact ⟨fun n => absurd h.1 n, fun e => absurd (tp_E_G (t := 8) hH hC e) (h.2 8)⟩
  · exact ⟨fun _ => tp_G_E h.2.1, fun _ => by omega⟩
end
section
/-! Y's rounds, least deadlines, pins, ways along links -/
def tp_R (B L H : Nat → Nat) (P S t a : Nat) : Prop :=
  P.testBit a = true ∧ ¬ S.testBit a = true ∧ L a ≤ t ∧ t < H a ∧ ∀ i, (B a).testBit i = true → S.testBit i = true
def tp_S (w : Nat) (B L H : Nat → Nat) (P S t s : Nat) : Prop :=
  ∃ a b, a ≤ b ∧ (w = 1 → a = b) ∧ tp_R B L H P S t a ∧ tp_R B L H P S t b ∧ s = (S ||| 2 ^ a) ||| 2 ^ b
theorem tp_o2 (S a b i : Nat) : ((S ||| 2 ^ a) ||| 2 ^ b).testBit i = true ↔ S.testBit i = true ∨ i = a ∨ i = b := by
  rw [tb_o1, tb_o1, or_assoc]
theorem tp_S_lt {w P S t s : Nat} {B L H : Nat → Nat} (h : tp_S w B L H P S t s) : S < s := by
  obtain ⟨a, b, _, _, ra, _, e⟩ := h
  have h1 : S ≤ s := tb_le (fun i hi => by rw [e, tp_o2]; exact Or.inl hi)
  have h2 : S ≠ s := by
    intro h
    apply ra.2.1
    rw [h, e, tp_o2]
    exact Or.inr (Or.inl rfl)
  omega
theorem tp_S_sub {w P S t s : Nat} {B L H : Nat → Nat} (hS : ∀ i, S.testBit i = true → P.testBit i = true) (h : tp_S w B L H P S t s) : ∀ i, s.testBit i = true → P.testBit i = true := by
  obtain ⟨a, b, _, _, ra, rb, e⟩ := h
  intro i hi
  rw [e, tp_o2] at hi
  rcases hi with h | h | h
  · exact hS i h
  · rw [h]; exact ra.1
  · rw [h]; exact rb.1
theorem tp_Y {w P s t : Nat} {B L H : Nat → Nat} (hs : ∀ i, s.testBit i = true → P.testBit i = true) :
    tp_G w B L H s (t + 1) ↔ tp_G w B L H s t ∨ ∃ S, (∀ i, S.testBit i = true → P.testBit i = true) ∧ tp_G w B L H S t ∧ tp_S w B L H P S t s := by
  constructor
  · intro g
    rcases tp_unext g with h | ⟨a, b, hle, hw, ha, hb, wa, wb, pa, pb, g'⟩
    · exact Or.inl h
    · right
      refine ⟨_, fun i hi => hs i ((tb_d2 s a b i).mp hi).1, g', a, b, hle, hw, ⟨hs a ha, ?_, wa.1, wa.2, pa⟩, ⟨hs b hb, ?_, wb.1, wb.2, pb⟩, ?_⟩
      · rw [tb_d2]; exact fun h => h.2.1 rfl
      · rw [tb_d2]; exact fun h => h.2.2 rfl
      · apply tb_ext
        intro i
        rw [tp_o2, tb_d2]
        constructor
        · intro hi
          by_cases e1 : i = a
          · exact Or.inr (Or.inl e1)
          · by_cases e2 : i = b
            · exact Or.inr (Or.inr e2)
            · exact Or.inl ⟨hi, e1, e2⟩
        · intro h
          rcases h with h | h | h
          · exact h.1
          · rw [h]; exact ha
          · rw [h]; exact hb
  · intro h
    rcases h with h | ⟨S, hS, g, a, b, hle, hw, ra, rb, e⟩
    · exact tp_G_up (Nat.le_succ t) h
    · exact tp_ext (fun i => by rw [e, tp_o2]) ra.2.1 rb.2.1 hw ⟨ra.2.2.1, ra.2.2.2.1⟩ ⟨rb.2.2.1, rb.2.2.2.1⟩ ra.2.2.2.2 rb.2.2.2.2 g
/-! the least deadline of a task -/
def tp_D (w : Nat) (B H : Nat → Nat) (P j d : Nat) : Prop :=
  tp_E w B (fun _ => 0) (tp_up H j d) P ∧ ∀ d', d' < d → ¬ tp_E w B (fun _ => 0) (tp_up H j d') P
theorem tp_D_u {w P j d e : Nat} {B H : Nat → Nat} (h : tp_D w B H P j d) (h' : tp_D w B H P j e) : d = e := by
  rcases Nat.lt_trichotomy d e with hh | hh | hh
  · exact absurd h.1 (h'.2 d hh)
  · exact hh
  · exact absurd h'.1 (h.2 e hh)
theorem tp_D_ex {w P j : Nat} {B H : Nat → Nat} (h : tp_E w B (fun _ => 0) H P) : ∃ d, tp_D w B H P j d := by
  have : ∃ d, tp_E w B (fun _ => 0) (tp_up H j d) P := ⟨H j, by rw [tp_ui]; exact h⟩
  obtain ⟨d, h1, h2⟩ := pk_least _ this
  exact ⟨d, h1, h2⟩
theorem tp_D_le {w P j d : Nat} {B H : Nat → Nat} (h : tp_E w B (fun _ => 0) H P) (hd : tp_D w B H P j d) : d ≤ H j := by
  rcases Nat.lt_or_ge (H j) d with hh | hh
  · exact absurd (by rw [tp_ui]; exact h) (hd.2 (H j) hh)
  · exact hh
theorem tp_E0 {w P j : Nat} {B L H : Nat → Nat} (hj : P.testBit j = true) (hH : H j = 0) : ¬ tp_E w B L H P := by
  intro ⟨s, hF⟩
  have := hF.1 j hj
  omega
theorem tp_D_pos {w P j d : Nat} {B H : Nat → Nat} (hj : P.testBit j = true) (hd : tp_D w B H P j d) : 1 ≤ d := by
  cases d with
  | zero => exact absurd hd.1 (tp_E0 hj (tp_us H j 0))
  | succ d => omega
theorem tp_D_pin {w P j d : Nat} {B H s : Nat → Nat} (hj : P.testBit j = true) (hd : tp_D w B H P j d) (hF : tp_F w B (fun _ => 0) (tp_up H j d) P s) : s j + 1 = d := by
  have h1 := (hF.1 j hj).2
  rw [tp_us] at h1
  rcases Nat.lt_or_ge (s j + 1) d with hh | hh
  · refine absurd ⟨s, ⟨fun i hi => ⟨Nat.zero_le _, ?_⟩, hF.2.1, hF.2.2⟩⟩ (hd.2 (s j + 1) hh)
    by_cases e : i = j
    · rw [e, tp_us]; omega
    · have := (hF.1 i hi).2
      rw [tp_un H _ e] at this ⊢
      exact this
  · omega
theorem tp_F_d {w P j d : Nat} {B L H s : Nat → Nat} (h : d ≤ H j) (hF : tp_F w B L (tp_up H j d) P s) : tp_F w B L H P s := by
  refine ⟨fun i hi => ?_, hF.2.1, hF.2.2⟩
  have := hF.1 i hi
  by_cases e : i = j
  · rw [e, tp_us] at this
    rw [e]
    omega
  · rw [tp_un H _ e] at this
    exact this
theorem tp_set {w P k d : Nat} {B L H : Nat → Nat} (hk : P.testBit k = true) (hE : tp_E w B (fun _ => 0) H P) (hd : tp_D w B H P k d)
    (hL : ∀ s, tp_F w B (fun _ => 0) H P s → ∀ j, P.testBit j = true → L j ≤ s j) :
    (∀ s, s + 1 < d → ¬ tp_E w B (tp_up L k s) (tp_up H k (s + 1)) P) ∧ tp_E w B (tp_up L k (d - 1)) (tp_up H k d) P := by
  constructor
  · intro s hs ⟨g, hF⟩
    exact hd.2 (s + 1) hs ⟨g, ⟨fun i hi => ⟨Nat.zero_le _, (hF.1 i hi).2⟩, hF.2.1, hF.2.2⟩⟩
  · obtain ⟨g, hF⟩ := hd.1
    have hp := tp_D_pin hk hd hF
    refine ⟨g, ⟨fun i hi => ⟨?_, (hF.1 i hi).2⟩, hF.2.1, hF.2.2⟩⟩
    by_cases e : i = k
    · rw [e, tp_us]; omega
    · rw [tp_un L _ e]
      exact hL g (tp_F_d (tp_D_le hE hd) hF) i hi
/-! the tasks pinned one after the other -/
def tp_P (w : Nat) (B : Nat → Nat) (P : Nat) (H0 : Nat → Nat) : Nat → (Nat → Nat) → Prop
  | 0, H => H = H0
  | k + 1, H => ∃ H', tp_P w B P H0 k H' ∧ ((P.testBit k = true ∧ ∃ d, tp_D w B H' P k d ∧ H = tp_up H' k d) ∨ (¬ P.testBit k = true ∧ H = H'))
theorem tp_P_u {w P : Nat} {B H0 : Nat → Nat} : ∀ {k : Nat} {H H' : Nat → Nat}, tp_P w B P H0 k H → tp_P w B P H0 k H' → H = H' := by
  intro k
  induction k with
  | zero => intro H H' h h'; exact Eq.trans h (Eq.symm h')
  | succ k ih =>
    intro H H' h h'
    obtain ⟨G, hG, h⟩ := h
    obtain ⟨G', hG', h'⟩ := h'
    have e := ih hG hG'
    subst e
    rcases h with ⟨hk, d, hd, e1⟩ | ⟨hk, e1⟩
    · rcases h' with ⟨_, d', hd', e2⟩ | ⟨hk', _⟩
      · rw [e1, e2, tp_D_u hd hd']
      · exact absurd hk hk'
    · rcases h' with ⟨hk', _⟩ | ⟨_, e2⟩
      · exact absurd hk' hk
      · rw [e1, e2]
theorem tp_P_i {w P : Nat} {B H0 : Nat → Nat} (hE : tp_E w B (fun _ => 0) H0 P) (h8 : ∀ i, P.testBit i = true → H0 i ≤ 8) :
    ∀ {k : Nat} {H : Nat → Nat}, tp_P w B P H0 k H → tp_E w B (fun _ => 0) H P ∧ (∀ i, P.testBit i = true → H i ≤ 8) ∧
      (∀ s, tp_F w B (fun _ => 0) H P s → ∀ j, P.testBit j = true → j < k → H j ≤ s j + 1) ∧ (∀ j, k ≤ j → H j = H0 j) := by
  intro k
  induction k with
  | zero =>
    intro H h
    have e : H = H0 := h
    rw [e]
    exact ⟨hE, h8, fun _ _ _ _ h => absurd h (Nat.not_lt_zero _), fun _ _ => rfl⟩
  | succ k ih =>
    intro H h
    obtain ⟨G, hG, h⟩ := h
    obtain ⟨i1, i2, i3, i4⟩ := ih hG
    rcases h with ⟨hk, d, hd, e⟩ | ⟨hk, e⟩
    · rw [e]
      have hle := tp_D_le i1 hd
      refine ⟨hd.1, fun i hi => ?_, fun s hF j hj hjk => ?_, fun j hj => ?_⟩
      · by_cases e1 : i = k
        · rw [e1, tp_us]
          have := i2 k hk
          omega
        · rw [tp_un G _ e1]; exact i2 i hi
      · by_cases e1 : j = k
        · rw [e1, tp_us]
          have := tp_D_pin hk hd hF
          omega
        · rw [tp_un G _ e1]
          exact i3 s (tp_F_d hle hF) j hj (by omega)
      · rw [tp_un G _ (by omega)]
        exact i4 j (by omega)
    · rw [e]
      refine ⟨i1, i2, fun s hF j hj hjk => i3 s hF j hj ?_, fun j hj => i4 j (by omega)⟩
      have : j ≠ k := fun e1 => hk (e1 ▸ hj)
      omega
/-! ways along links -/
def tp_Q (B : Nat → Nat) : Nat → Nat → Nat → Prop
  | 0, a, b => a = b
  | n + 1, a, b => ∃ c, tp_Q B n a c ∧ (B b).testBit c = true
theorem tp_Qf {B : Nat → Nat} : ∀ {n a b : Nat}, tp_Q B (n + 1) a b ↔ ∃ c, (B c).testBit a = true ∧ tp_Q B n c b := by
  intro n
  induction n with
  | zero =>
    intro a b
    constructor
    · intro ⟨c, hc, hb⟩
      have e : a = c := hc
      exact ⟨b, by rw [e]; exact hb, rfl⟩
    · intro ⟨c, hc, hb⟩
      have e : c = b := hb
      exact ⟨a, rfl, by rw [← e]; exact hc⟩
  | succ n ih =>
    intro a b
    constructor
    · intro ⟨c, hc, hb⟩
      obtain ⟨e, he, hq⟩ := ih.mp hc
      exact ⟨e, he, c, hq, hb⟩
    · intro ⟨e, he, c, hq, hb⟩
      exact ⟨c, ih.mpr ⟨e, he, hq⟩, hb⟩
theorem tp_Qb {w P : Nat} {B L H s : Nat → Nat} (hC : tp_C B P) (hF : tp_F w B L H P s) : ∀ {n a b : Nat}, P.testBit b = true → tp_Q B n a b → P.testBit a = true ∧ s a + n ≤ s b := by
  intro n
  induction n with
  | zero =>
    intro a b hb h
    have e : a = b := h
    rw [e]
    exact ⟨hb, Nat.le_refl _⟩
  | succ n ih =>
    intro a b hb h
    obtain ⟨c, hq, hc⟩ := h
    have pc := hC b hb c hc
    have h1 := ih pc hq
    have h2 := hF.2.1 c b pc hb hc
    exact ⟨h1.1, by omega⟩
/-- a way of one link or more leads from a to b -/
def tp_K (B : Nat → Nat) (a b : Nat) : Prop := ∃ n, tp_Q B (n + 1) a b
theorem tp_K7 {w P a b : Nat} {B H : Nat → Nat} (hC : tp_C B P) (hE : tp_E w B (fun _ => 0) H P) (h8 : ∀ i, P.testBit i = true → H i ≤ 8) (hb : P.testBit b = true) (h : tp_K B a b) :
    ∃ n, n ≤ 6 ∧ tp_Q B (n + 1) a b := by
  obtain ⟨s, hF⟩ := hE
  obtain ⟨n, hn⟩ := h
  have h1 := tp_Qb hC hF hb hn
  have h2 := (hF.1 b hb).2
  have h3 := h8 b hb
  exact ⟨n, by omega, hn⟩
/-! numbers of tasks -/
def tp_cn (P : Nat) : Nat → Nat
  | 0 => 0
  | m + 1 => tp_cn P m + if P.testBit (6 - m) = true then 1 else 0
def tp_lf (P : Nat) : Nat → Nat
  | 0 => 7
  | m + 1 => if P.testBit (6 - m) = true then tp_lf P m else 6 - m
theorem tp_cl : ∀ P, P < 128 → ∀ c, c < 8 → P < 2 ^ c → (c ≤ tp_cn P 7 ↔ c ≤ tp_lf P 7) := by decide +kernel
theorem tp_fu : ∀ P, P < 128 → ∀ n, n < 8 → (∀ i, i < n → P.testBit i = true) → (n < 7 → P.testBit n = false) → n = tp_lf P 7 := by decide +kernel
theorem tp_md : ∀ P, P < 128 → ∀ j, j < 7 → P % 2 ^ (j + 1) = P % 2 ^ j ||| (if P.testBit j = true then 2 ^ j else 0) := by decide +kernel
theorem tp_lc : ∀ P, P < 128 → ∀ c, c < 8 → P < 2 ^ c → ∀ n, n < c → P ||| 2 ^ n < 2 ^ c := by decide +kernel
end
section
/-! X's small methods -/
section
variable {fm fc fp : Int32} {dl bf td tb sf : Nat → Int32}
/-- x names no task of P -/
def tp_N (P : Nat) (x : Int32) : Prop := x < 0 ∨ 7 ≤ x ∨ ∃ k, k < 7 ∧ x = nI k ∧ ¬ P.testBit k = true
theorem tp_NT (P : Nat) (x : Int32) : tp_N P x ∨ ∃ k, k < 7 ∧ x = nI k ∧ P.testBit k = true := by
  rcases pk_ix x (n := 7) (by omega) with h | h | ⟨k, hk, h⟩
  · exact Or.inl (Or.inl h)
  · exact Or.inl (Or.inr (Or.inl h))
  · by_cases hb : P.testBit k = true
    · exact Or.inr ⟨k, hk, h, hb⟩
    · exact Or.inl (Or.inr (Or.inr ⟨k, hk, h, hb⟩))
theorem xs_7 {k : Nat} (h : k < 7) : ¬ (7 : Int32) ≤ nI k := nI_ge (b := 7) h (by decide)
theorem xs_77 : (7 : Int32) ≤ nI 7 := by decide
theorem xs_in {k : Nat} (h : k < 7) : vp_in (nI k) 7 := vp_in_nI h (by omega)
theorem xs_in8 {k : Nat} (h : k < 128) : vp_in (nI k) 128 := vp_in_nI h (by omega)
theorem xs_cl {k : Nat} (h : k < 128) : (nI k).toNatClampNeg = k := nI_clamp (by omega)
theorem xs_10 : ¬ (1 : Int32) = 0 := by decide
theorem xs_has1 {post : Int32 → Prop} {S k : Nat} (hS : S < 128) (hk : k < 7) (h : S.testBit k = true) (hp : post 1) : wpX_has post (nI S) (nI k) :=
  br_f (by rw [tb_has S hS k hk, if_pos h]; decide) hp
theorem xs_has0 {post : Int32 → Prop} {S k : Nat} (hS : S < 128) (hk : k < 7) (h : ¬ S.testBit k = true) (hp : post 0) : wpX_has post (nI S) (nI k) :=
  br_t (by rw [tb_has S hS k hk, if_neg h]) hp
theorem xs_task1 {post : Int32 → Prop} {P k : Nat} (hP : P < 128) (hk : k < 7) (h : P.testBit k = true) (hp : post 1) : wpX_isTask post (fm, fc, nI P, dl, bf, td, tb, sf) (nI k) :=
  br_f (nI_pos (by omega)) (br_f (xs_7 hk) (xs_has1 hP hk h (br_f xs_10 hp)))
theorem xs_task0 {post : Int32 → Prop} {P : Nat} {x : Int32} (hP : P < 128) (h : tp_N P x) (hp : post 0) : wpX_isTask post (fm, fc, nI P, dl, bf, td, tb, sf) x := by
  by_cases h0 : x < 0
  · exact br_t h0 hp
  · by_cases h7 : 7 ≤ x
    · exact br_f h0 (br_t h7 hp)
    · rcases h with h | h | ⟨k, hk, e, hb⟩
      · exact absurd h h0
      · exact absurd h h7
      · refine br_f h0 (br_f h7 ?_)
        rw [e]
        exact xs_has0 hP hk hb (br_t rfl hp)
theorem xs_lfl {post : Int32 → Prop} {P : Nat} (hP : P < 128) (hp : post (nI (tp_lf P 7))) : ∀ d j, j + d = 7 → (∀ i, i < j → P.testBit i = true) →
    wX_leastFreeNumber_2 post fm fc (nI P) dl bf td tb sf (d + 1) (nI j) := by
  intro d
  induction d with
  | zero =>
    intro j hj hi
    have e : j = 7 := by omega
    subst e
    have h := tp_fu P hP 7 (by omega) hi (fun h => absurd h (by omega))
    exact br_t xs_77 (by rw [h]; exact hp)
  | succ d ih =>
    intro j hj hi
    have h7 : j < 7 := by omega
    by_cases hb : P.testBit j = true
    · exact br_f (xs_7 h7) (xs_task1 hP h7 hb (br_f xs_10 (nm_r (nI_1 j) (ih (j + 1) (by omega) (lt_s hi hb)))))
    · have h := tp_fu P hP j (by omega) hi (fun _ => by cases hh : P.testBit j <;> simp_all)
      exact br_f (xs_7 h7) (xs_task0 hP (Or.inr (Or.inr ⟨j, h7, rfl, hb⟩)) (br_t rfl (by rw [h]; exact hp)))
theorem xs_lf {post : Int32 → Prop} {P : Nat} (hP : P < 128) (hp : post (nI (tp_lf P 7))) : wpX_leastFreeNumber post (fm, fc, nI P, dl, bf, td, tb, sf) :=
  ⟨8, xs_lfl hP hp 7 0 rfl (fun i h => absurd h (Nat.not_lt_zero i))⟩
theorem xs_stl {post : SX → Prop} {s : Int32} : ∀ d j, ∀ td tb : Nat → Int32, j + d = 7 → (∀ i, i < j → td i = if s ≤ dl i then s else dl i) → (∀ i, i < j → tb i = bf i) →
    (∀ td' tb' : Nat → Int32, (∀ i, i < 7 → td' i = if s ≤ dl i then s else dl i) → (∀ i, i < 7 → tb' i = bf i) → post (fm, fc, fp, dl, bf, td', tb', sf)) →
    wX_startTrial_2 post s fm fc fp (d + 1) (nI j) dl bf td tb sf := by
  intro d
  induction d with
  | zero =>
    intro j td tb hj h1 h2 hp
    have e : j = 7 := by omega
    subst e
    exact br_t xs_77 (hp td tb h1 h2)
  | succ d ih =>
    intro j td tb hj h1 h2 hp
    have h7 : j < 7 := by omega
    have ec : (nI j).toNatClampNeg = j := nI_clamp (by omega)
    have key : ∀ v : Int32, v = (if s ≤ dl j then s else dl j) → wX_startTrial_33 post (wX_startTrial_2 post s fm fc fp (d + 1)) s (nI j) v (nI j) fm fc fp dl bf td tb sf := by
      intro v hv
      refine ⟨xs_in h7, nm_e ⟨xs_in h7, xs_in h7, nm_e (nm_r (nI_1 j) (ih (j + 1) _ _ (by omega) ?_ ?_ hp))⟩⟩
      · rw [ec]
        intro i hi
        by_cases e : i = j
        · rw [e, pk_us, hv]
        · rw [pk_un e]; exact h1 i (by omega)
      · rw [ec]
        intro i hi
        by_cases e : i = j
        · rw [e, pk_us]
        · rw [pk_un e]; exact h2 i (by omega)
    by_cases hs : s ≤ dl j
    · exact br_f (xs_7 h7) ⟨xs_in h7, br_t (by rw [ec]; exact hs) (key s (by rw [if_pos hs]))⟩
    · exact br_f (xs_7 h7) ⟨xs_in h7, br_f (by rw [ec]; exact hs) ⟨xs_in h7, key _ (by rw [ec, if_neg hs])⟩⟩
theorem xs_start {post : SX → Prop} {s : Int32}
    (hp : ∀ td' tb' : Nat → Int32, (∀ i, i < 7 → td' i = if s ≤ dl i then s else dl i) → (∀ i, i < 7 → tb' i = bf i) → post (fm, fc, fp, dl, bf, td', tb', sf)) :
    wpX_startTrial post (fm, fc, fp, dl, bf, td, tb, sf) s :=
  ⟨8, xs_stl 7 0 td tb rfl (fun i h => absurd h (Nat.not_lt_zero i)) (fun i h => absurd h (Nat.not_lt_zero i)) hp⟩
theorem xs_se50 {post : Int32 → Prop} {a b x Ha Hb : Nat} {z : Int32} (ha : a < 7) (hb : b < 7) (hx : x < 128) (hHa : Ha < 128) (hHb : Hb < 128)
    (ea : td a = nI Ha) (eb : td b = nI Hb) (hp : post (if z ≠ 0 ∧ x ≤ Ha ∧ x ≤ Hb then nI x else 100)) :
    wX_slotsEndingWith_50 post (nI a) (nI b) (nI x) z fm fc fp dl bf td tb sf := by
  have ca : (nI a).toNatClampNeg = a := nI_clamp (by omega)
  have cb : (nI b).toNatClampNeg = b := nI_clamp (by omega)
  have la : td (nI a).toNatClampNeg < nI x ↔ Ha < x := by rw [ca, ea]; exact nI_ltI (by omega) (by omega)
  have lb : td (nI b).toNatClampNeg < nI x ↔ Hb < x := by rw [cb, eb]; exact nI_ltI (by omega) (by omega)
  by_cases h1 : Ha < x
  · rw [if_neg (by omega)] at hp
    refine ⟨xs_in ha, br_t (la.mpr h1) ?_⟩
    by_cases hz : z = 0
    · exact br_t hz hp
    · exact br_f hz (br_t rfl hp)
  · by_cases h2 : Hb < x
    · rw [if_neg (by omega)] at hp
      refine ⟨xs_in ha, br_f (fun h => h1 (la.mp h)) ⟨xs_in hb, br_t (lb.mpr h2) ?_⟩⟩
      by_cases hz : z = 0
      · exact br_t hz hp
      · exact br_f hz (br_t rfl hp)
    · refine ⟨xs_in ha, br_f (fun h => h1 (la.mp h)) ⟨xs_in hb, br_f (fun h => h2 (lb.mp h)) ?_⟩⟩
      by_cases hz : z = 0
      · rw [if_neg (fun h => h.1 hz)] at hp
        exact br_t hz hp
      · rw [if_pos ⟨hz, by omega, by omega⟩] at hp
        exact br_f hz (br_f xs_10 hp)
theorem xs_se {post : Int32 → Prop} {S a b : Nat} {f B H : Nat → Nat} (hS : S < 128) (ha : a < 7) (hb : b < 7)
    (hs : sf (tb_df S (2 ^ a ||| 2 ^ b)) = nI (f (tb_df S (2 ^ a ||| 2 ^ b)))) (hf : f (tb_df S (2 ^ a ||| 2 ^ b)) ≤ 100)
    (ea : td a = nI (H a)) (eb : td b = nI (H b)) (hHa : H a ≤ 8) (hHb : H b ≤ 8) (ba : tb a = nI (B a)) (bb : tb b = nI (B b)) (lB : B a ||| B b < 128)
    (hp : post (nI (tp_vl f B H S a b))) : wpX_slotsEndingWith post (fm, fc, fp, dl, bf, td, tb, sf) (nI S) (nI a) (nI b) := by
  have ca : (nI a).toNatClampNeg = a := nI_clamp (by omega)
  have cb : (nI b).toNatClampNeg = b := nI_clamp (by omega)
  have hr : tb_df S (2 ^ a ||| 2 ^ b) < 128 := Nat.lt_of_le_of_lt (tb_dle _ _) hS
  have er : nI S &&& ((((1 : Int32) <<< (nI a &&& 31)) ||| ((1 : Int32) <<< (nI b &&& 31))) ^^^ (-1)) = nI (tb_df S (2 ^ a ||| 2 ^ b)) := by
    rw [tb_bit a ha, tb_bit b hb, tb_or, tb_dif]
  unfold tp_vl at hp
  generalize tb_df S (2 ^ a ||| 2 ^ b) = R at hs hf hr hp er
  have cr : (nI R).toNatClampNeg = R := nI_clamp (by omega)
  have e5 : sf (nI R).toNatClampNeg + 1 = nI (f R + 1) := by rw [cr, hs, nI_1]
  have ec : (((tb (nI a).toNatClampNeg) ||| (tb (nI b).toNatClampNeg)) &&& (nI R ^^^ (-1))) = 0 ↔ tb_df (B a ||| B b) R = 0 := by
    rw [ca, cb, ba, bb, tb_or, tb_dif]
    exact tb_nz (Nat.lt_of_le_of_lt (tb_dle _ _) lB)
  refine nm_r er ⟨xs_in8 hr, nm_r e5 ⟨xs_in ha, xs_in hb, ?_⟩⟩
  by_cases hc : tb_df (B a ||| B b) R = 0
  · refine br_t (ec.mpr hc) (xs_se50 ha hb (by omega) (by omega) (by omega) ea eb ?_)
    by_cases h2 : f R + 1 ≤ H a ∧ f R + 1 ≤ H b
    · rw [if_pos ⟨hc, h2⟩] at hp
      rw [if_pos ⟨xs_10, h2⟩]
      exact hp
    · rw [if_neg (fun h => h2 h.2)] at hp
      rw [if_neg (fun h => h2 h.2)]
      exact hp
  · rw [if_neg (fun h => hc h.1)] at hp
    refine br_f (fun h => hc (ec.mp h)) (xs_se50 ha hb (by omega) (by omega) (by omega) ea eb ?_)
    rw [if_neg (fun h => h.1 rfl)]
    exact hp
end
end
section
/-! X's table of sets, the tightening of one deadline -/
section
variable {fc fp : Int32} {dl bf td tb sf : Nat → Int32}
/-- the trial arrays hold deadlines H and predecessors B for the tasks of T -/
def xt_C (T : Nat) (B H : Nat → Nat) (td tb : Nat → Int32) : Prop := ∀ i, T.testBit i = true → td i = nI (H i) ∧ H i ≤ 8 ∧ tb i = nI (B i)
/-- the table holds what it should for the sets below n -/
def xt_F (w : Nat) (B H : Nat → Nat) (T n : Nat) (sf : Nat → Int32) : Prop :=
  ∀ s, s < n → (∀ i, s.testBit i = true → T.testBit i = true) → ∃ x, sf s = nI x ∧ tp_T w B H s x
def xt_I (w : Nat) (f B H : Nat → Nat) (S l a b : Nat) : Prop :=
  (∀ a' b', a' ≤ b' → (w = 1 → a' = b') → S.testBit a' = true → S.testBit b' = true → (a' < a ∨ (a' = a ∧ b' < b)) → l ≤ tp_vl f B H S a' b') ∧
  (l = 100 ∨ ∃ a' b', (w = 1 → a' = b') ∧ S.testBit a' = true ∧ S.testBit b' = true ∧ l = tp_vl f B H S a' b')
theorem xt_I_up {w S l a b a2 b2 : Nat} {f B H : Nat → Nat} (h : xt_I w f B H S l a b)
    (hh : ∀ a' b', a' ≤ b' → (w = 1 → a' = b') → S.testBit a' = true → S.testBit b' = true → (a' < a2 ∨ (a' = a2 ∧ b' < b2)) → (a' < a ∨ (a' = a ∧ b' < b))) : xt_I w f B H S l a2 b2 :=
  ⟨fun a' b' h1 h2 h3 h4 h5 => h.1 a' b' h1 h2 h3 h4 (hh a' b' h1 h2 h3 h4 h5), h.2⟩
theorem xt_f {w T n : Nat} {B H : Nat → Nat} (h : xt_F w B H T n sf) {s : Nat} (hs : s < n) (hT : ∀ i, s.testBit i = true → T.testBit i = true) :
    sf s = nI (sf s).toNatClampNeg ∧ (sf s).toNatClampNeg ≤ 100 ∧ tp_T w B H s (sf s).toNatClampNeg := by
  obtain ⟨x, e, ht⟩ := h s hs hT
  have hx : x ≤ 100 := by
    rcases tp_Tx ht with h | h <;> omega
  have ec : (sf s).toNatClampNeg = x := by rw [e]; exact nI_clamp (by omega)
  rw [ec]
  exact ⟨e, hx, ht⟩
theorem xt_vl {w S T a b : Nat} {f B H : Nat → Nat} (hT : ∀ i, S.testBit i = true → T.testBit i = true) (hH : ∀ i, T.testBit i = true → H i ≤ 8)
    (hf : ∀ s, s < S → (∀ i, s.testBit i = true → T.testBit i = true) → tp_T w B H s (f s))
    (hw : w = 1 → a = b) (ha : S.testBit a = true) (hb : S.testBit b = true) : tp_vl f B H S a b ≤ 100 := by
  rcases tp_vs hT hH hf hw ha hb with h | h <;> omega
theorem xt_in {post : Int32 → Prop} {J : Int32 → Int32 → Prop} {w S T a last : Nat} {B H : Nat → Nat} (hTl : T < 128) (hT : ∀ i, S.testBit i = true → T.testBit i = true)
    (hC : xt_C T B H td tb) (hB : tp_C B T) (hf : xt_F w B H T S sf) (ha : a < 7) (hl : last < 7) (hwl : w = 1 → last = a)
    (hJ : ∀ l, l ≤ 100 → xt_I w (fun s => (sf s).toNatClampNeg) B H S l a (last + 1) → J (nI l) (nI (a + 1))) :
    ∀ d b l, b + d = last + 1 → a ≤ b → l ≤ 100 → xt_I w (fun s => (sf s).toNatClampNeg) B H S l a b →
      wX_slotsForSet_30 post J (nI S) (nI a) (nI last) (nI w) fc fp dl bf td tb sf (d + 1) (nI l) (nI b) := by
  have hS : S < 128 := tb_sl hT hTl
  have hH : ∀ i, T.testBit i = true → H i ≤ 8 := fun i hi => (hC i hi).2.1
  intro d
  induction d with
  | zero =>
    intro b l hb hab hl1 hI
    have e : b = last + 1 := by omega
    subst e
    exact br_t (nI_lt (Nat.lt_succ_self last) (by omega)) (nm_r (nI_1 a) (hJ l hl1 hI))
  | succ d ih =>
    intro b l hb hab hl1 hI
    have hb7 : b < 7 := by omega
    have hw : w = 1 → a = b := fun e => by have := hwl e; omega
    have hn : ¬ nI last < nI b := nI_nlt (by omega) (by omega)
    have skip : ¬ (S.testBit a = true ∧ S.testBit b = true) → wX_slotsForSet_30 post J (nI S) (nI a) (nI last) (nI w) fc fp dl bf td tb sf (d + 1) (nI l) (nI (b + 1)) := by
      intro hno
      refine ih (b + 1) l (by omega) (by omega) hl1 (xt_I_up hI ?_)
      intro a' b' h1 h2 h3 h4 h5
      have : ¬ (a' = a ∧ b' = b) := fun e => hno ⟨e.1 ▸ h3, e.2 ▸ h4⟩
      omega
    by_cases h1 : S.testBit a = true
    · by_cases h2 : S.testBit b = true
      · have ta := hC a (hT a h1)
        have tb' := hC b (hT b h2)
        have hlt : tb_df S (2 ^ a ||| 2 ^ b) < S := tb_dlt h1 ((tb_ort _ _ _).mpr (Or.inl ((tb_pm a a).mpr rfl)))
        have hx := xt_f hf hlt (fun i hi => hT i ((tb_d2 S a b i).mp hi).1)
        have hv : tp_vl (fun s => (sf s).toNatClampNeg) B H S a b ≤ 100 := xt_vl hT hH (fun s hs hsT => (xt_f hf hs hsT).2.2) hw h1 h2
        have lB : B a ||| B b < 128 := tb_sl (T := T) (fun i hi => by
          rcases (tb_ort _ _ _).mp hi with h | h
          · exact hB a (hT a h1) i h
          · exact hB b (hT b h2) i h) hTl
        refine br_f hn (xs_has1 hS ha h1 (br_f xs_10 (xs_has1 hS hb7 h2 (br_f xs_10
          (xs_se (f := fun s => (sf s).toNatClampNeg) (B := B) (H := H) hS ha hb7 hx.1 hx.2.1 ta.1 tb'.1 ta.2.1 tb'.2.1 ta.2.2 tb'.2.2 lB ?_)))))
        refine pk_le l (tp_vl (fun s => (sf s).toNatClampNeg) B H S a b) (fun hle => nm_r (nI_1 b) (ih (b + 1) l (by omega) (by omega) hl1 ⟨?_, hI.2⟩))
          (fun hgt => nm_r (nI_1 b) (ih (b + 1) _ (by omega) (by omega) hv ⟨?_, Or.inr ⟨a, b, hw, h1, h2, rfl⟩⟩))
        · intro a' b' g1 g2 g3 g4 g5
          by_cases e : a' = a ∧ b' = b
          · rw [e.1, e.2]; exact hle
          · exact hI.1 a' b' g1 g2 g3 g4 (by omega)
        · intro a' b' g1 g2 g3 g4 g5
          by_cases e : a' = a ∧ b' = b
          · rw [e.1, e.2]; exact Nat.le_refl _
          · exact Nat.le_trans (Nat.le_of_lt hgt) (hI.1 a' b' g1 g2 g3 g4 (by omega))
      · exact br_f hn (xs_has1 hS ha h1 (br_f xs_10 (xs_has0 hS hb7 h2 (br_t rfl (nm_r (nI_1 b) (skip (fun h => h2 h.2)))))))
    · exact br_f hn (xs_has0 hS ha h1 (br_t rfl (nm_r (nI_1 b) (skip (fun h => h1 h.1)))))
theorem xt_out {post : Int32 → Prop} {w S T : Nat} {B H : Nat → Nat} (hw : w = 1 ∨ w = 2) (hTl : T < 128) (hT : ∀ i, S.testBit i = true → T.testBit i = true)
    (hC : xt_C T B H td tb) (hB : tp_C B T) (hf : xt_F w B H T S sf)
    (hp : ∀ l, xt_I w (fun s => (sf s).toNatClampNeg) B H S l 7 7 → post (nI l)) :
    ∀ d a l, a + d = 7 → l ≤ 100 → xt_I w (fun s => (sf s).toNatClampNeg) B H S l a a →
      wX_slotsForSet_5 post (nI S) (nI w) fc fp dl bf td tb sf (d + 1) (nI l) (nI a) := by
  have hS : S < 128 := tb_sl hT hTl
  intro d
  induction d with
  | zero =>
    intro a l ha hl hI
    have e : a = 7 := by omega
    subst e
    exact br_t xs_77 (hp l hI)
  | succ d ih =>
    intro a l ha hl hI
    have ha7 : a < 7 := by omega
    rcases hw with hw | hw
    · refine br_f (xs_7 ha7) (br_t (by rw [hw]; decide) ⟨2, xt_in (last := a) hTl hT hC hB hf ha7 ha7 (fun _ => rfl) (fun l' hl' hI' => ih (a + 1) l' (by omega) hl' (xt_I_up hI' ?_)) 1 a l (by omega) (Nat.le_refl _) hl hI⟩)
      intro a' b' g1 g2 g3 g4 g5
      have := g2 hw
      omega
    · refine br_f (xs_7 ha7) (br_f (by rw [hw]; decide) ⟨7 - a + 1, xt_in (last := 6) hTl hT hC hB hf ha7 (by omega) (fun e => by omega) (fun l' hl' hI' => ih (a + 1) l' (by omega) hl' (xt_I_up hI' ?_)) (7 - a) a l (by omega) (Nat.le_refl _) hl hI⟩)
      intro a' b' g1 g2 g3 g4 g5
      have := tb_lt7 hS g4
      omega
theorem xt_sfs {post : Int32 → Prop} {w S T : Nat} {B H : Nat → Nat} (hw : w = 1 ∨ w = 2) (hTl : T < 128) (hT : ∀ i, S.testBit i = true → T.testBit i = true) (h0 : S ≠ 0)
    (hC : xt_C T B H td tb) (hB : tp_C B T) (hf : xt_F w B H T S sf) (hp : ∀ x, tp_T w B H S x → post (nI x)) :
    wpX_slotsForSet post (nI w, fc, fp, dl, bf, td, tb, sf) (nI S) := by
  have hS : S < 128 := tb_sl hT hTl
  refine ⟨8, xt_out hw hTl hT hC hB hf (fun l hI => hp l ?_) 7 0 100 rfl (by omega) ⟨fun a' b' g1 g2 g3 g4 g5 => by omega, Or.inl rfl⟩⟩
  refine tp_rec (T := T) (f := fun s => (sf s).toNatClampNeg) h0 hT (fun i hi => (hC i hi).2.1) (fun s hs hsT => (xt_f hf hs hsT).2.2) (fun a b g1 g2 g3 g4 => hI.1 a b g1 g2 g3 g4 (Or.inl (tb_lt7 hS g3))) hI.2
theorem xt_tsl {post : Int32 → SX → Prop} {w T : Nat} {B H : Nat → Nat} (hw : w = 1 ∨ w = 2) (hTl : T < 128) (hC : xt_C T B H td tb) (hB : tp_C B T)
    (hp : ∀ x (sf' : Nat → Int32), tp_T w B H T x → post (nI x) (nI w, fc, fp, dl, bf, td, tb, sf')) :
    ∀ d n, ∀ sf : Nat → Int32, n + d = 128 → 1 ≤ n → xt_F w B H T n sf → wX_trialSlots_9 post (nI T) (nI w) fc fp (d + 1) (nI n) dl bf td tb sf := by
  intro d
  induction d with
  | zero =>
    intro n sf hn h1 hf
    have e : n = 128 := by omega
    subst e
    obtain ⟨x, ex, hx⟩ := hf T hTl (fun _ h => h)
    refine br_t (by decide) ⟨xs_in8 hTl, ?_⟩
    rw [nI_clamp (by omega), ex]
    exact hp x sf hx
  | succ d ih =>
    intro n sf hn h1 hf
    have hn8 : n < 128 := by omega
    have ec : (nI n).toNatClampNeg = n := nI_clamp (by omega)
    have h128 : ¬ (128 : Int32) ≤ nI n := nI_ge (b := 128) hn8 (by decide)
    have et : (nI n &&& (nI T ^^^ (-1))) = 0 ↔ ∀ i, n.testBit i = true → T.testBit i = true := by
      rw [tb_dif, tb_nz (Nat.lt_of_le_of_lt (tb_dle _ _) hn8)]
      exact tb_df0
    by_cases hT : ∀ i, n.testBit i = true → T.testBit i = true
    · refine br_f h128 (br_t (et.mpr hT) (xt_sfs hw hTl hT (by omega) hC hB hf (fun x hx => ⟨xs_in8 hn8, nm_e (nm_r (nI_1 n) (ih (n + 1) _ (by omega) (by omega) ?_))⟩)))
      rw [ec]
      intro s hs hsT
      by_cases e : s = n
      · rw [e, pk_us]; exact ⟨x, rfl, hx⟩
      · rw [pk_un e]; exact hf s (by omega) hsT
    · refine br_f h128 (br_f (fun h => hT (et.mp h)) ⟨xs_in8 hn8, nm_e (nm_r (nI_1 n) (ih (n + 1) _ (by omega) (by omega) ?_))⟩)
      rw [ec]
      intro s hs hsT
      by_cases e : s = n
      · exact absurd (e ▸ hsT) hT
      · rw [pk_un e]; exact hf s (by omega) hsT
theorem xt_ts {post : Int32 → SX → Prop} {w T : Nat} {B H : Nat → Nat} (hw : w = 1 ∨ w = 2) (hTl : T < 128) (hC : xt_C T B H td tb) (hB : tp_C B T)
    (hp : ∀ x (sf' : Nat → Int32), tp_T w B H T x → post (nI x) (nI w, fc, fp, dl, bf, td, tb, sf')) :
    wpX_trialSlots post (nI w, fc, fp, dl, bf, td, tb, sf) (nI T) := by
  refine nm_e ⟨128, xt_tsl hw hTl hC hB hp 127 1 _ rfl (Nat.le_refl _) ?_⟩
  intro s hs hsT
  have e : s = 0 := by omega
  rw [e]
  exact ⟨0, pk_us, tp_T0 w B H⟩
theorem xt_100 {x : Nat} (h : x ≤ 8 ∨ x = 100) : nI x = 100 ↔ x = 100 := nI_eq (b := 100) (by omega) (by decide)
theorem xt_ttl {post : Int32 → SX → Prop} {w P k : Nat} {B H : Nat → Nat} (hw : w = 1 ∨ w = 2) (hP : P < 128) (hk : P.testBit k = true) (hB : tp_C B P)
    (hE : tp_E w B (fun _ => 0) H P) (h8 : ∀ i, P.testBit i = true → H i ≤ 8)
    (hp : ∀ d (td' sf' : Nat → Int32), tp_D w B H P k d → xt_C P B (tp_up H k d) td' tb → post (nI d) (nI w, fc, nI P, dl, bf, td', tb, sf')) :
    ∀ n d, ∀ td sf : Nat → Int32, d + n = H k → (∀ i, P.testBit i = true → (i ≠ k → td i = nI (H i)) ∧ tb i = nI (B i)) → (∀ d', d' < d → ¬ tp_E w B (fun _ => 0) (tp_up H k d') P) →
      wX_tightenTrial_9 post (nI k) (nI (H k)) (n + 1) (nI d) (nI w) fc (nI P) dl bf td tb sf := by
  have hk7 := tb_lt7 hP hk
  have hk8 := h8 k hk
  have ec : (nI k).toNatClampNeg = k := nI_clamp (by omega)
  have hcont : ∀ (d : Nat) (td : Nat → Int32), d ≤ 8 → (∀ i, P.testBit i = true → (i ≠ k → td i = nI (H i)) ∧ tb i = nI (B i)) → xt_C P B (tp_up H k d) (upd td (nI k).toNatClampNeg (nI d)) tb := by
    intro d td hd htd i hi
    rw [ec]
    by_cases e : i = k
    · rw [e, pk_us, tp_us]
      exact ⟨rfl, hd, (htd k hk).2⟩
    · rw [pk_un e, tp_un H _ e]
      exact ⟨(htd i hi).1 e, h8 i hi, (htd i hi).2⟩
  intro n
  induction n with
  | zero =>
    intro d td sf hd htd hno
    have e : d = H k := by omega
    subst e
    refine br_t (nI_le (Nat.le_refl _) (by omega)) ⟨xs_in hk7, nm_e (hp (H k) _ sf ⟨by rw [tp_ui]; exact hE, hno⟩ (hcont _ td hk8 htd))⟩
  | succ n ih =>
    intro d td sf hd htd hno
    have hc := hcont d td (by omega) htd
    refine br_f (nI_ge (by omega) (by omega)) ⟨xs_in hk7, nm_e (xt_ts hw hP hc hB (fun x sf' hx => ?_))⟩
    have h100 := xt_100 (tp_Tx hx)
    have hE' := tp_TE (fun i hi => (hc i hi).2.1) hB hx
    by_cases h : x = 100
    · refine br_t (h100.mpr h) (nm_r (nI_1 d) (ih (d + 1) _ sf' (by omega) ?_ ?_))
      · rw [ec]
        exact fun i hi => ⟨fun e => by rw [pk_un e]; exact (htd i hi).1 e, (htd i hi).2⟩
      · exact lt_s hno (fun he => (hE'.mpr he) h)
    · exact br_f (fun e => h (h100.mp e)) (hp d _ sf' ⟨hE'.mp h, hno⟩ hc)
theorem xt_tt {post : Int32 → SX → Prop} {w P k : Nat} {B H : Nat → Nat} (hw : w = 1 ∨ w = 2) (hP : P < 128) (hk : P.testBit k = true) (hB : tp_C B P)
    (hE : tp_E w B (fun _ => 0) H P) (hC : xt_C P B H td tb)
    (hp : ∀ d (td' sf' : Nat → Int32), tp_D w B H P k d → xt_C P B (tp_up H k d) td' tb → post (nI d) (nI w, fc, nI P, dl, bf, td', tb, sf')) :
    wpX_tightenTrial post (nI w, fc, nI P, dl, bf, td, tb, sf) (nI k) := by
  have hk7 := tb_lt7 hP hk
  have ec : (nI k).toNatClampNeg = k := nI_clamp (by omega)
  have h0 : H k ≠ 0 := fun e => tp_E0 hk e hE
  refine ⟨xs_in hk7, nm_r (e' := nI (H k)) (by rw [ec]; exact (hC k hk).1) ⟨H k - 1 + 1, xt_ttl hw hP hk hB hE (fun i hi => (hC i hi).2.1) hp (H k - 1) 1 td sf (by omega) ?_ ?_⟩⟩
  · exact fun i hi => ⟨fun _ => (hC i hi).1, (hC i hi).2.2⟩
  · intro d' hd'
    have e : d' = 0 := by omega
    rw [e]
    exact tp_E0 hk (tp_us H k 0)
end
end
section
/-! X: the pins one after the other; the tasks ahead of one -/
section
variable {fm fc fp : Int32} {dl bf td tb sf : Nat → Int32}
theorem xl_s1 {d : Nat} (h : 1 ≤ d) : nI d - 1 = nI (d - 1) := pk_sub (b := 1) h
theorem xl_fsl {post : Int32 → SX → Prop} {w P id : Nat} {B H0 : Nat → Nat} (hw : w = 1 ∨ w = 2) (hP : P < 128) (hid : P.testBit id = true) (hB : tp_C B P)
    (hE : tp_E w B (fun _ => 0) H0 P) (h8 : ∀ i, P.testBit i = true → H0 i ≤ 8)
    (hp : ∀ (H : Nat → Nat) (td' sf' : Nat → Int32), tp_P w B P H0 (id + 1) H → post (nI (H id - 1)) (nI w, fc, nI P, dl, bf, td', tb, sf')) :
    ∀ n k, ∀ (H : Nat → Nat) (td sf : Nat → Int32) (x : Int32), k + n = id + 1 → tp_P w B P H0 k H → xt_C P B H td tb → (k = id + 1 → x = nI (H id - 1)) →
      wX_firstSlot_20 post (nI id) (n + 1) x (nI k) (nI w) fc (nI P) dl bf td tb sf := by
  have hid7 := tb_lt7 hP hid
  intro n
  induction n with
  | zero =>
    intro k H td sf x hk hH hC hx
    have e : k = id + 1 := by omega
    subst e
    rw [hx rfl]
    exact br_t (nI_lt (by omega) (by omega)) (hp H td sf hH)
  | succ n ih =>
    intro k H td sf x hk hH hC hx
    have hk7 : k < 7 := by omega
    have hn : ¬ nI id < nI k := nI_nlt (by omega) (by omega)
    by_cases hb : P.testBit k = true
    · have hi := tp_P_i hE h8 hH
      refine br_f hn (xs_task1 hP hk7 hb (br_f xs_10 (xt_tt hw hP hb hB hi.1 hC (fun d td' sf' hd hC' => ?_))))
      have hd1 := tp_D_pos hb hd
      refine nm_r (xl_s1 hd1) (nm_r (nI_1 k) (ih (k + 1) (tp_up H k d) td' sf' _ (by omega) ⟨H, hH, Or.inl ⟨hb, d, hd, rfl⟩⟩ hC' ?_))
      intro e
      have e2 : id = k := by omega
      rw [e2, tp_us]
    · refine br_f hn (xs_task0 hP (Or.inr (Or.inr ⟨k, hk7, rfl, hb⟩)) (br_t rfl (nm_r (nI_1 k) (ih (k + 1) H td sf x (by omega) ⟨H, hH, Or.inr ⟨hb, rfl⟩⟩ hC ?_))))
      intro e
      have e2 : id = k := by omega
      exact absurd (e2 ▸ hid) hb
theorem xl_abi {post : Int32 → Prop} {J : Int32 → Int32 → Prop} {B : Nat → Nat} {i r S0 : Nat} (hb : ∀ k, k < 7 → bf k = nI (B k) ∧ B k < 128) (hS0 : S0 < 128)
    (hJ : ∀ S, S < 128 → (∀ a, S0.testBit a = true → S.testBit a = true) → (∀ a, S.testBit a = true → tp_K B a i) →
      (∀ k, S0.testBit k = true → ∀ a, (B k).testBit a = true → S.testBit a = true) → J (nI S) (nI (r + 1))) :
    ∀ d k S, k + d = 7 → S < 128 → (∀ a, S0.testBit a = true → S.testBit a = true) → (∀ a, S.testBit a = true → tp_K B a i) →
      (∀ k', k' < k → S0.testBit k' = true → ∀ a, (B k').testBit a = true → S.testBit a = true) →
      wX_allBefore_18 post J (nI r) fm fc fp dl bf td tb sf (d + 1) (nI S) (nI k) := by
  intro d
  induction d with
  | zero =>
    intro k S hk hS h1 h2 h3
    have e : k = 7 := by omega
    subst e
    exact br_t xs_77 (nm_r (nI_1 r) (hJ S hS h1 h2 (fun k' hk' => h3 k' (tb_lt7 hS0 hk') hk')))
  | succ d ih =>
    intro k S hk hS h1 h2 h3
    have hk7 : k < 7 := by omega
    have ec : (nI k).toNatClampNeg = k := nI_clamp (by omega)
    by_cases hh : S.testBit k = true
    · have hor : nI S ||| bf (nI k).toNatClampNeg = nI (S ||| B k) := by rw [ec, (hb k hk7).1, tb_or]
      refine br_f (xs_7 hk7) (xs_has1 hS hk7 hh (br_f xs_10 ⟨xs_in hk7, nm_r hor (nm_r (nI_1 k) (ih (k + 1) (S ||| B k) (by omega) ?_ ?_ ?_ ?_))⟩))
      · apply tb_128
        intro a ha
        rcases (tb_ort _ _ _).mp ha with h | h
        · exact tb_lt7 hS h
        · exact tb_lt7 (hb k hk7).2 h
      · exact fun a ha => (tb_ort _ _ _).mpr (Or.inl (h1 a ha))
      · intro a ha
        rcases (tb_ort _ _ _).mp ha with h | h
        · exact h2 a h
        · obtain ⟨n, hn⟩ := h2 k hh
          exact ⟨n + 1, tp_Qf.mpr ⟨k, h, hn⟩⟩
      · intro k' hk' hs a ha
        by_cases e : k' = k
        · rw [e] at ha; exact (tb_ort _ _ _).mpr (Or.inr ha)
        · exact (tb_ort _ _ _).mpr (Or.inl (h3 k' (by omega) hs a ha))
    · refine br_f (xs_7 hk7) (xs_has0 hS hk7 hh (br_t rfl (nm_r (nI_1 k) (ih (k + 1) S (by omega) hS h1 h2 ?_))))
      intro k' hk' hs a ha
      by_cases e : k' = k
      · exact absurd (h1 k (e ▸ hs)) hh
      · exact h3 k' (by omega) hs a ha
theorem xl_abo {post : Int32 → Prop} {B : Nat → Nat} {i : Nat} (hb : ∀ k, k < 7 → bf k = nI (B k) ∧ B k < 128)
    (hp : ∀ S, S < 128 → (∀ a, S.testBit a = true → tp_K B a i) → (∀ n a, n ≤ 7 → tp_Q B (n + 1) a i → S.testBit a = true) → post (nI S)) :
    ∀ d r S, r + d = 7 → S < 128 → (∀ a, S.testBit a = true → tp_K B a i) → (∀ n a, n ≤ r → tp_Q B (n + 1) a i → S.testBit a = true) →
      wX_allBefore_9 post fm fc fp dl bf td tb sf (d + 1) (nI S) (nI r) := by
  intro d
  induction d with
  | zero =>
    intro r S hr hS h1 h2
    have e : r = 7 := by omega
    subst e
    exact br_t xs_77 (hp S hS h1 h2)
  | succ d ih =>
    intro r S hr hS h1 h2
    refine br_f (xs_7 (by omega)) ⟨8, xl_abi (i := i) (S0 := S) hb hS ?_ 7 0 S rfl hS (fun _ h => h) h1 (fun k' hk' => absurd hk' (Nat.not_lt_zero _))⟩
    intro S' hS' g1 g2 g3
    refine ih (r + 1) S' (by omega) hS' g2 ?_
    intro n a hn hq
    cases n with
    | zero => exact g1 a (h2 0 a (Nat.zero_le _) hq)
    | succ n =>
      obtain ⟨c, hc, hq'⟩ := tp_Qf.mp hq
      exact g3 c (h2 n c (by omega) hq') a hc
theorem xl_ab {post : Int32 → Prop} {w P i : Nat} {B H : Nat → Nat} (hP : P < 128) (hi : P.testBit i = true) (hC : tp_C B P)
    (hE : tp_E w B (fun _ => 0) H P) (h8 : ∀ i, P.testBit i = true → H i ≤ 8) (hb : ∀ k, k < 7 → bf k = nI (B k) ∧ B k < 128)
    (hp : ∀ S, S < 128 → (∀ a, S.testBit a = true ↔ tp_K B a i) → post (nI S)) : wpX_allBefore post (fm, fc, fp, dl, bf, td, tb, sf) (nI i) := by
  have hi7 := tb_lt7 hP hi
  have ec : (nI i).toNatClampNeg = i := nI_clamp (by omega)
  refine ⟨xs_in hi7, nm_r (e' := nI (B i)) (by rw [ec]; exact (hb i hi7).1) ⟨8, xl_abo (i := i) hb ?_ 7 0 (B i) rfl (hb i hi7).2 ?_ ?_⟩⟩
  · intro S hS h1 h2
    refine hp S hS (fun a => ⟨h1 a, fun hk => ?_⟩)
    obtain ⟨n, hn, hq⟩ := tp_K7 hC hE h8 hi hk
    exact h2 n a (by omega) hq
  · exact fun a ha => ⟨0, a, rfl, ha⟩
  · intro n a hn hq
    have e : n = 0 := by omega
    rw [e] at hq
    obtain ⟨c, hc, hq'⟩ := hq
    have e2 : a = c := hc
    rw [e2]
    exact hq'
end
end
section
/-! Y's small methods, and which sets can be done -/
section
variable {yw yo yd : Int32} {he de pr lo hi ca : Nat → Int32}
def ys_H (P : Nat) (he : Nat → Int32) : Prop := ∀ i, i < 7 → he i = if P.testBit i = true then 1 else 0
theorem ys_h1 {P i : Nat} (h : ys_H P he) (hi : i < 7) (hb : P.testBit i = true) : ¬ he (nI i).toNatClampNeg = 0 := by
  rw [nI_clamp (by omega), h i hi, if_pos hb]; decide
theorem ys_h0 {P i : Nat} (h : ys_H P he) (hi : i < 7) (hb : ¬ P.testBit i = true) : he (nI i).toNatClampNeg = 0 := by
  rw [nI_clamp (by omega), h i hi, if_neg hb]
theorem ys_there1 {post : Int32 → Prop} {P k : Nat} (h : ys_H P he) (hk : k < 7) (hb : P.testBit k = true) (hp : post 1) : wpY_there post (yw, yo, yd, he, de, pr, lo, hi, ca) (nI k) :=
  br_f (nI_pos (by omega)) (br_f (xs_7 hk) ⟨xs_in hk, br_f (ys_h1 h hk hb) hp⟩)
theorem ys_there0 {post : Int32 → Prop} {P : Nat} {x : Int32} (h : ys_H P he) (hn : tp_N P x) (hp : post 0) : wpY_there post (yw, yo, yd, he, de, pr, lo, hi, ca) x := by
  by_cases h0 : x < 0
  · exact br_t h0 hp
  · by_cases h7 : 7 ≤ x
    · exact br_f h0 (br_t h7 hp)
    · rcases hn with hn | hn | ⟨k, hk, e, hb⟩
      · exact absurd hn h0
      · exact absurd hn h7
      · subst e
        exact br_f h0 (br_f h7 ⟨xs_in hk, br_t (ys_h0 h hk hb) hp⟩)
theorem ys_tl {post : Int32 → Prop} {P : Nat} (h : ys_H P he) (hP : P < 128) (hp : post (nI P)) : ∀ d j, j + d = 7 →
    wY_tasks_4 post yw yo yd he de pr lo hi ca (d + 1) (nI (P % 2 ^ j)) (nI j) := by
  intro d
  induction d with
  | zero =>
    intro j hj
    have e : j = 7 := by omega
    subst e
    have e2 : P % 2 ^ 7 = P := Nat.mod_eq_of_lt hP
    rw [e2]
    exact br_t xs_77 hp
  | succ d ih =>
    intro j hj
    have h7 : j < 7 := by omega
    have hm := tp_md P hP j h7
    by_cases hb : P.testBit j = true
    · rw [if_pos hb] at hm
      exact br_f (xs_7 h7) ⟨xs_in h7, br_f (ys_h1 h h7 hb) (nm_r (e' := nI (P % 2 ^ (j + 1))) (by rw [tb_bit j h7, tb_or, hm]) (nm_r (nI_1 j) (ih (j + 1) (by omega))))⟩
    · rw [if_neg hb] at hm
      exact br_f (xs_7 h7) ⟨xs_in h7, br_t (ys_h0 h h7 hb) (nm_r (e' := nI (P % 2 ^ (j + 1))) (by rw [← nI_0, tb_or, hm]) (nm_r (nI_1 j) (ih (j + 1) (by omega))))⟩
theorem ys_tasks {post : Int32 → Prop} {P : Nat} (h : ys_H P he) (hP : P < 128) (hp : post (nI P)) : wpY_tasks post (yw, yo, yd, he, de, pr, lo, hi, ca) := by
  have := ys_tl (yw := yw) (yo := yo) (yd := yd) (de := de) (pr := pr) (lo := lo) (hi := hi) (ca := ca) h hP hp 7 0 rfl
  rw [Nat.pow_zero, Nat.mod_one] at this
  exact ⟨8, this⟩
theorem ys_al {post : SY → Prop} {s : Int32} : ∀ d j, ∀ lo hi : Nat → Int32, j + d = 7 → (∀ i, i < j → lo i = 0) → (∀ i, i < j → hi i = if s ≤ de i then s - 1 else de i - 1) →
    (∀ lo' hi' : Nat → Int32, (∀ i, i < 7 → lo' i = 0) → (∀ i, i < 7 → hi' i = if s ≤ de i then s - 1 else de i - 1) → post (yw, yo, yd, he, de, pr, lo', hi', ca)) →
    wY_ask_2 post s yw yo yd (d + 1) (nI j) he de pr lo hi ca := by
  intro d
  induction d with
  | zero =>
    intro j lo hi hj h1 h2 hp
    have e : j = 7 := by omega
    subst e
    exact br_t xs_77 (hp lo hi h1 h2)
  | succ d ih =>
    intro j lo hi hj h1 h2 hp
    have h7 : j < 7 := by omega
    have ec : (nI j).toNatClampNeg = j := nI_clamp (by omega)
    have k1 : ∀ i, i < j + 1 → upd lo (nI j).toNatClampNeg 0 i = 0 := by
      rw [ec]
      intro i hi
      by_cases e : i = j
      · rw [e, pk_us]
      · rw [pk_un e]; exact h1 i (by omega)
    have k2 : ∀ v : Int32, v = (if s ≤ de j then s - 1 else de j - 1) → ∀ i, i < j + 1 → upd hi (nI j).toNatClampNeg v i = if s ≤ de i then s - 1 else de i - 1 := by
      rw [ec]
      intro v hv i hi
      by_cases e : i = j
      · rw [e, pk_us, hv]
      · rw [pk_un e]; exact h2 i (by omega)
    by_cases hs : s ≤ de j
    · exact br_f (xs_7 h7) ⟨xs_in h7, nm_e ⟨xs_in h7, br_t (by rw [ec]; exact hs) ⟨xs_in h7, nm_e (nm_r (nI_1 j) (ih (j + 1) _ _ (by omega) k1 (k2 _ (by rw [if_pos hs])) hp))⟩⟩⟩
    · exact br_f (xs_7 h7) ⟨xs_in h7, nm_e ⟨xs_in h7, br_f (by rw [ec]; exact hs) ⟨xs_in h7, xs_in h7, nm_e (nm_r (nI_1 j) (ih (j + 1) _ _ (by omega) k1 (k2 _ (by rw [ec, if_neg hs])) hp))⟩⟩⟩
theorem ys_ask {post : SY → Prop} {s : Int32}
    (hp : ∀ lo' hi' : Nat → Int32, (∀ i, i < 7 → lo' i = 0) → (∀ i, i < 7 → hi' i = if s ≤ de i then s - 1 else de i - 1) → post (yw, yo, yd, he, de, pr, lo', hi', ca)) :
    wpY_ask post (yw, yo, yd, he, de, pr, lo, hi, ca) s :=
  ⟨8, ys_al 7 0 lo hi rfl (fun i h => absurd h (Nat.not_lt_zero i)) (fun i h => absurd h (Nat.not_lt_zero i)) hp⟩
/-- the windows and predecessors of the tasks of P -/
def ys_C (P : Nat) (B L H : Nat → Nat) (pr lo hi : Nat → Int32) : Prop :=
  ∀ i, P.testBit i = true → pr i = nI (B i) ∧ lo i = nI (L i) ∧ hi i = nI (H i - 1) ∧ 1 ≤ H i ∧ H i ≤ 8 ∧ L i ≤ 8 ∧ B i < 128
theorem ys_n1 : narrow .boolean (.int 1) = .int 1 := rfl
theorem ys_n0 : narrow .boolean (.int 0) = .int 0 := rfl
theorem ys_v1 : vp_nar .boolean 1 = 1 := rfl
theorem ys_v0 : vp_nar .boolean 0 = 0 := rfl
theorem ys_rl {post : Int32 → Prop} {S a Ba : Nat} (hS : S < 128) (ha : a < 7) (hB : Ba < 128) (hb : pr a = nI Ba)
    (hp1 : (∀ i, Ba.testBit i = true → S.testBit i = true) → post 1) (hp0 : ¬ (∀ i, Ba.testBit i = true → S.testBit i = true) → post 0) :
    ∀ d j x, j + d = 7 → ((x = 1 ∧ ∀ i, i < j → Ba.testBit i = true → S.testBit i = true) ∨ (x = 0 ∧ ¬ (∀ i, Ba.testBit i = true → S.testBit i = true))) →
      wY_ready_46 post (nI S) (nI a) yw yo yd he de pr lo hi ca (d + 1) x (nI j) := by
  have ec : (nI a).toNatClampNeg = a := nI_clamp (by omega)
  intro d
  induction d with
  | zero =>
    intro j x hj hx
    have e : j = 7 := by omega
    subst e
    rcases hx with ⟨e, h⟩ | ⟨e, h⟩
    · subst e
      exact br_t xs_77 ⟨ys_n1, hp1 (fun i hi => h i (tb_lt7 hB hi) hi)⟩
    · subst e
      exact br_t xs_77 ⟨ys_n0, hp0 h⟩
  | succ d ih =>
    intro j x hj hx
    have h7 : j < 7 := by omega
    have e1 : ((pr (nI a).toNatClampNeg >>> (nI j &&& 31)) &&& 1) = 1 ↔ Ba.testBit j = true := by
      rw [ec, hb, tb_has Ba hB j h7]
      by_cases h : Ba.testBit j = true
      · rw [if_pos h]; exact ⟨fun _ => h, fun _ => rfl⟩
      · rw [if_neg h]; exact ⟨fun h' => absurd h' (by decide), fun h' => absurd h' h⟩
    have e2 : ((nI S >>> (nI j &&& 31)) &&& 1) = 0 ↔ ¬ S.testBit j = true := by
      rw [tb_has S hS j h7]
      by_cases h : S.testBit j = true
      · rw [if_pos h]; exact ⟨fun h' => absurd h' (by decide), fun h' => absurd h h'⟩
      · rw [if_neg h]; exact ⟨fun _ => h, fun _ => rfl⟩
    have keep : (Ba.testBit j = true → S.testBit j = true) → wY_ready_46 post (nI S) (nI a) yw yo yd he de pr lo hi ca (d + 1) x (nI (j + 1)) := by
      intro h
      refine ih (j + 1) x (by omega) ?_
      rcases hx with ⟨e, g⟩ | g
      · exact Or.inl ⟨e, lt_s (p := fun i => Ba.testBit i = true → S.testBit i = true) g h⟩
      · exact Or.inr g
    by_cases g1 : Ba.testBit j = true
    · by_cases g2 : S.testBit j = true
      · exact br_f (xs_7 h7) ⟨xs_in ha, br_t (e1.mpr g1) (br_f (fun h => e2.mp h g2) (nm_r (nI_1 j) (keep (fun _ => g2))))⟩
      · exact br_f (xs_7 h7) ⟨xs_in ha, br_t (e1.mpr g1) (br_t (e2.mpr g2) (nm_r (nI_1 j) (ih (j + 1) 0 (by omega) (Or.inr ⟨rfl, fun h => g2 (h j g1)⟩))))⟩
    · exact br_f (xs_7 h7) ⟨xs_in ha, br_f (fun h => g1 (e1.mp h)) (nm_r (nI_1 j) (keep (fun h => absurd h g1)))⟩
theorem ys_ready {post : Int32 → Prop} {P S a t : Nat} {B L H : Nat → Nat} (h : ys_H P he) (hC : ys_C P B L H pr lo hi) (hS : S < 128) (ha : a < 7) (ht : t < 128)
    (hp1 : tp_R B L H P S t a → post 1) (hp0 : ¬ tp_R B L H P S t a → post 0) :
    wpY_ready post (yw, yo, yd, he, de, pr, lo, hi, ca) (nI S) (nI a) (nI t) := by
  have ec : (nI a).toNatClampNeg = a := nI_clamp (by omega)
  by_cases h1 : P.testBit a = true
  · obtain ⟨c1, c2, c3, c4, c5, c6, c7⟩ := hC a h1
    have e2 : ((nI S >>> (nI a &&& 31)) &&& 1) = 1 ↔ S.testBit a = true := by
      rw [tb_has S hS a ha]
      by_cases h : S.testBit a = true
      · rw [if_pos h]; exact ⟨fun _ => h, fun _ => rfl⟩
      · rw [if_neg h]; exact ⟨fun h' => absurd h' (by decide), fun h' => absurd h' h⟩
    have e3 : nI t < lo (nI a).toNatClampNeg ↔ t < L a := by rw [ec, c2]; exact nI_ltI (by omega) (by omega)
    have e4 : nI t ≤ hi (nI a).toNatClampNeg ↔ t ≤ H a - 1 := by rw [ec, c3]; exact nI_leI (by omega) (by omega)
    by_cases h2 : S.testBit a = true
    · exact ⟨xs_in ha, br_f (ys_h1 h ha h1) (br_t (e2.mpr h2) (hp0 (fun r => r.2.1 h2)))⟩
    · by_cases h3 : t < L a
      · exact ⟨xs_in ha, br_f (ys_h1 h ha h1) (br_f (fun x => h2 (e2.mp x)) ⟨xs_in ha, br_t (e3.mpr h3) (hp0 (fun r => by have := r.2.2.1; omega))⟩)⟩
      · by_cases h4 : t ≤ H a - 1
        · refine ⟨xs_in ha, br_f (ys_h1 h ha h1) (br_f (fun x => h2 (e2.mp x)) ⟨xs_in ha, br_f (fun x => h3 (e3.mp x)) ⟨xs_in ha, br_t (e4.mpr h4) ⟨8, ys_rl hS ha c7 c1 ?_ ?_ 7 0 1 rfl (Or.inl ⟨rfl, fun i h => absurd h (Nat.not_lt_zero i)⟩)⟩⟩⟩)⟩
          · exact fun g => hp1 ⟨h1, h2, by omega, by omega, g⟩
          · exact fun g => hp0 (fun r => g r.2.2.2.2)
        · exact ⟨xs_in ha, br_f (ys_h1 h ha h1) (br_f (fun x => h2 (e2.mp x)) ⟨xs_in ha, br_f (fun x => h3 (e3.mp x)) ⟨xs_in ha, br_f (fun x => h4 (e4.mp x)) (hp0 (fun r => by have := r.2.2.2.1; omega))⟩⟩)⟩
  · exact ⟨xs_in ha, br_t (ys_h0 h ha h1) (hp0 (fun r => h1 r.1))⟩
/-- the table can says X -/
def ys_A (X : Nat → Prop) (ca : Nat → Int32) : Prop := ∀ s, s < 128 → (ca s = 1 ∧ X s) ∨ (ca s = 0 ∧ ¬ X s)
theorem ys_Ac {X Y : Nat → Prop} (h : ∀ s, s < 128 → (X s ↔ Y s)) (hA : ys_A X ca) : ys_A Y ca := by
  intro s hs
  rw [← h s hs]
  exact hA s hs
theorem ys_Au {X : Nat → Prop} {q : Nat} (hA : ys_A X ca) : ys_A (fun s => X s ∨ s = q) (upd ca q (vp_nar .boolean 1)) := by
  intro s hs
  by_cases e : s = q
  · rw [e, pk_us]
    exact Or.inl ⟨rfl, Or.inr rfl⟩
  · rw [pk_un e]
    rcases hA s hs with h | h
    · exact Or.inl ⟨h.1, Or.inl h.2⟩
    · exact Or.inr ⟨h.1, fun h' => h'.elim h.2 e⟩
theorem ys_fi {post : SY → Prop} {J : Int32 → (Nat → Int32) → (Nat → Int32) → (Nat → Int32) → (Nat → Int32) → (Nat → Int32) → (Nat → Int32) → Prop}
    {w P S a t : Nat} {B L H : Nat → Nat} {X : Nat → Prop} (hw : w = 2) (h : ys_H P he) (hC : ys_C P B L H pr lo hi) (hS : S < 128) (ha : a < 7) (ht : t < 128)
    (hJ : ∀ ca', ys_A (fun s => X s ∨ ∃ b, a < b ∧ b < 7 ∧ tp_R B L H P S t b ∧ s = (S ||| 2 ^ a) ||| 2 ^ b) ca' → J (nI (a + 1)) he de pr lo hi ca') :
    ∀ d b ca, b + d = 7 → ys_A (fun s => X s ∨ ∃ b', a < b' ∧ b' < b ∧ tp_R B L H P S t b' ∧ s = (S ||| 2 ^ a) ||| 2 ^ b') ca → a < b →
      wY_fill_37 post J (nI S) (nI t) (nI a) (nI w) yo yd (d + 1) (nI b) he de pr lo hi ca := by
  intro d
  induction d with
  | zero =>
    intro b ca hb hA hab
    have e : b = 7 := by omega
    subst e
    exact br_t xs_77 (nm_r (nI_1 a) (hJ ca hA))
  | succ d ih =>
    intro b ca hb hA hab
    have h7 : b < 7 := by omega
    refine br_f (xs_7 h7) (br_t (by rw [hw]; rfl) (ys_ready h hC hS h7 ht (fun hr => br_f xs_10 ?_) (fun hr => br_t rfl (nm_r (nI_1 b) (ih (b + 1) ca (by omega) (ys_Ac ?_ hA) (by omega))))))
    · have hq : (S ||| 2 ^ a) ||| 2 ^ b < 128 := tb_o128 (tb_o128 hS ha) h7
      have eq : (((nI S ||| ((1 : Int32) <<< (nI a &&& 31))) ||| ((1 : Int32) <<< (nI b &&& 31))) &&& 127) = nI ((S ||| 2 ^ a) ||| 2 ^ b) := by
        rw [tb_bit a ha, tb_bit b h7, tb_or, tb_or, tb_127 _ hq]
      rw [eq]
      refine ⟨xs_in8 hq, nm_e (nm_r (nI_1 b) (ih (b + 1) _ (by omega) ?_ (by omega)))⟩
      rw [nI_clamp (by omega)]
      refine ys_Ac ?_ (ys_Au hA)
      intro s _
      constructor
      · intro g
        rcases g with (g | ⟨b', g1, g2, g3, g4⟩) | g
        · exact Or.inl g
        · exact Or.inr ⟨b', g1, by omega, g3, g4⟩
        · exact Or.inr ⟨b, hab, by omega, hr, g⟩
      · intro g
        rcases g with g | ⟨b', g1, g2, g3, g4⟩
        · exact Or.inl (Or.inl g)
        · by_cases e : b' = b
          · rw [e] at g4; exact Or.inr g4
          · exact Or.inl (Or.inr ⟨b', g1, by omega, g3, g4⟩)
    · intro s _
      constructor
      · intro g
        rcases g with g | ⟨b', g1, g2, g3, g4⟩
        · exact Or.inl g
        · exact Or.inr ⟨b', g1, by omega, g3, g4⟩
      · intro g
        rcases g with g | ⟨b', g1, g2, g3, g4⟩
        · exact Or.inl g
        · by_cases e : b' = b
          · exact absurd (e ▸ g3) hr
          · exact Or.inr ⟨b', g1, by omega, g3, g4⟩
/-- what fill adds by first members below a -/
def ys_X (w : Nat) (B L H : Nat → Nat) (P S t a s : Nat) : Prop :=
  ∃ a', a' < a ∧ tp_R B L H P S t a' ∧ (s = S ||| 2 ^ a' ∨ (w = 2 ∧ ∃ b, a' < b ∧ b < 7 ∧ tp_R B L H P S t b ∧ s = (S ||| 2 ^ a') ||| 2 ^ b))
theorem ys_fo {post : SY → Prop} {w P S t : Nat} {B L H : Nat → Nat} {X : Nat → Prop} (hw : w = 1 ∨ w = 2) (h : ys_H P he) (hC : ys_C P B L H pr lo hi) (hS : S < 128) (ht : t < 128)
    (hp : ∀ ca', ys_A (fun s => X s ∨ ys_X w B L H P S t 7 s) ca' → post (nI w, yo, yd, he, de, pr, lo, hi, ca')) :
    ∀ d a ca, a + d = 7 → ys_A (fun s => X s ∨ ys_X w B L H P S t a s) ca → wY_fill_2 post (nI S) (nI t) (nI w) yo yd (d + 1) (nI a) he de pr lo hi ca := by
  intro d
  induction d with
  | zero =>
    intro a ca ha hA
    have e : a = 7 := by omega
    subst e
    exact br_t xs_77 (hp ca hA)
  | succ d ih =>
    intro a ca ha hA
    have h7 : a < 7 := by omega
    refine br_f (xs_7 h7) (ys_ready h hC hS h7 ht (fun hr => br_f xs_10 ?_) (fun hr => br_t rfl (nm_r (nI_1 a) (ih (a + 1) ca (by omega) (ys_Ac ?_ hA)))))
    · have hq : S ||| 2 ^ a < 128 := tb_o128 hS h7
      have eq : ((nI S ||| ((1 : Int32) <<< (nI a &&& 31))) &&& 127) = nI (S ||| 2 ^ a) := by
        rw [tb_bit a h7, tb_or, tb_127 _ hq]
      rw [eq]
      have hA1 : ys_A (fun s => (X s ∨ ys_X w B L H P S t a s) ∨ s = S ||| 2 ^ a) (upd ca (nI (S ||| 2 ^ a)).toNatClampNeg (vp_nar .boolean 1)) := by
        rw [nI_clamp (by omega)]
        exact ys_Au hA
      refine ⟨xs_in8 hq, nm_e (nm_r (nI_1 a) ?_)⟩
      rcases hw with hw | hw
      · by_cases e6 : a = 6
        · subst e6
          refine ⟨1, br_t xs_77 (nm_r (nI_1 6) (ih 7 _ (by omega) (ys_Ac ?_ hA1)))⟩
          intro s _
          constructor
          · intro g
            rcases g with (g | ⟨a', g1, g2⟩) | g
            · exact Or.inl g
            · exact Or.inr ⟨a', by omega, g2⟩
            · exact Or.inr ⟨6, by omega, hr, Or.inl g⟩
          · intro g
            rcases g with g | ⟨a', g1, g2, g3⟩
            · exact Or.inl (Or.inl g)
            · by_cases e : a' = 6
              · rcases g3 with g3 | g3
                · rw [e] at g3; exact Or.inr g3
                · omega
              · exact Or.inl (Or.inr ⟨a', by omega, g2, g3⟩)
        · refine ⟨1, br_f (xs_7 (by omega)) (br_f (by rw [hw]; decide) (nm_r (nI_1 a) (ih (a + 1) _ (by omega) (ys_Ac ?_ hA1))))⟩
          intro s _
          constructor
          · intro g
            rcases g with (g | ⟨a', g1, g2⟩) | g
            · exact Or.inl g
            · exact Or.inr ⟨a', by omega, g2⟩
            · exact Or.inr ⟨a, by omega, hr, Or.inl g⟩
          · intro g
            rcases g with g | ⟨a', g1, g2, g3⟩
            · exact Or.inl (Or.inl g)
            · by_cases e : a' = a
              · rcases g3 with g3 | g3
                · rw [e] at g3; exact Or.inr g3
                · omega
              · exact Or.inl (Or.inr ⟨a', by omega, g2, g3⟩)
      · refine ⟨7 - (a + 1) + 1, ys_fi (X := fun s => (X s ∨ ys_X w B L H P S t a s) ∨ s = S ||| 2 ^ a) hw h hC hS h7 ht (fun ca' hA' => ih (a + 1) ca' (by omega) (ys_Ac ?_ hA')) (7 - (a + 1)) (a + 1) _ (by omega) (ys_Ac ?_ hA1) (by omega)⟩
        · intro s _
          constructor
          · intro g
            rcases g with ((g | ⟨a', g1, g2⟩) | g) | g
            · exact Or.inl g
            · exact Or.inr ⟨a', by omega, g2⟩
            · exact Or.inr ⟨a, by omega, hr, Or.inl g⟩
            · exact Or.inr ⟨a, by omega, hr, Or.inr ⟨hw, g⟩⟩
          · intro g
            rcases g with g | ⟨a', g1, g2, g3⟩
            · exact Or.inl (Or.inl (Or.inl g))
            · by_cases e : a' = a
              · rw [e] at g3
                rcases g3 with g3 | g3
                · exact Or.inl (Or.inr g3)
                · exact Or.inr g3.2
              · exact Or.inl (Or.inl (Or.inr ⟨a', by omega, g2, g3⟩))
        · intro s _
          constructor
          · exact fun g => Or.inl g
          · intro g
            rcases g with g | ⟨b', g1, g2, g3⟩
            · exact g
            · omega
    · intro s _
      constructor
      · intro g
        rcases g with g | ⟨a', g1, g2⟩
        · exact Or.inl g
        · exact Or.inr ⟨a', by omega, g2⟩
      · intro g
        rcases g with g | ⟨a', g1, g2, g3⟩
        · exact Or.inl g
        · by_cases e : a' = a
          · exact absurd (e ▸ g2) hr
          · exact Or.inr ⟨a', by omega, g2, g3⟩
theorem ys_XS {w P S t s : Nat} {B L H : Nat → Nat} (hw : w = 1 ∨ w = 2) (hP : P < 128) : ys_X w B L H P S t 7 s ↔ tp_S w B L H P S t s := by
  constructor
  · intro ⟨a, _, hr, g⟩
    rcases g with g | ⟨h2, b, g1, g2, g3, g4⟩
    · refine ⟨a, a, Nat.le_refl _, fun _ => rfl, hr, hr, ?_⟩
      rw [g]
      apply tb_ext
      intro i
      rw [tp_o2, tb_o1]
      exact ⟨fun h => h.imp id Or.inl, fun h => h.imp id (fun h => h.elim id id)⟩
    · exact ⟨a, b, by omega, fun e => by omega, hr, g3, g4⟩
  · intro ⟨a, b, hle, h1, ra, rb, e⟩
    refine ⟨a, tb_lt7 hP ra.1, ra, ?_⟩
    by_cases eq : a = b
    · left
      rw [e, ← eq]
      apply tb_ext
      intro i
      rw [tp_o2, tb_o1]
      exact ⟨fun h => h.imp id (fun h => h.elim id id), fun h => h.imp id Or.inl⟩
    · right
      exact ⟨hw.elim (fun h => absurd (h1 h) eq) id, b, by omega, tb_lt7 hP rb.1, rb, e⟩
theorem ys_fill {post : SY → Prop} {w P S t : Nat} {B L H : Nat → Nat} {X : Nat → Prop} (hw : w = 1 ∨ w = 2) (hP : P < 128) (h : ys_H P he) (hC : ys_C P B L H pr lo hi) (hS : S < 128) (ht : t < 128) (hA : ys_A X ca)
    (hp : ∀ ca', ys_A (fun s => X s ∨ tp_S w B L H P S t s) ca' → post (nI w, yo, yd, he, de, pr, lo, hi, ca')) :
    wpY_fill post (nI w, yo, yd, he, de, pr, lo, hi, ca) (nI S) (nI t) := by
  refine ⟨8, ys_fo (X := X) hw h hC hS ht (fun ca' hA' => hp ca' (ys_Ac ?_ hA')) 7 0 ca rfl (ys_Ac ?_ hA)⟩
  · intro s _
    show X s ∨ ys_X w B L H P S t 7 s ↔ X s ∨ tp_S w B L H P S t s
    rw [ys_XS hw hP]
  · intro s _
    constructor
    · exact fun g => Or.inl g
    · intro g
      rcases g with g | ⟨a', g1, _⟩
      · exact g
      · omega
end
end
section
/-! Y: is there a good timetable, and how soon can all be done -/
section
variable {yw yo yd : Int32} {he de pr lo hi ca : Nat → Int32}
def yf_X (w : Nat) (B L H : Nat → Nat) (P t s : Nat) : Prop := (∀ i, s.testBit i = true → P.testBit i = true) ∧ tp_G w B L H s t
def yf_D (w : Nat) (B L H : Nat → Nat) (P t : Nat) (fd : Int32) : Prop :=
  (fd = -1 ∧ ¬ tp_G w B L H P t) ∨ (∃ x, x ≤ 8 ∧ fd = nI x ∧ tp_G w B L H P x ∧ ∀ t', tp_G w B L H P t' → x ≤ t')
/-- what fits answers -/
def yf_R (w : Nat) (B L H : Nat → Nat) (P : Nat) (r fd : Int32) : Prop :=
  (r = 1 ∧ tp_E w B L H P ∧ ∃ x, x ≤ 8 ∧ fd = nI x ∧ tp_G w B L H P x ∧ ∀ t', tp_G w B L H P t' → x ≤ t') ∨ (r = 0 ∧ ¬ tp_E w B L H P)
theorem yf_in {post : Int32 → SY → Prop} {J : Int32 → Int32 → Int32 → Int32 → (Nat → Int32) → (Nat → Int32) → (Nat → Int32) → (Nat → Int32) → (Nat → Int32) → (Nat → Int32) → Prop}
    {w P t : Nat} {B L H : Nat → Nat} {fd : Int32} (hw : w = 1 ∨ w = 2) (hP : P < 128) (h : ys_H P he) (hC : ys_C P B L H pr lo hi) (ht : t < 8) (hfd : yf_D w B L H P t fd)
    (hJ : ∀ (fd' : Int32) (ca' : Nat → Int32), ys_A (yf_X w B L H P (t + 1)) ca' → yf_D w B L H P (t + 1) fd' → J (nI (t + 1)) (nI w) yo fd' he de pr lo hi ca') :
    ∀ i, ∀ ca : Nat → Int32, i ≤ 128 → ys_A (fun s => yf_X w B L H P t s ∨ ∃ S, i ≤ S ∧ yf_X w B L H P t S ∧ tp_S w B L H P S t s) ca →
      wY_fits_61 post J (nI P) (nI t) (i + 1) (nI i + (-1)) (nI w) yo fd he de pr lo hi ca := by
  intro i
  induction i with
  | zero =>
    intro ca _ hA
    have hA' : ys_A (yf_X w B L H P (t + 1)) ca := by
      refine ys_Ac ?_ hA
      intro s _
      constructor
      · intro g
        rcases g with g | ⟨S, _, g1, g2⟩
        · exact ⟨g.1, tp_G_up (Nat.le_succ t) g.2⟩
        · have hs := tp_S_sub g1.1 g2
          exact ⟨hs, (tp_Y hs).mpr (Or.inr ⟨S, g1.1, g1.2, g2⟩)⟩
      · intro g
        rcases (tp_Y g.1).mp g.2 with g' | ⟨S, g1, g2, g3⟩
        · exact Or.inl ⟨g.1, g'⟩
        · exact Or.inr ⟨S, Nat.zero_le _, ⟨g1, g2⟩, g3⟩
    refine br_t (by decide) ?_
    rcases hfd with ⟨e, hno⟩ | ⟨x, hx8, ex, hx, hmin⟩
    · refine br_f (by rw [e]; decide) ?_
      rw [tb_127 P hP, xs_cl hP]
      refine ⟨xs_in8 hP, ?_⟩
      rcases hA' P hP with ⟨e1, g⟩ | ⟨e1, g⟩
      · refine br_f (by rw [e1]; decide) (nm_r (nI_1 t) (nm_r (nI_1 t) (hJ _ ca hA' (Or.inr ⟨t + 1, by omega, rfl, g.2, fun t' g' => ?_⟩))))
        rcases Nat.lt_or_ge t' (t + 1) with hh | hh
        · exact absurd (tp_G_up (by omega) g') hno
        · exact hh
      · exact br_t e1 (nm_r (nI_1 t) (hJ _ ca hA' (Or.inl ⟨e, fun g' => g ⟨fun _ h => h, g'⟩⟩)))
    · exact br_t (by rw [ex]; exact nI_pos' (by omega)) (nm_r (nI_1 t) (hJ _ ca hA' (Or.inr ⟨x, hx8, ex, hx, hmin⟩)))
  | succ i ih =>
    intro ca hi8 hA
    have hi' : i < 128 := by omega
    have self : ∀ S, yf_X w B L H P t S ∧ tp_S w B L H P S t i → S < i := fun S g => tp_S_lt g.2
    rw [pk_m1]
    refine br_f (nI_pos (by omega)) ⟨xs_in8 hi', ?_⟩
    rw [xs_cl hi']
    rcases hA i hi' with ⟨e1, g⟩ | ⟨e1, g⟩
    · have g0 : yf_X w B L H P t i := by
        rcases g with g | ⟨S, g1, g2⟩
        · exact g
        · have := self S g2
          omega
      refine br_f (by rw [e1]; decide) (ys_fill (P := P) (B := B) (L := L) (H := H) hw hP h hC hi' (by omega) hA (fun ca' hA' => nm_e (ih ca' (by omega) (ys_Ac ?_ hA'))))
      intro s _
      constructor
      · intro q
        rcases q with (q | ⟨S, q1, q2⟩) | q
        · exact Or.inl q
        · exact Or.inr ⟨S, by omega, q2⟩
        · exact Or.inr ⟨i, Nat.le_refl _, g0, q⟩
      · intro q
        rcases q with q | ⟨S, q1, q2, q3⟩
        · exact Or.inl (Or.inl q)
        · by_cases e : S = i
          · rw [e] at q3; exact Or.inr q3
          · exact Or.inl (Or.inr ⟨S, by omega, q2, q3⟩)
    · refine br_t e1 (nm_e (ih ca (by omega) (ys_Ac ?_ hA)))
      intro s _
      constructor
      · intro q
        rcases q with q | ⟨S, q1, q2⟩
        · exact Or.inl q
        · exact Or.inr ⟨S, by omega, q2⟩
      · intro q
        rcases q with q | ⟨S, q1, q2, q3⟩
        · exact Or.inl q
        · by_cases e : S = i
          · exact absurd (Or.inl (e ▸ q2)) g
          · exact Or.inr ⟨S, by omega, q2, q3⟩
theorem yf_out {post : Int32 → SY → Prop} {w P : Nat} {B L H : Nat → Nat} (hw : w = 1 ∨ w = 2) (hP : P < 128) (h : ys_H P he) (hC : ys_C P B L H pr lo hi) (hB : tp_C B P)
    (hp : ∀ (r fd' : Int32) (ca' : Nat → Int32), yf_R w B L H P r fd' → post r (nI w, yo, fd', he, de, pr, lo, hi, ca')) :
    ∀ d t, ∀ (fd : Int32) (ca : Nat → Int32), t + d = 8 → ys_A (yf_X w B L H P t) ca → yf_D w B L H P t fd → wY_fits_50 post (nI P) (d + 1) (nI t) (nI w) yo fd he de pr lo hi ca := by
  intro d
  induction d with
  | zero =>
    intro t fd ca ht hA hfd
    have e : t = 8 := by omega
    subst e
    refine br_t (by decide) ?_
    rw [tb_127 P hP, xs_cl hP]
    refine ⟨xs_in8 hP, ?_⟩
    rcases hA P hP with ⟨e1, g⟩ | ⟨e1, g⟩
    · rw [e1]
      refine ⟨ys_n1, hp 1 fd ca (Or.inl ⟨rfl, tp_G_E g.2, ?_⟩)⟩
      rcases hfd with ⟨_, hno⟩ | hy
      · exact absurd g.2 hno
      · exact hy
    · rw [e1]
      exact ⟨ys_n0, hp 0 fd ca (Or.inr ⟨rfl, fun hE => g ⟨fun _ h => h, tp_E_G (fun i hi => (hC i hi).2.2.2.2.1) hB hE⟩⟩)⟩
  | succ d ih =>
    intro t fd ca ht hA hfd
    have h8 : ¬ (8 : Int32) ≤ nI t := nI_ge (b := 8) (by omega) (by decide)
    refine br_f h8 (nm_r (e' := nI (P + 1) + (-1)) (by rw [tb_127 P hP, pk_m1]) ⟨P + 1 + 1, yf_in hw hP h hC (by omega) hfd (fun fd' ca' hA' hD' => ih (t + 1) fd' ca' (by omega) hA' hD') (P + 1) ca (by omega) (ys_Ac ?_ hA)⟩)
    intro s _
    constructor
    · exact fun g => Or.inl g
    · intro g
      rcases g with g | ⟨S, g1, g2, _⟩
      · exact g
      · have := tb_le g2.1
        omega
theorem yf_il {post : Int32 → SY → Prop} {w P : Nat} {B L H : Nat → Nat} (hw : w = 1 ∨ w = 2) (hP : P < 128) (h : ys_H P he) (hC : ys_C P B L H pr lo hi) (hB : tp_C B P)
    (hp : ∀ (r fd' : Int32) (ca' : Nat → Int32), yf_R w B L H P r fd' → post r (nI w, yo, fd', he, de, pr, lo, hi, ca')) :
    ∀ d n, ∀ ca : Nat → Int32, n + d = 128 → (∀ s, s < n → ca s = if s = 0 then 1 else 0) → wY_fits_7 post (nI P) (nI w) yo yd (d + 1) (nI n) he de pr lo hi ca := by
  intro d
  induction d with
  | zero =>
    intro n ca hn hc
    have e : n = 128 := by omega
    subst e
    have hA : ys_A (yf_X w B L H P 0) ca := by
      intro s hs
      by_cases e : s = 0
      · subst e
        exact Or.inl ⟨hc 0 hs, fun i hi => absurd hi (tb_n0 i), tp_G_e w 0 B L H⟩
      · exact Or.inr ⟨by rw [hc s hs, if_neg e], fun g => tp_G_0 e g.2⟩
    refine br_t (by decide) ?_
    by_cases h0 : P = 0
    · refine br_t ((tb_nz hP).mpr h0) ⟨9, yf_out hw hP h hC hB hp 8 0 0 ca rfl hA (Or.inr ⟨0, by omega, rfl, ?_, fun _ _ => Nat.zero_le _⟩)⟩
      rw [h0]
      exact tp_G_e w 0 B L H
    · exact br_f (fun e => h0 ((tb_nz hP).mp e)) ⟨9, yf_out hw hP h hC hB hp 8 0 (-1) ca rfl hA (Or.inl ⟨rfl, tp_G_0 h0⟩)⟩
  | succ d ih =>
    intro n ca hn hc
    have h128 : n < 128 := by omega
    have hge : ¬ (128 : Int32) ≤ nI n := nI_ge (b := 128) h128 (by decide)
    by_cases h0 : n = 0
    · refine br_f hge (br_t ((tb_nz h128).mpr h0) ⟨xs_in8 h128, nm_e (nm_r (nI_1 n) (ih (n + 1) _ (by omega) ?_))⟩)
      rw [xs_cl h128]
      intro s hs
      have e : s = n := by omega
      rw [e, pk_us, if_pos h0]
      rfl
    · refine br_f hge (br_f (fun e => h0 ((tb_nz h128).mp e)) ⟨xs_in8 h128, nm_e (nm_r (nI_1 n) (ih (n + 1) _ (by omega) ?_))⟩)
      rw [xs_cl h128]
      intro s hs
      by_cases e : s = n
      · rw [e, pk_us, if_neg h0]
        rfl
      · rw [pk_un e]
        exact hc s (by omega)
theorem yf_fits {post : Int32 → SY → Prop} {w P : Nat} {B L H : Nat → Nat} (hw : w = 1 ∨ w = 2) (hP : P < 128) (h : ys_H P he) (hC : ys_C P B L H pr lo hi) (hB : tp_C B P)
    (hp : ∀ (r fd' : Int32) (ca' : Nat → Int32), yf_R w B L H P r fd' → post r (nI w, yo, fd', he, de, pr, lo, hi, ca')) :
    wpY_fits post (nI w, yo, yd, he, de, pr, lo, hi, ca) := by
  unfold wpY_fits
  dsimp only
  exact ys_tasks h hP ⟨129, yf_il hw hP h hC hB hp 128 0 ca rfl (fun s h => absurd h (Nat.not_lt_zero s))⟩
theorem yf_hi : ∀ D, D < 9 → ∀ s, s < 9 → 1 ≤ D → 1 ≤ s → (if nI s ≤ nI D then nI s - 1 else nI D - 1) = nI (min D s - 1) := by decide +kernel
theorem yf_xd : ∀ D, D < 9 → ∀ s, s < 9 → (if nI s ≤ nI D then nI s else nI D) = nI (min D s) := by decide +kernel
/-- deadlines and predecessors of the tasks of P -/
def yf_V (P : Nat) (B D : Nat → Nat) (de pr : Nat → Int32) : Prop := ∀ i, P.testBit i = true → 1 ≤ D i ∧ D i ≤ 8 ∧ de i = nI (D i) ∧ pr i = nI (B i) ∧ B i < 128
theorem yf_aC {P s : Nat} {B D : Nat → Nat} {lo' hi' : Nat → Int32} (hP : P < 128) (hs : 1 ≤ s) (hs8 : s ≤ 8) (hV : yf_V P B D de pr) (h1 : ∀ i, i < 7 → lo' i = 0)
    (h2 : ∀ i, i < 7 → hi' i = if nI s ≤ de i then nI s - 1 else de i - 1) : ys_C P B (fun _ => 0) (fun i => min (D i) s) pr lo' hi' := by
  intro i hi
  have h7 := tb_lt7 hP hi
  obtain ⟨v1, v2, v3, v4, v5⟩ := hV i hi
  refine ⟨v4, h1 i h7, ?_, (show 1 ≤ min (D i) s by omega), (show min (D i) s ≤ 8 by omega), Nat.zero_le 8, v5⟩
  rw [h2 i h7, v3]
  exact yf_hi (D i) (by omega) s (by omega) v1 hs
theorem yf_C8 {P : Nat} {B L D : Nat → Nat} {lo' hi' : Nat → Int32} (hV : yf_V P B D de pr) (h : ys_C P B L (fun i => min (D i) 8) pr lo' hi') : ys_C P B L D pr lo' hi' := by
  intro i hi
  have v := hV i hi
  have := h i hi
  have e : min (D i) 8 = D i := by omega
  dsimp only at this
  rw [e] at this
  exact this
theorem yf_good {post : Int32 → SY → Prop} {w P : Nat} {B D : Nat → Nat} (hw : w = 1 ∨ w = 2) (hP : P < 128) (h : ys_H P he) (hV : yf_V P B D de pr) (hB : tp_C B P)
    (hp : ∀ (r fd' : Int32) (lo' hi' ca' : Nat → Int32), yf_R w B (fun _ => 0) D P r fd' → post r (nI w, yo, fd', he, de, pr, lo', hi', ca')) :
    wpY_good post (nI w, yo, yd, he, de, pr, lo, hi, ca) := by
  unfold wpY_good
  dsimp only
  refine ys_ask (fun lo' hi' h1 h2 => ?_)
  refine yf_fits hw hP h (yf_C8 hV (yf_aC (s := 8) hP (by omega) (by omega) hV h1 h2)) hB (fun r fd' ca' hr => ?_)
  refine ⟨?_, hp r fd' lo' hi' ca' hr⟩
  rcases hr with ⟨e, _⟩ | ⟨e, _⟩
  · rw [e]; exact ys_n1
  · rw [e]; exact ys_n0
end
end
section
/-! Y: settle, settleAll, tightest, leads, remove -/
section
variable {yw yo yd : Int32} {he de pr lo hi ca : Nat → Int32}
theorem yl_sl {post : Int32 → SY → Prop} {w P k d : Nat} {B L H : Nat → Nat} (hw : w = 1 ∨ w = 2) (hP : P < 128) (hk : P.testBit k = true) (h : ys_H P he) (hB : tp_C B P)
    (h1 : 1 ≤ d) (hdH : d ≤ H k) (h8 : H k ≤ 8) (hno : ∀ s, s + 1 < d → ¬ tp_E w B (tp_up L k s) (tp_up H k (s + 1)) P) (hyes : tp_E w B (tp_up L k (d - 1)) (tp_up H k d) P)
    (hp : ∀ (fd' : Int32) (lo' hi' ca' : Nat → Int32), ys_C P B (tp_up L k (d - 1)) (tp_up H k d) pr lo' hi' → post (nI (d - 1)) (nI w, yo, fd', he, de, pr, lo', hi', ca')) :
    ∀ m s, ∀ (fd : Int32) (lo hi ca : Nat → Int32), s + m = d - 1 →
      (∀ i, P.testBit i = true → pr i = nI (B i) ∧ B i < 128 ∧ (i ≠ k → lo i = nI (L i) ∧ hi i = nI (H i - 1) ∧ 1 ≤ H i ∧ H i ≤ 8 ∧ L i ≤ 8)) →
      wY_settle_9 post (nI k) (nI (H k - 1)) (m + 1) (nI s) (nI w) yo fd he de pr lo hi ca := by
  have hk7 := tb_lt7 hP hk
  intro m
  induction m with
  | zero =>
    intro s fd lo hi ca hs hc
    have e : s = d - 1 := by omega
    have ed : s + 1 = d := by omega
    have hC : ys_C P B (tp_up L k s) (tp_up H k (s + 1)) pr (upd lo (nI k).toNatClampNeg (nI s)) (upd hi (nI k).toNatClampNeg (nI s)) := by
      rw [nI_clamp (by omega)]
      intro i hi'
      obtain ⟨c1, c2, c3⟩ := hc i hi'
      by_cases e : i = k
      · rw [e, pk_us, pk_us, tp_us, tp_us]
        rw [e] at c1 c2
        exact ⟨c1, rfl, rfl, by omega, by omega, by omega, c2⟩
      · rw [pk_un e, pk_un e, tp_un L _ e, tp_un H _ e]
        obtain ⟨d1, d2, d3, d4, d5⟩ := c3 e
        exact ⟨c1, d1, d2, d3, d4, d5, c2⟩
    refine br_f (nI_nlt (by omega) (by omega)) (br_f (nI_ge (b := 8) (by omega) (by decide)) ⟨xs_in hk7, nm_e ⟨xs_in hk7, nm_e (yf_fits hw hP h hC hB (fun r fd' ca' hr => ?_))⟩⟩)
    rw [ed, e] at hC
    rw [ed, e] at hr
    rcases hr with ⟨er, _⟩ | ⟨_, hn⟩
    · rw [e]
      exact br_f (by rw [er]; decide) (hp fd' _ _ ca' hC)
    · exact absurd hyes hn
  | succ m ih =>
    intro s fd lo hi ca hs hc
    have hC : ys_C P B (tp_up L k s) (tp_up H k (s + 1)) pr (upd lo (nI k).toNatClampNeg (nI s)) (upd hi (nI k).toNatClampNeg (nI s)) := by
      rw [nI_clamp (by omega)]
      intro i hi'
      obtain ⟨c1, c2, c3⟩ := hc i hi'
      by_cases e : i = k
      · rw [e, pk_us, pk_us, tp_us, tp_us]
        rw [e] at c1 c2
        exact ⟨c1, rfl, rfl, by omega, by omega, by omega, c2⟩
      · rw [pk_un e, pk_un e, tp_un L _ e, tp_un H _ e]
        obtain ⟨d1, d2, d3, d4, d5⟩ := c3 e
        exact ⟨c1, d1, d2, d3, d4, d5, c2⟩
    refine br_f (nI_nlt (by omega) (by omega)) (br_f (nI_ge (b := 8) (by omega) (by decide)) ⟨xs_in hk7, nm_e ⟨xs_in hk7, nm_e (yf_fits hw hP h hC hB (fun r fd' ca' hr => ?_))⟩⟩)
    rcases hr with ⟨_, hE, _⟩ | ⟨er, _⟩
    · exact absurd hE (hno s (by omega))
    · refine br_t er (nm_r (nI_1 s) (ih (s + 1) fd' _ _ ca' (by omega) ?_))
      rw [nI_clamp (by omega)]
      intro i hi'
      obtain ⟨c1, c2, c3⟩ := hc i hi'
      refine ⟨c1, c2, fun e => ?_⟩
      rw [pk_un e, pk_un e]
      exact c3 e
theorem yl_settle {post : Int32 → SY → Prop} {w P k d : Nat} {B L H : Nat → Nat} (hw : w = 1 ∨ w = 2) (hP : P < 128) (hk : P.testBit k = true) (h : ys_H P he) (hB : tp_C B P)
    (hE : tp_E w B (fun _ => 0) H P) (hd : tp_D w B H P k d) (hL : ∀ s, tp_F w B (fun _ => 0) H P s → ∀ j, P.testBit j = true → L j ≤ s j) (hC : ys_C P B L H pr lo hi)
    (hp : ∀ (fd' : Int32) (lo' hi' ca' : Nat → Int32), ys_C P B (tp_up L k (d - 1)) (tp_up H k d) pr lo' hi' → post (nI (d - 1)) (nI w, yo, fd', he, de, pr, lo', hi', ca')) :
    wpY_settle post (nI w, yo, yd, he, de, pr, lo, hi, ca) (nI k) := by
  have hk7 := tb_lt7 hP hk
  have hs := tp_set hk hE hd hL
  obtain ⟨c1, c2, c3, c4, c5, c6, c7⟩ := hC k hk
  refine ⟨xs_in hk7, nm_r (e' := nI (H k - 1)) (by rw [nI_clamp (by omega)]; exact c3) ⟨d - 1 + 1, yl_sl hw hP hk h hB (tp_D_pos hk hd) (tp_D_le hE hd) c5 hs.1 hs.2 hp (d - 1) 0 yd lo hi ca (by omega) ?_⟩⟩
  intro i hi'
  obtain ⟨d1, d2, d3, d4, d5, d6, d7⟩ := hC i hi'
  exact ⟨d1, d7, fun _ => ⟨d2, d3, d4, d5, d6⟩⟩
def yl_L (H : Nat → Nat) (k : Nat) : Nat → Nat := fun j => if j < k then H j - 1 else 0
theorem yl_al {post : Int32 → SY → Prop} {w P id : Nat} {B H0 : Nat → Nat} (hw : w = 1 ∨ w = 2) (hP : P < 128) (hid : P.testBit id = true) (h : ys_H P he) (hB : tp_C B P)
    (hE : tp_E w B (fun _ => 0) H0 P) (h8 : ∀ i, P.testBit i = true → H0 i ≤ 8)
    (hp : ∀ (H : Nat → Nat) (fd' : Int32) (lo' hi' ca' : Nat → Int32), tp_P w B P H0 (id + 1) H → post (nI (H id - 1)) (nI w, yo, fd', he, de, pr, lo', hi', ca')) :
    ∀ n k, ∀ (H : Nat → Nat) (fd : Int32) (lo hi ca : Nat → Int32) (x : Int32), k + n = id + 1 → tp_P w B P H0 k H → ys_C P B (yl_L H k) H pr lo hi → (k = id + 1 → x = nI (H id - 1)) →
      wY_settleAll_4 post (nI id) (n + 1) x (nI k) (nI w) yo fd he de pr lo hi ca := by
  have hid7 := tb_lt7 hP hid
  intro n
  induction n with
  | zero =>
    intro k H fd lo hi ca x hk hH hC hx
    have e : k = id + 1 := by omega
    subst e
    rw [hx rfl]
    exact br_t (nI_lt (by omega) (by omega)) (hp H fd lo hi ca hH)
  | succ n ih =>
    intro k H fd lo hi ca x hk hH hC hx
    have hk7 : k < 7 := by omega
    have hn : ¬ nI id < nI k := nI_nlt (by omega) (by omega)
    by_cases hb : P.testBit k = true
    · have hI := tp_P_i hE h8 hH
      obtain ⟨d, hd⟩ := tp_D_ex (j := k) hI.1
      refine br_f hn (br_f (xs_7 hk7) ⟨xs_in hk7, br_f (ys_h1 h hk7 hb) (yl_settle (L := yl_L H k) hw hP hb h hB hI.1 hd ?_ hC (fun fd' lo' hi' ca' hC' => ?_))⟩)
      · intro s hF j hj
        unfold yl_L
        by_cases hjk : j < k
        · rw [if_pos hjk]
          have := hI.2.2.1 s hF j hj hjk
          omega
        · rw [if_neg hjk]
          exact Nat.zero_le _
      · refine nm_r (nI_1 k) (ih (k + 1) (tp_up H k d) fd' lo' hi' ca' _ (by omega) ⟨H, hH, Or.inl ⟨hb, d, hd, rfl⟩⟩ ?_ ?_)
        · intro i hi'
          have g := hC' i hi'
          have e : tp_up (yl_L H k) k (d - 1) i = yl_L (tp_up H k d) (k + 1) i := by
            unfold yl_L
            by_cases e1 : i = k
            · rw [e1, tp_us, if_pos (Nat.lt_succ_self k), tp_us]
            · rw [tp_un _ _ e1]
              by_cases e2 : i < k
              · rw [if_pos e2, if_pos (by omega), tp_un H _ e1]
              · rw [if_neg e2, if_neg (by omega)]
          rw [e] at g
          exact g
        · intro e
          have e2 : id = k := by omega
          rw [e2, tp_us]
    · refine br_f hn (br_f (xs_7 hk7) ⟨xs_in hk7, br_t (ys_h0 h hk7 hb) (nm_r (nI_1 k) (ih (k + 1) H fd lo hi ca x (by omega) ⟨H, hH, Or.inr ⟨hb, rfl⟩⟩ ?_ ?_))⟩)
      · intro i hi'
        have g := hC i hi'
        have e : yl_L H k i = yl_L H (k + 1) i := by
          have ne : i ≠ k := fun e => hb (e ▸ hi')
          unfold yl_L
          by_cases e2 : i < k
          · rw [if_pos e2, if_pos (by omega)]
          · rw [if_neg e2, if_neg (by omega)]
        rw [e] at g
        exact g
      · intro e
        have e2 : id = k := by omega
        exact absurd (e2 ▸ hid) hb
theorem yl_all {post : Int32 → SY → Prop} {w P id : Nat} {B H0 : Nat → Nat} (hw : w = 1 ∨ w = 2) (hP : P < 128) (hid : P.testBit id = true) (h : ys_H P he) (hB : tp_C B P)
    (hE : tp_E w B (fun _ => 0) H0 P) (hC : ys_C P B (fun _ => 0) H0 pr lo hi)
    (hp : ∀ (H : Nat → Nat) (fd' : Int32) (lo' hi' ca' : Nat → Int32), tp_P w B P H0 (id + 1) H → post (nI (H id - 1)) (nI w, yo, fd', he, de, pr, lo', hi', ca')) :
    wpY_settleAll post (nI w, yo, yd, he, de, pr, lo, hi, ca) (nI id) := by
  refine ⟨id + 1 + 1, yl_al hw hP hid h hB hE (fun i hi' => (hC i hi').2.2.2.2.1) hp (id + 1) 0 H0 yd lo hi ca (-1) (by omega) rfl ?_ (fun e => by omega)⟩
  intro i hi'
  have g := hC i hi'
  have e : yl_L H0 0 i = 0 := if_neg (Nat.not_lt_zero i)
  rw [e]
  exact g
theorem yl_tl {post : Int32 → SY → Prop} {w P id d0 : Nat} {B D : Nat → Nat} (hw : w = 1 ∨ w = 2) (hP : P < 128) (hid : P.testBit id = true) (h : ys_H P he) (hB : tp_C B P)
    (hE : tp_E w B (fun _ => 0) D P) (hd : tp_D w B D P id d0) (hV : yf_V P B D de pr)
    (hp : ∀ (fd' : Int32) (de' lo' hi' ca' : Nat → Int32), (∀ i, i ≠ id → de' i = de i) → de' id = nI (D id) → post (nI d0) (nI w, yo, fd', he, de', pr, lo', hi', ca')) :
    ∀ i l, ∀ (fd : Int32) (de1 lo hi ca : Nat → Int32), i ≤ 8 → (i < d0 → l = d0) → (∀ i, i ≠ id → de1 i = de i) →
      wY_tightest_24 post (nI id) (nI (D id)) (i + 1) (nI l) (nI i) (nI w) yo fd he de1 pr lo hi ca := by
  have hid7 := tb_lt7 hP hid
  have ec : (nI id).toNatClampNeg = id := nI_clamp (by omega)
  have hd1 := tp_D_pos hid hd
  intro i
  induction i with
  | zero =>
    intro l fd de1 lo hi ca _ hl hde
    rw [hl (by omega)]
    refine br_t (by decide) ⟨xs_in hid7, nm_e (hp fd _ lo hi ca ?_ ?_)⟩
    · intro i hi'
      rw [ec, pk_un hi']
      exact hde i hi'
    · rw [ec, pk_us]
  | succ i ih =>
    intro l fd de1 lo hi ca hi8 hl hde
    have hV' : yf_V P B (tp_up D id (i + 1)) (upd de1 (nI id).toNatClampNeg (nI (i + 1))) pr := by
      rw [ec]
      intro q hq
      obtain ⟨v1, v2, v3, v4, v5⟩ := hV q hq
      by_cases e : q = id
      · rw [e, tp_us, pk_us]
        rw [e] at v4 v5
        exact ⟨by omega, hi8, rfl, v4, v5⟩
      · rw [tp_un D _ e, pk_un e, hde q e]
        exact ⟨v1, v2, v3, v4, v5⟩
    have hde' : ∀ q, q ≠ id → upd de1 (nI id).toNatClampNeg (nI (i + 1)) q = de q := by
      rw [ec]
      intro q hq
      rw [pk_un hq]
      exact hde q hq
    refine br_f (nI_nlt (b := 1) (by omega) (by omega)) ⟨xs_in hid7, nm_e (yf_good hw hP h hV' hB (fun r fd' lo' hi' ca' hr => ?_))⟩
    rcases hr with ⟨er, hE', _⟩ | ⟨er, hE'⟩
    · refine br_f (by rw [er]; decide) (nm_r (pk_m1 i) (ih (i + 1) fd' _ lo' hi' ca' (by omega) ?_ hde'))
      intro hlt
      rcases Nat.lt_or_ge (i + 1) d0 with hh | hh
      · exact absurd hE' (hd.2 (i + 1) hh)
      · omega
    · refine br_t er (nm_r (pk_m1 i) (ih l fd' _ lo' hi' ca' (by omega) ?_ hde'))
      intro hlt
      by_cases e : i + 1 = d0
      · rw [e] at hE'
        exact absurd hd.1 hE'
      · exact hl (by omega)
theorem yl_tight {post : Int32 → SY → Prop} {w P id d0 : Nat} {B D : Nat → Nat} (hw : w = 1 ∨ w = 2) (hP : P < 128) (hid : P.testBit id = true) (h : ys_H P he) (hB : tp_C B P)
    (hE : tp_E w B (fun _ => 0) D P) (hd : tp_D w B D P id d0) (hV : yf_V P B D de pr)
    (hp : ∀ (fd' : Int32) (de' lo' hi' ca' : Nat → Int32), (∀ i, i ≠ id → de' i = de i) → de' id = nI (D id) → post (nI d0) (nI w, yo, fd', he, de', pr, lo', hi', ca')) :
    wpY_tightest post (nI w, yo, yd, he, de, pr, lo, hi, ca) (nI id) := by
  have hid7 := tb_lt7 hP hid
  have hV0 := hV id hid
  have hle := tp_D_le hE hd
  unfold wpY_tightest
  dsimp only
  refine ys_there1 h hid7 hid (br_f xs_10 ⟨xs_in hid7, nm_r (e' := nI (D id)) (by rw [nI_clamp (by omega)]; exact hV0.2.2.1) ⟨9, yl_tl hw hP hid h hB hE hd hV hp 8 8 yd de lo hi ca (by omega) (fun hh => by omega) (fun _ _ => rfl)⟩⟩)
/-! leads -/
theorem yl_li {post : Int32 → Prop} {J : Int32 → Int32 → Prop} {P : Nat} {B : Nat → Nat} {i j r S0 : Nat} (hP : P < 128) (h : ys_H P he) (hpr : ∀ k, P.testBit k = true → pr k = nI (B k) ∧ B k < 128)
    (hJ : ∀ S, S < 128 → (∀ a, S0.testBit a = true → S.testBit a = true) → (∀ a, S.testBit a = true → ∃ n, tp_Q B n j a) →
      (∀ k, P.testBit k = true → ∀ c, (B k).testBit c = true → S0.testBit c = true → S.testBit k = true) → J (nI S) (nI (r + 1))) :
    ∀ d k S, k + d = 7 → S < 128 → (∀ a, S0.testBit a = true → S.testBit a = true) → (∀ a, S.testBit a = true → ∃ n, tp_Q B n j a) →
      (∀ k', k' < k → P.testBit k' = true → ∀ c, (B k').testBit c = true → S0.testBit c = true → S.testBit k' = true) →
      wY_leads_17 post J (nI i) (nI r) yw yo yd he de pr lo hi ca (d + 1) (nI S) (nI k) := by
  intro d
  induction d with
  | zero =>
    intro k S hk hS h1 h2 h3
    have e : k = 7 := by omega
    subst e
    exact br_t xs_77 (nm_r (nI_1 r) (hJ S hS h1 h2 (fun k' hk' => h3 k' (tb_lt7 hP hk') hk')))
  | succ d ih =>
    intro k S hk hS h1 h2 h3
    have hk7 : k < 7 := by omega
    by_cases hb : P.testBit k = true
    · obtain ⟨ep, lp⟩ := hpr k hb
      have ea : (pr (nI k).toNatClampNeg &&& nI S) = 0 ↔ B k &&& S = 0 := by
        rw [nI_clamp (by omega), ep, nx_and]
        exact tb_nz (Nat.lt_of_le_of_lt Nat.and_le_left lp)
      by_cases hz : B k &&& S = 0
      · refine br_f (xs_7 hk7) ⟨xs_in hk7, br_f (ys_h1 h hk7 hb) ⟨xs_in hk7, br_t (ea.mpr hz) (nm_r (nI_1 k) (ih (k + 1) S (by omega) hS h1 h2 ?_))⟩⟩
        intro k' hk' hp' c hc hs
        by_cases e : k' = k
        · rw [e] at hc
          have : (B k &&& S).testBit c = true := by rw [Nat.testBit_and, hc, h1 c hs]; rfl
          rw [hz] at this
          exact absurd this (tb_n0 c)
        · exact h3 k' (by omega) hp' c hc hs
      · obtain ⟨c, hc⟩ := tb_ne hz
        rw [Nat.testBit_and, Bool.and_eq_true] at hc
        refine br_f (xs_7 hk7) ⟨xs_in hk7, br_f (ys_h1 h hk7 hb) ⟨xs_in hk7, br_f (fun e => hz (ea.mp e)) (nm_r (e' := nI (S ||| 2 ^ k)) (by rw [tb_bit k hk7, tb_or]) (nm_r (nI_1 k) (ih (k + 1) (S ||| 2 ^ k) (by omega) (tb_o128 hS hk7) ?_ ?_ ?_)))⟩⟩
        · exact fun a ha => (tb_o1 _ _ _).mpr (Or.inl (h1 a ha))
        · intro a ha
          rcases (tb_o1 _ _ _).mp ha with g | g
          · exact h2 a g
          · obtain ⟨n, hn⟩ := h2 c hc.2
            rw [g]
            exact ⟨n + 1, c, hn, hc.1⟩
        · intro k' hk' hp' c' hc' hs
          by_cases e : k' = k
          · exact (tb_o1 _ _ _).mpr (Or.inr e)
          · exact (tb_o1 _ _ _).mpr (Or.inl (h3 k' (by omega) hp' c' hc' hs))
    · refine br_f (xs_7 hk7) ⟨xs_in hk7, br_t (ys_h0 h hk7 hb) (nm_r (nI_1 k) (ih (k + 1) S (by omega) hS h1 h2 ?_))⟩
      intro k' hk' hp' c hc hs
      by_cases e : k' = k
      · exact absurd (e ▸ hp') hb
      · exact h3 k' (by omega) hp' c hc hs
theorem yl_lo {post : Int32 → Prop} {P : Nat} {B : Nat → Nat} {i j : Nat} (hP : P < 128) (hi7 : i < 7) (h : ys_H P he) (hB : tp_C B P) (hpr : ∀ k, P.testBit k = true → pr k = nI (B k) ∧ B k < 128)
    (hp1 : ∀ S : Nat, S.testBit i = true → (∀ a, S.testBit a = true → ∃ n, tp_Q B n j a) → post 1)
    (hp0 : ∀ S : Nat, ¬ S.testBit i = true → (∀ n a, n ≤ 7 → P.testBit a = true → tp_Q B n j a → S.testBit a = true) → post 0) :
    ∀ d r S, r + d = 7 → S < 128 → (∀ a, S.testBit a = true → ∃ n, tp_Q B n j a) → (∀ n a, n ≤ r → P.testBit a = true → tp_Q B n j a → S.testBit a = true) →
      wY_leads_7 post (nI i) yw yo yd he de pr lo hi ca (d + 1) (nI S) (nI r) := by
  intro d
  induction d with
  | zero =>
    intro r S hr hS h1 h2
    have e : r = 7 := by omega
    subst e
    by_cases hb : S.testBit i = true
    · exact br_t xs_77 (br_t (by rw [tb_has S hS i hi7, if_pos hb]) (hp1 S hb h1))
    · exact br_t xs_77 (br_f (by rw [tb_has S hS i hi7, if_neg hb]; decide) (hp0 S hb h2))
  | succ d ih =>
    intro r S hr hS h1 h2
    refine br_f (xs_7 (by omega)) ⟨8, yl_li (S0 := S) (j := j) hP h hpr ?_ 7 0 S rfl hS (fun _ h => h) h1 (fun k' hk' => absurd hk' (Nat.not_lt_zero _))⟩
    intro S' hS' g1 g2 g3
    refine ih (r + 1) S' (by omega) hS' g2 ?_
    intro n a hn ha hq
    cases n with
    | zero => exact g1 a (h2 0 a (Nat.zero_le _) ha hq)
    | succ n =>
      obtain ⟨c, hc, hca⟩ := hq
      exact g3 a ha c hca (h2 n c (by omega) (hB a ha c hca) hc)
theorem yl_leads {post : Int32 → Prop} {w P i j : Nat} {B H : Nat → Nat} {hx : Nat → Int32} (hP : P < 128) (hi : P.testBit i = true) (hj : P.testBit j = true) (hij : i ≠ j) (h : ys_H P he) (hB : tp_C B P)
    (hE : tp_E w B (fun _ => 0) H P) (h8 : ∀ i, P.testBit i = true → H i ≤ 8) (hpr : ∀ k, P.testBit k = true → pr k = nI (B k) ∧ B k < 128)
    (hp1 : tp_K B j i → post 1) (hp0 : ¬ tp_K B j i → post 0) : wpY_leads post (yw, yo, yd, he, de, pr, lo, hx, ca) (nI j) (nI i) := by
  have hi7 := tb_lt7 hP hi
  have hj7 := tb_lt7 hP hj
  refine nm_r (tb_bit j hj7) ⟨8, yl_lo (j := j) hP hi7 h hB hpr ?_ ?_ 7 0 (2 ^ j) rfl ?_ ?_ ?_⟩
  · intro S hb h1
    obtain ⟨n, hn⟩ := h1 i hb
    cases n with
    | zero => exact absurd (Eq.symm hn) hij
    | succ n => exact hp1 ⟨n, hn⟩
  · intro S hb h2
    refine hp0 (fun hk => hb ?_)
    obtain ⟨n, hn, hq⟩ := tp_K7 hB hE h8 hi hk
    exact h2 (n + 1) i (by omega) hi hq
  · have := tb_o128 (S := 0) (by omega) hj7
    rw [Nat.zero_or] at this
    exact this
  · intro a ha
    exact ⟨0, (tb_pm j a).mp ha⟩
  · intro n a hn _ hq
    have e : n = 0 := by omega
    rw [e] at hq
    exact (tb_pm j a).mpr hq
/-! remove -/
theorem yl_rl {post : Int32 → SY → Prop} {k : Nat} (hk : k < 7)
    (hp : ∀ pr' : Nat → Int32, (∀ i, i < 7 → pr' i = pr i &&& (nI (2 ^ k) ^^^ (-1))) → post 1 (yw, yo, yd, he, de, pr', lo, hi, ca)) :
    ∀ d j, ∀ pr1 : Nat → Int32, j + d = 7 → (∀ i, i < j → pr1 i = pr i &&& (nI (2 ^ k) ^^^ (-1))) → (∀ i, j ≤ i → pr1 i = pr i) →
      wY_remove_19 post (nI k) yw yo yd (d + 1) (nI j) he de pr1 lo hi ca := by
  intro d
  induction d with
  | zero =>
    intro j pr1 hj h1 h2
    have e : j = 7 := by omega
    subst e
    exact br_t xs_77 (hp pr1 h1)
  | succ d ih =>
    intro j pr1 hj h1 h2
    have h7 : j < 7 := by omega
    refine br_f (xs_7 h7) ⟨xs_in h7, xs_in h7, nm_e (nm_r (nI_1 j) (ih (j + 1) _ (by omega) ?_ ?_))⟩
    · rw [nI_clamp (by omega), tb_bit k hk]
      intro i hi'
      by_cases e : i = j
      · rw [e, pk_us, h2 j (Nat.le_refl _)]
      · rw [pk_un e]; exact h1 i (by omega)
    · rw [nI_clamp (by omega)]
      intro i hi'
      rw [pk_un (by omega)]
      exact h2 i (by omega)
theorem yl_Hd {P k : Nat} (hk : k < 7) (h : ys_H P he) : ys_H (tb_df P (2 ^ k)) (upd he (nI k).toNatClampNeg (vp_nar .boolean 0)) := by
  rw [nI_clamp (by omega)]
  intro i hi'
  by_cases e : i = k
  · rw [e, pk_us, if_neg (by rw [tb_d1]; exact fun h => h.2 rfl)]
    rfl
  · rw [pk_un e, h i hi']
    by_cases hb : P.testBit i = true
    · rw [if_pos hb, if_pos ((tb_d1 _ _ _).mpr ⟨hb, e⟩)]
    · rw [if_neg hb, if_neg (fun g => hb ((tb_d1 _ _ _).mp g).1)]
theorem yl_Hu {P k : Nat} (hk : k < 7) (h : ys_H P he) : ys_H (P ||| 2 ^ k) (upd he (nI k).toNatClampNeg (vp_nar .boolean 1)) := by
  rw [nI_clamp (by omega)]
  intro i hi'
  by_cases e : i = k
  · rw [e, pk_us, if_pos ((tb_o1 _ _ _).mpr (Or.inr rfl))]
    rfl
  · rw [pk_un e, h i hi']
    by_cases hb : P.testBit i = true
    · rw [if_pos hb, if_pos ((tb_o1 _ _ _).mpr (Or.inl hb))]
    · rw [if_neg hb, if_neg (fun g => ((tb_o1 _ _ _).mp g).elim hb e)]
theorem yl_rm {post : Int32 → SY → Prop} {P k : Nat} (hk : k < 7) (h : ys_H P he) (hb : P.testBit k = true)
    (hp : ∀ he' pr' : Nat → Int32, ys_H (tb_df P (2 ^ k)) he' → (∀ i, i < 7 → pr' i = pr i &&& (nI (2 ^ k) ^^^ (-1))) → post 1 (yw, yo, yd, he', de, pr', lo, hi, ca)) :
    wpY_remove post (yw, yo, yd, he, de, pr, lo, hi, ca) (nI k) := by
  unfold wpY_remove
  dsimp only
  exact ys_there1 h hk hb (br_f xs_10 ⟨xs_in hk, nm_e ⟨8, yl_rl hk (fun pr' h' => hp _ pr' (yl_Hd hk h) h') 7 0 pr rfl (fun i h => absurd h (Nat.not_lt_zero i)) (fun _ _ => rfl)⟩⟩)
end
end
section
/-! the relation; the constructors; what it gives to each side -/
def zr_V (w c P : Nat) (D B : Nat → Nat) (dl bf he de pr : Nat → Int32) : Prop :=
  (w = 1 ∨ w = 2) ∧ (1 ≤ c ∧ c ≤ 7) ∧ P < 2 ^ c ∧
  (∀ i, P.testBit i = true → 1 ≤ D i ∧ D i ≤ 8 ∧ dl i = nI (D i) ∧ de i = nI (D i) ∧ pr i = nI (B i)) ∧
  (∀ i, i < 7 → bf i = nI (B i)) ∧ (∀ j i, (B j).testBit i = true → P.testBit i = true) ∧ (∀ j, ¬ P.testBit j = true → B j = 0) ∧
  ys_H P he ∧ tp_E w B (fun _ => 0) D P
/-- one plan (w machines, room for c, tasks P with deadlines D and predecessors B) stands in both states, and it has a good timetable -/
def i_Rel (_ : Nat) (u : SX) (v : SY) : Prop := ∃ (w c P : Nat) (D B : Nat → Nat) (dl bf td tb sf : Nat → Int32) (yd : Int32) (he de pr lo hi ca : Nat → Int32),
  u = (nI w, nI c, nI P, dl, bf, td, tb, sf) ∧ v = (nI w, nI c, yd, he, de, pr, lo, hi, ca) ∧ zr_V w c P D B dl bf he de pr
theorem i_up {k : Nat} {u : SX} {v : SY} (h : i_Rel k u v) : i_Rel (k + 3) u v := h
section
variable {w c P : Nat} {D B : Nat → Nat} {dl bf td tb sf : Nat → Int32} {yd : Int32} {he de pr lo hi ca : Nat → Int32}
theorem zr_mk {k : Nat} (V : zr_V w c P D B dl bf he de pr) : i_Rel k (nI w, nI c, nI P, dl, bf, td, tb, sf) (nI w, nI c, yd, he, de, pr, lo, hi, ca) :=
  ⟨w, c, P, D, B, dl, bf, td, tb, sf, yd, he, de, pr, lo, hi, ca, rfl, rfl, V⟩
theorem zr_c7 {c P : Nat} (hc : c ≤ 7) (h : P < 2 ^ c) : P < 128 := Nat.lt_of_lt_of_le h (show 2 ^ c ≤ 2 ^ 7 from Nat.pow_le_pow_right (by decide) hc)
theorem zr_P (V : zr_V w c P D B dl bf he de pr) : P < 128 := zr_c7 V.2.1.2 V.2.2.1
theorem zr_C (V : zr_V w c P D B dl bf he de pr) : tp_C B P := fun j _ i h => V.2.2.2.2.2.1 j i h
theorem zr_B (V : zr_V w c P D B dl bf he de pr) (j : Nat) : B j < 128 := tb_sl (V.2.2.2.2.2.1 j) (zr_P V)
theorem zr_8 (V : zr_V w c P D B dl bf he de pr) : ∀ i, P.testBit i = true → D i ≤ 8 := fun i hi => (V.2.2.2.1 i hi).2.1
theorem zr_E (V : zr_V w c P D B dl bf he de pr) : tp_E w B (fun _ => 0) D P := V.2.2.2.2.2.2.2.2
theorem zr_H (V : zr_V w c P D B dl bf he de pr) : ys_H P he := V.2.2.2.2.2.2.2.1
theorem zr_y (V : zr_V w c P D B dl bf he de pr) : yf_V P B D de pr := fun i hi => ⟨(V.2.2.2.1 i hi).1, (V.2.2.2.1 i hi).2.1, (V.2.2.2.1 i hi).2.2.2.1, (V.2.2.2.1 i hi).2.2.2.2, zr_B V i⟩
theorem zr_b (V : zr_V w c P D B dl bf he de pr) : ∀ k, k < 7 → bf k = nI (B k) ∧ B k < 128 := fun k hk => ⟨V.2.2.2.2.1 k hk, zr_B V k⟩
theorem zr_p (V : zr_V w c P D B dl bf he de pr) : ∀ k, P.testBit k = true → pr k = nI (B k) ∧ B k < 128 := fun k hk => ⟨(V.2.2.2.1 k hk).2.2.2.2, zr_B V k⟩
theorem zr_x {s : Nat} {td' tb' : Nat → Int32} (V : zr_V w c P D B dl bf he de pr) (hs : s ≤ 8) (h1 : ∀ i, i < 7 → td' i = if nI s ≤ dl i then nI s else dl i) (h2 : ∀ i, i < 7 → tb' i = bf i) :
    xt_C P B (fun i => min (D i) s) td' tb' := by
  intro i hi'
  have h7 := tb_lt7 (zr_P V) hi'
  obtain ⟨v1, v2, v3, v4, v5⟩ := V.2.2.2.1 i hi'
  refine ⟨?_, (show min (D i) s ≤ 8 by omega), ?_⟩
  · rw [h1 i h7, v3]
    exact yf_xd (D i) (by omega) s (by omega)
  · rw [h2 i h7]
    exact V.2.2.2.2.1 i h7
theorem zr_x8 {td' tb' : Nat → Int32} (V : zr_V w c P D B dl bf he de pr) (h1 : ∀ i, i < 7 → td' i = if (8 : Int32) ≤ dl i then 8 else dl i) (h2 : ∀ i, i < 7 → tb' i = bf i) :
    xt_C P B D td' tb' := by
  intro i hi'
  have g := zr_x (s := 8) V (by omega) h1 h2 i hi'
  have e : min (D i) 8 = D i := by
    have := zr_8 V i hi'
    omega
  dsimp only at g
  rw [e] at g
  exact g
end
/-! the constructors -/
def zi_I (x : Int32) (m n : Nat) : Prop := (1 ≤ x ∧ x ≤ nI m ∧ x = nI n) ∨ (1 ≤ x ∧ ¬ x ≤ nI m ∧ n = m) ∨ (¬ 1 ≤ x ∧ n = 1)
theorem zi_ex (x : Int32) {m : Nat} (hm : 1 ≤ m) (hm2 : m < 128) : ∃ n, 1 ≤ n ∧ n ≤ m ∧ zi_I x m n := by
  by_cases h1 : 1 ≤ x
  · by_cases h2 : x ≤ nI m
    · have h0 : ¬ x < 0 := by
        rw [Int32.lt_iff_toInt_lt]
        rw [Int32.le_iff_toInt_le] at h1
        have e0 : (0 : Int32).toInt = 0 := by decide
        have e1 : (1 : Int32).toInt = 1 := by decide
        omega
      obtain ⟨j, hj, e⟩ := nI_of h0
      have g1 : 1 ≤ j := by
        rw [e] at h1
        exact (nI_leI (a := 1) (by omega) hj).mp h1
      have g2 : j ≤ m := by
        rw [e] at h2
        exact (nI_leI hj (by omega)).mp h2
      exact ⟨j, g1, g2, Or.inl ⟨h1, h2, e⟩⟩
    · exact ⟨m, hm, Nat.le_refl _, Or.inr (Or.inl ⟨h1, h2, rfl⟩)⟩
  · exact ⟨1, Nat.le_refl _, hm, Or.inr (Or.inr ⟨h1, rfl⟩)⟩
theorem zi_x {post : Int32 → Prop} {x : Int32} {m n : Nat} (h : zi_I x m n) (hp : post (nI n)) : wpX_clamp post x (nI m) := by
  rcases h with ⟨h1, h2, e⟩ | ⟨h1, h2, e⟩ | ⟨h1, e⟩
  · exact br_t h1 (br_t h2 (by rw [e]; exact hp))
  · exact br_t h1 (br_f h2 (by rw [← e]; exact hp))
  · rw [e] at hp
    exact br_f h1 hp
theorem zi_y7 {post : SY → Prop} {x : Int32} {n m : Nat} (h : zi_I x 7 n) (hp : post (nI m, nI n, 0, (fun _ => 0), (fun _ => 0), (fun _ => 0), (fun _ => 0), (fun _ => 0), (fun _ => 0))) :
    wY_init_73 post x (nI m) 0 0 0 (fun _ => 0) (fun _ => 0) (fun _ => 0) (fun _ => 0) (fun _ => 0) (fun _ => 0) := by
  rcases h with ⟨h1, h2, e⟩ | ⟨h1, h2, e⟩ | ⟨h1, e⟩
  · exact br_t h1 (br_t h2 (by rw [e]; exact hp))
  · rw [e] at hp
    exact br_t h1 (br_f h2 hp)
  · rw [e] at hp
    exact br_f h1 hp
theorem zi_y {post : SY → Prop} {x y : Int32} {n m : Nat} (g : zi_I x 2 m) (h : zi_I y 7 n) (hp : post (nI m, nI n, 0, (fun _ => 0), (fun _ => 0), (fun _ => 0), (fun _ => 0), (fun _ => 0), (fun _ => 0))) :
    wpY_init post x y := by
  rcases g with ⟨h1, h2, e⟩ | ⟨h1, h2, e⟩ | ⟨h1, e⟩
  · subst e
    exact br_t h1 (br_t h2 (zi_y7 h hp))
  · rw [e] at hp
    exact br_t h1 (br_f h2 (zi_y7 (m := 2) h hp))
  · rw [e] at hp
    exact br_f h1 (zi_y7 (m := 1) h hp)
theorem i_vc0 (k0 : Int32) (k1 : Int32) : wpX_init (fun u => wpY_init (fun v => i_Rel 2 u v) k0 k1) k0 k1 := by
  obtain ⟨m, m1, m2, hm⟩ := zi_ex k0 (m := 2) (by omega) (by omega)
  obtain ⟨n, n1, n2, hn⟩ := zi_ex k1 (m := 7) (by omega) (by omega)
  unfold wpX_init
  refine zi_x hm (zi_x hn (zi_y hm hn ?_))
  refine zr_mk (P := 0) (D := fun _ => 0) (B := fun _ => 0) ⟨by omega, ⟨n1, n2⟩, Nat.two_pow_pos n, fun i hi => absurd hi (tb_n0 i), fun _ _ => rfl, fun j i h => absurd h (tb_n0 i), fun _ _ => rfl, ?_, ?_⟩
  · intro i _
    rw [if_neg (tb_n0 i)]
  · exact tp_G_E (tp_G_e m 0 _ _ _)
end
section
/-! tasks, deadline, linked, unlink, remove, span, tightest, earliest, slotOf, shortSlotOf -/
section
variable {w c P : Nat} {D B : Nat → Nat} {dl bf td tb sf : Nat → Int32} {fm fc fp yw yo yd : Int32} {he de pr lo hi ca : Nat → Int32}
theorem i_vc_tasks {k : Nat} {u : SX} {v : SY} (I : i_Rel k u v) (hk : k + 3 ≤ 1538) : wpX_tasks (fun r => wpY_tasks (fun r' => r' = r ∧ i_Rel (k + 3) u v) v) u := by
  obtain ⟨w, c, P, D, B, dl, bf, td, tb, sf, yd, he, de, pr, lo, hi, ca, rfl, rfl, V⟩ := I
  unfold wpX_tasks
  dsimp only
  exact ys_tasks (zr_H V) (zr_P V) ⟨rfl, zr_mk V⟩
theorem xm_dead0 {post : Int32 → Prop} {x : Int32} (hP : P < 128) (hn : tp_N P x) (hp : post (-1)) : wpX_deadline post (fm, fc, nI P, dl, bf, td, tb, sf) x := by
  unfold wpX_deadline
  dsimp only
  exact xs_task0 hP hn (br_t rfl hp)
theorem xm_dead1 {post : Int32 → Prop} {i : Nat} (hP : P < 128) (hi : P.testBit i = true) (hp : post (dl i)) : wpX_deadline post (fm, fc, nI P, dl, bf, td, tb, sf) (nI i) := by
  have h7 := tb_lt7 hP hi
  unfold wpX_deadline
  dsimp only
  exact xs_task1 hP h7 hi (br_f xs_10 ⟨xs_in h7, by rw [nI_clamp (by omega)]; exact hp⟩)
theorem ym_dead0 {post : Int32 → Prop} {x : Int32} (h : ys_H P he) (hn : tp_N P x) (hp : post (-1)) : wpY_deadline post (yw, yo, yd, he, de, pr, lo, hi, ca) x := by
  unfold wpY_deadline
  dsimp only
  exact ys_there0 h hn (br_t rfl hp)
theorem ym_dead1 {post : Int32 → Prop} {i : Nat} (hP : P < 128) (h : ys_H P he) (hi' : P.testBit i = true) (hp : post (de i)) : wpY_deadline post (yw, yo, yd, he, de, pr, lo, hi, ca) (nI i) := by
  have h7 := tb_lt7 hP hi'
  unfold wpY_deadline
  dsimp only
  exact ys_there1 h h7 hi' (br_f xs_10 ⟨xs_in h7, by rw [nI_clamp (by omega)]; exact hp⟩)
theorem i_vc_deadline {k : Nat} {u : SX} {v : SY} (I : i_Rel k u v) (hk : k + 3 ≤ 1538) (v1 : Int32) : wpX_deadline (fun r => wpY_deadline (fun r' => r' = r ∧ i_Rel (k + 3) u v) v v1) u v1 := by
  obtain ⟨w, c, P, D, B, dl, bf, td, tb, sf, yd, he, de, pr, lo, hi, ca, rfl, rfl, V⟩ := I
  rcases tp_NT P v1 with hn | ⟨i, h7, rfl, hi'⟩
  · exact xm_dead0 (zr_P V) hn (ym_dead0 (zr_H V) hn ⟨rfl, zr_mk V⟩)
  · obtain ⟨v1, v2, v3, v4, v5⟩ := V.2.2.2.1 i hi'
    exact xm_dead1 (zr_P V) hi' (ym_dead1 (zr_P V) (zr_H V) hi' ⟨by rw [v3, v4], zr_mk V⟩)
/-! linked -/
def zl_no (P : Nat) (B : Nat → Nat) (x y : Int32) : Prop := tp_N P x ∨ (∃ i, P.testBit i = true ∧ x = nI i ∧ (tp_N P y ∨ ∃ j, P.testBit j = true ∧ y = nI j ∧ ¬ (B j).testBit i = true))
theorem zl_ca (P : Nat) (B : Nat → Nat) (x y : Int32) : zl_no P B x y ∨ ∃ i j, P.testBit i = true ∧ P.testBit j = true ∧ x = nI i ∧ y = nI j ∧ (B j).testBit i = true := by
  rcases tp_NT P x with hn | ⟨i, h7, e, hi⟩
  · exact Or.inl (Or.inl hn)
  · rcases tp_NT P y with hn | ⟨j, h7', e', hj⟩
    · exact Or.inl (Or.inr ⟨i, hi, e, Or.inl hn⟩)
    · by_cases hb : (B j).testBit i = true
      · exact Or.inr ⟨i, j, hi, hj, e, e', hb⟩
      · exact Or.inl (Or.inr ⟨i, hi, e, Or.inr ⟨j, hj, e', hb⟩⟩)
theorem xm_ln0 {post : Int32 → Prop} {x y : Int32} (V : zr_V w c P D B dl bf he de pr) (hn : zl_no P B x y) (hp : post 0) : wpX_linked post (fm, fc, nI P, dl, bf, td, tb, sf) x y := by
  have hP := zr_P V
  unfold wpX_linked
  dsimp only
  rcases hn with hn | ⟨i, hi, e, hn⟩
  · exact xs_task0 hP hn (br_t rfl hp)
  · subst e
    have hi7 := tb_lt7 hP hi
    rcases hn with hn | ⟨j, hj, e, hb⟩
    · exact xs_task1 hP hi7 hi (br_f xs_10 (xs_task0 hP hn (br_t rfl hp)))
    · subst e
      have hj7 := tb_lt7 hP hj
      refine xs_task1 hP hi7 hi (br_f xs_10 (xs_task1 hP hj7 hj (br_f xs_10 ⟨xs_in hj7, ?_⟩)))
      rw [nI_clamp (by omega), (zr_b V j hj7).1]
      exact xs_has0 (zr_B V j) hi7 hb (br_t rfl hp)
theorem xm_ln1 {post : Int32 → Prop} {i j : Nat} (V : zr_V w c P D B dl bf he de pr) (hi : P.testBit i = true) (hj : P.testBit j = true) (hb : (B j).testBit i = true) (hp : post 1) :
    wpX_linked post (fm, fc, nI P, dl, bf, td, tb, sf) (nI i) (nI j) := by
  have hP := zr_P V
  have hi7 := tb_lt7 hP hi
  have hj7 := tb_lt7 hP hj
  unfold wpX_linked
  dsimp only
  refine xs_task1 hP hi7 hi (br_f xs_10 (xs_task1 hP hj7 hj (br_f xs_10 ⟨xs_in hj7, ?_⟩)))
  rw [nI_clamp (by omega), (zr_b V j hj7).1]
  exact xs_has1 (zr_B V j) hi7 hb (br_f xs_10 hp)
theorem ym_ln0 {post : Int32 → Prop} {x y : Int32} (hP : P < 128) (h : ys_H P he) (hpr : ∀ k, P.testBit k = true → pr k = nI (B k) ∧ B k < 128) (hn : zl_no P B x y) (hp : post 0) : wpY_linked post (yw, yo, yd, he, de, pr, lo, hi, ca) x y := by
  unfold wpY_linked
  dsimp only
  rcases hn with hn | ⟨i, hi, e, hn⟩
  · exact ys_there0 h hn (br_t rfl hp)
  · subst e
    have hi7 := tb_lt7 hP hi
    rcases hn with hn | ⟨j, hj, e, hb⟩
    · exact ys_there1 h hi7 hi (br_f xs_10 (ys_there0 h hn (br_t rfl hp)))
    · subst e
      have hj7 := tb_lt7 hP hj
      refine ys_there1 h hi7 hi (br_f xs_10 (ys_there1 h hj7 hj (br_f xs_10 ⟨xs_in hj7, br_f ?_ hp⟩)))
      rw [nI_clamp (by omega), (hpr j hj).1, tb_has _ (hpr j hj).2 i hi7, if_neg hb]
      decide
theorem ym_ln1 {post : Int32 → Prop} {i j : Nat} (hP : P < 128) (h : ys_H P he) (hpr : ∀ k, P.testBit k = true → pr k = nI (B k) ∧ B k < 128) (hi' : P.testBit i = true) (hj : P.testBit j = true) (hb : (B j).testBit i = true) (hp : post 1) :
    wpY_linked post (yw, yo, yd, he, de, pr, lo, hi, ca) (nI i) (nI j) := by
  have hi7 := tb_lt7 hP hi'
  have hj7 := tb_lt7 hP hj
  unfold wpY_linked
  dsimp only
  refine ys_there1 h hi7 hi' (br_f xs_10 (ys_there1 h hj7 hj (br_f xs_10 ⟨xs_in hj7, br_t ?_ hp⟩)))
  rw [nI_clamp (by omega), (hpr j hj).1, tb_has _ (hpr j hj).2 i hi7, if_pos hb]
theorem i_vc_linked {k : Nat} {u : SX} {v : SY} (I : i_Rel k u v) (hk : k + 3 ≤ 1538) (v1 : Int32) (v2 : Int32) : wpX_linked (fun r => wpY_linked (fun r' => r' = r ∧ i_Rel (k + 3) u v) v v1 v2) u v1 v2 := by
  obtain ⟨w, c, P, D, B, dl, bf, td, tb, sf, yd, he, de, pr, lo, hi, ca, rfl, rfl, V⟩ := I
  rcases zl_ca P B v1 v2 with hn | ⟨i, j, hi', hj, rfl, rfl, hb⟩
  · exact xm_ln0 V hn (ym_ln0 (zr_P V) (zr_H V) (zr_p V) hn ⟨rfl, zr_mk V⟩)
  · exact xm_ln1 V hi' hj hb (ym_ln1 (zr_P V) (zr_H V) (zr_p V) hi' hj hb ⟨rfl, zr_mk V⟩)
/-! unlink -/
theorem ym_un {post : Int32 → SY → Prop} {i j : Nat} (hP : P < 128) (h : ys_H P he) (hpr : ∀ k, P.testBit k = true → pr k = nI (B k) ∧ B k < 128) (hi' : P.testBit i = true) (hj : P.testBit j = true) (hb : (B j).testBit i = true)
    (hp : post 1 (yw, yo, yd, he, de, upd pr j (nI (tb_df (B j) (2 ^ i))), lo, hi, ca)) : wpY_unlink post (yw, yo, yd, he, de, pr, lo, hi, ca) (nI i) (nI j) := by
  have hi7 := tb_lt7 hP hi'
  have hj7 := tb_lt7 hP hj
  unfold wpY_unlink
  dsimp only
  refine ym_ln1 hP h hpr hi' hj hb (br_f xs_10 ⟨xs_in hj7, xs_in hj7, nm_r (e' := upd pr j (nI (tb_df (B j) (2 ^ i)))) ?_ hp⟩)
  rw [nI_clamp (by omega), (hpr j hj).1, tb_bit i hi7, tb_dif]
theorem xm_un {post : Int32 → SX → Prop} {i j : Nat} (V : zr_V w c P D B dl bf he de pr) (hi : P.testBit i = true) (hj : P.testBit j = true) (hb : (B j).testBit i = true)
    (hp : post 1 (fm, fc, nI P, dl, upd bf j (nI (tb_df (B j) (2 ^ i))), td, tb, sf)) : wpX_unlink post (fm, fc, nI P, dl, bf, td, tb, sf) (nI i) (nI j) := by
  have hP := zr_P V
  have hi7 := tb_lt7 hP hi
  have hj7 := tb_lt7 hP hj
  unfold wpX_unlink
  dsimp only
  refine xm_ln1 V hi hj hb (br_f xs_10 ⟨xs_in hj7, xs_in hj7, nm_r (e' := upd bf j (nI (tb_df (B j) (2 ^ i)))) ?_ hp⟩)
  rw [nI_clamp (by omega), (zr_b V j hj7).1, tb_bit i hi7, tb_dif]
theorem i_vc_unlink {k : Nat} {u : SX} {v : SY} (I : i_Rel k u v) (hk : k + 3 ≤ 1538) (v1 : Int32) (v2 : Int32) : wpX_unlink (fun r u' => wpY_unlink (fun r' v' => r' = r ∧ i_Rel (k + 3) u' v') v v1 v2) u v1 v2 := by
  obtain ⟨w, c, P, D, B, dl, bf, td, tb, sf, yd, he, de, pr, lo, hi, ca, rfl, rfl, V⟩ := I
  rcases zl_ca P B v1 v2 with hn | ⟨i, j, hi', hj, rfl, rfl, hb⟩
  · unfold wpX_unlink
    dsimp only
    refine xm_ln0 V hn (br_t rfl ?_)
    unfold wpY_unlink
    dsimp only
    exact ym_ln0 (zr_P V) (zr_H V) (zr_p V) hn (br_t rfl ⟨rfl, zr_mk V⟩)
  · refine xm_un V hi' hj hb (ym_un (zr_P V) (zr_H V) (zr_p V) hi' hj hb ⟨rfl, ?_⟩)
    have hsub : ∀ q a, (tp_up B j (tb_df (B j) (2 ^ i)) q).testBit a = true → (B q).testBit a = true := by
      intro q a
      by_cases e : q = j
      · rw [e, tp_us]
        exact fun h => ((tb_dm _ _ _).mp h).1
      · rw [tp_un B _ e]
        exact id
    refine zr_mk (D := D) (B := tp_up B j (tb_df (B j) (2 ^ i))) ⟨V.1, V.2.1, V.2.2.1, ?_, ?_, fun q a h => V.2.2.2.2.2.1 q a (hsub q a h), ?_, zr_H V, ?_⟩
    · intro q hq
      obtain ⟨v1, v2, v3, v4, v5⟩ := V.2.2.2.1 q hq
      refine ⟨v1, v2, v3, v4, ?_⟩
      by_cases e : q = j
      · rw [e, pk_us, tp_us]
      · rw [pk_un e, tp_un B _ e]; exact v5
    · intro q hq
      by_cases e : q = j
      · rw [e, pk_us, tp_us]
      · rw [pk_un e, tp_un B _ e]; exact V.2.2.2.2.1 q hq
    · intro q hq
      have ne : q ≠ j := fun e => hq (by rw [e]; exact hj)
      rw [tp_un B _ ne]
      exact V.2.2.2.2.2.2.1 q hq
    · obtain ⟨s, hF⟩ := zr_E V
      exact ⟨s, tp_F_mono (fun _ h => h) (fun q _ a _ h => hsub q a h) (fun _ _ => Nat.le_refl _) (fun _ _ => Nat.le_refl _) hF⟩
/-! remove -/
theorem xm_rl {post : Int32 → SX → Prop} {k : Nat} (hk : k < 7)
    (hp : ∀ bf' : Nat → Int32, (∀ i, i < 7 → bf' i = bf i &&& (nI (2 ^ k) ^^^ (-1))) → post 1 (fm, fc, fp, dl, bf', td, tb, sf)) :
    ∀ d j, ∀ bf1 : Nat → Int32, j + d = 7 → (∀ i, i < j → bf1 i = bf i &&& (nI (2 ^ k) ^^^ (-1))) → (∀ i, j ≤ i → bf1 i = bf i) →
      wX_remove_33 post (nI k) fm fc fp (d + 1) (nI j) dl bf1 td tb sf := by
  intro d
  induction d with
  | zero =>
    intro j bf1 hj h1 h2
    have e : j = 7 := by omega
    subst e
    exact br_t xs_77 (hp bf1 h1)
  | succ d ih =>
    intro j bf1 hj h1 h2
    have h7 : j < 7 := by omega
    refine br_f (xs_7 h7) ⟨xs_in h7, xs_in h7, nm_e (nm_r (nI_1 j) (ih (j + 1) _ (by omega) ?_ ?_))⟩
    · rw [nI_clamp (by omega), tb_bit k hk]
      intro i hi'
      by_cases e : i = j
      · rw [e, pk_us, h2 j (Nat.le_refl _)]
      · rw [pk_un e]; exact h1 i (by omega)
    · rw [nI_clamp (by omega)]
      intro i hi'
      rw [pk_un (by omega)]
      exact h2 i (by omega)
theorem i_vc_remove {k : Nat} {u : SX} {v : SY} (I : i_Rel k u v) (hk : k + 3 ≤ 1538) (v1 : Int32) : wpX_remove (fun r u' => wpY_remove (fun r' v' => r' = r ∧ i_Rel (k + 3) u' v') v v1) u v1 := by
  obtain ⟨w, c, P, D, B, dl, bf, td, tb, sf, yd, he, de, pr, lo, hi, ca, rfl, rfl, V⟩ := I
  have hP := zr_P V
  rcases tp_NT P v1 with hn | ⟨i, h7, rfl, hi'⟩
  · unfold wpX_remove
    dsimp only
    refine xs_task0 hP hn (br_t rfl ?_)
    unfold wpY_remove
    dsimp only
    exact ys_there0 (zr_H V) hn (br_t rfl ⟨rfl, zr_mk V⟩)
  · unfold wpX_remove
    dsimp only
    refine xs_task1 hP h7 hi' (br_f xs_10 (nm_r (e' := nI (tb_df P (2 ^ i))) (by rw [tb_bit i h7, tb_dif]) ⟨xs_in h7, nm_e ⟨8, xm_rl h7 (fun bf' hbf => ?_) 7 0 _ rfl (fun i h => absurd h (Nat.not_lt_zero i)) (fun _ _ => rfl)⟩⟩))
    refine yl_rm h7 (zr_H V) hi' (fun he' pr' hH hpr => ⟨rfl, ?_⟩)
    rw [nI_clamp (by omega)] at hbf
    have hsub : ∀ q a, ((fun q => if q = i then 0 else tb_df (B q) (2 ^ i)) q).testBit a = true → (B q).testBit a = true ∧ a ≠ i := by
      intro q a
      dsimp only
      by_cases e : q = i
      · rw [if_pos e]
        exact fun h => absurd h (tb_n0 a)
      · rw [if_neg e]
        exact fun h => (tb_d1 _ _ _).mp h
    refine zr_mk (D := D) (B := fun q => if q = i then 0 else tb_df (B q) (2 ^ i)) ⟨V.1, V.2.1, Nat.lt_of_le_of_lt (tb_dle _ _) V.2.2.1, ?_, ?_, ?_, ?_, hH, ?_⟩
    · intro q hq
      obtain ⟨hq1, hq2⟩ := (tb_d1 _ _ _).mp hq
      obtain ⟨v1, v2, v3, v4, v5⟩ := V.2.2.2.1 q hq1
      refine ⟨v1, v2, v3, v4, ?_⟩
      rw [hpr q (tb_lt7 hP hq1), v5, tb_dif]
      dsimp only
      rw [if_neg hq2]
    · intro q hq
      rw [hbf q hq]
      dsimp only
      by_cases e : q = i
      · rw [e, pk_us, if_pos rfl, ← nI_0, tb_dif]
        congr 1
        exact tb_df0.mpr (fun a h => absurd h (tb_n0 a))
      · rw [pk_un e, if_neg e, V.2.2.2.2.1 q hq, tb_dif]
    · intro q a h
      have g := hsub q a h
      exact (tb_d1 _ _ _).mpr ⟨V.2.2.2.2.2.1 q a g.1, g.2⟩
    · intro q hq
      dsimp only
      by_cases e : q = i
      · rw [if_pos e]
      · rw [if_neg e]
        have h0 : B q = 0 := V.2.2.2.2.2.2.1 q (fun h => hq ((tb_d1 _ _ _).mpr ⟨h, e⟩))
        rw [h0]
        exact tb_df0.mpr (fun a h => absurd h (tb_n0 a))
    · obtain ⟨s, hF⟩ := zr_E V
      exact ⟨s, tp_F_mono (fun a h => ((tb_d1 _ _ _).mp h).1) (fun q _ a _ h => (hsub q a h).1) (fun _ _ => Nat.le_refl _) (fun _ _ => Nat.le_refl _) hF⟩
end
end
section
/-! span, tightest, earliest, slotOf, shortSlotOf -/
section
variable {w c P : Nat} {D B : Nat → Nat} {dl bf td tb sf : Nat → Int32} {fm fc fp yw yo yd : Int32} {he de pr lo hi ca : Nat → Int32}
theorem zq_Tu {x y : Nat} (h : tp_T w B D P x) (g : tp_T w B D P y) : x = y := by
  rcases h with h | h
  · rcases g with g | g
    · omega
    · exact absurd g.2.1 (h.2 y)
  · rcases g with g | g
    · exact absurd h.2.1 (g.2 x)
    · have h1 := h.2.2 y g.2.1
      have h2 := g.2.2 x h.2.1
      omega
theorem xq_span {post : Int32 → SX → Prop} (V : zr_V w c P D B dl bf he de pr) (hp : ∀ x (td' tb' sf' : Nat → Int32), tp_T w B D P x → post (nI x) (nI w, nI c, nI P, dl, bf, td', tb', sf')) :
    wpX_span post (nI w, nI c, nI P, dl, bf, td, tb, sf) := by
  unfold wpX_span
  dsimp only
  refine xs_start (fun td' tb' h1 h2 => ?_)
  exact xt_ts V.1 (zr_P V) (zr_x8 V h1 h2) (zr_C V) (fun x sf' hx => hp x td' tb' sf' hx)
theorem yq_span {post : Int32 → SY → Prop} (V : zr_V w c P D B dl bf he de pr) (hp : ∀ x (lo' hi' ca' : Nat → Int32), tp_T w B D P x → post (nI x) (nI w, yo, nI x, he, de, pr, lo', hi', ca')) :
    wpY_span post (nI w, yo, yd, he, de, pr, lo, hi, ca) := by
  unfold wpY_span
  dsimp only
  refine yf_good V.1 (zr_P V) (zr_H V) (zr_y V) (zr_C V) (fun r fd' lo' hi' ca' hr => ?_)
  rcases hr with ⟨_, _, x, hx, e, g1, g2⟩ | ⟨_, hn⟩
  · subst e
    exact hp x lo' hi' ca' (Or.inr ⟨hx, g1, g2⟩)
  · exact absurd (zr_E V) hn
theorem i_vc_span {k : Nat} {u : SX} {v : SY} (I : i_Rel k u v) (hk : k + 3 ≤ 1538) : wpX_span (fun r u' => wpY_span (fun r' v' => r' = r ∧ i_Rel (k + 3) u' v') v) u := by
  obtain ⟨w, c, P, D, B, dl, bf, td, tb, sf, yd, he, de, pr, lo, hi, ca, rfl, rfl, V⟩ := I
  exact xq_span V (fun x td' tb' sf' hx => yq_span V (fun y lo' hi' ca' hy => ⟨by rw [zq_Tu hx hy], zr_mk V⟩))
/-! tightest, earliest -/
theorem xq_t0 {post : Int32 → SX → Prop} {x : Int32} (hP : P < 128) (hn : tp_N P x) (hp : post (-1) (fm, fc, nI P, dl, bf, td, tb, sf)) : wpX_tightest post (fm, fc, nI P, dl, bf, td, tb, sf) x := by
  unfold wpX_tightest
  dsimp only
  exact xs_task0 hP hn (br_t rfl hp)
theorem xq_t1 {post : Int32 → SX → Prop} {i : Nat} (V : zr_V w c P D B dl bf he de pr) (hi' : P.testBit i = true)
    (hp : ∀ d (td' tb' sf' : Nat → Int32), tp_D w B D P i d → post (nI d) (nI w, nI c, nI P, dl, bf, td', tb', sf')) : wpX_tightest post (nI w, nI c, nI P, dl, bf, td, tb, sf) (nI i) := by
  have hP := zr_P V
  unfold wpX_tightest
  dsimp only
  refine xs_task1 hP (tb_lt7 hP hi') hi' (br_f xs_10 (xs_start (fun td' tb' h1 h2 => ?_)))
  exact xt_tt V.1 hP hi' (zr_C V) (zr_E V) (zr_x8 V h1 h2) (fun d td'' sf' hd _ => hp d td'' tb' sf' hd)
theorem zq_de {de' : Nat → Int32} {i : Nat} (V : zr_V w c P D B dl bf he de pr) (h1 : ∀ q, q ≠ i → de' q = de q) (h2 : de' i = nI (D i)) : zr_V w c P D B dl bf he de' pr := by
  refine ⟨V.1, V.2.1, V.2.2.1, ?_, V.2.2.2.2⟩
  intro q hq
  obtain ⟨v1, v2, v3, v4, v5⟩ := V.2.2.2.1 q hq
  refine ⟨v1, v2, v3, ?_, v5⟩
  by_cases e : q = i
  · rw [e]; exact h2
  · rw [h1 q e]; exact v4
theorem i_vc_tightest {k : Nat} {u : SX} {v : SY} (I : i_Rel k u v) (hk : k + 3 ≤ 1538) (v1 : Int32) : wpX_tightest (fun r u' => wpY_tightest (fun r' v' => r' = r ∧ i_Rel (k + 3) u' v') v v1) u v1 := by
  obtain ⟨w, c, P, D, B, dl, bf, td, tb, sf, yd, he, de, pr, lo, hi, ca, rfl, rfl, V⟩ := I
  rcases tp_NT P v1 with hn | ⟨i, h7, rfl, hi'⟩
  · refine xq_t0 (zr_P V) hn ?_
    unfold wpY_tightest
    dsimp only
    exact ys_there0 (zr_H V) hn (br_t rfl ⟨rfl, zr_mk V⟩)
  · exact xq_t1 V hi' (fun d td' tb' sf' hd => yl_tight V.1 (zr_P V) hi' (zr_H V) (zr_C V) (zr_E V) hd (zr_y V) (fun fd' de' lo' hi'' ca' h1 h2 => ⟨rfl, zr_mk (zq_de V h1 h2)⟩))
theorem i_vc_earliest {k : Nat} {u : SX} {v : SY} (I : i_Rel k u v) (hk : k + 3 ≤ 1538) (v1 : Int32) : wpX_earliest (fun r u' => wpY_earliest (fun r' v' => r' = r ∧ i_Rel (k + 3) u' v') v v1) u v1 := by
  obtain ⟨w, c, P, D, B, dl, bf, td, tb, sf, yd, he, de, pr, lo, hi, ca, rfl, rfl, V⟩ := I
  have hP := zr_P V
  rcases tp_NT P v1 with hn | ⟨i, h7, rfl, hi'⟩
  · unfold wpX_earliest
    dsimp only
    refine xs_task0 hP hn (br_t rfl ?_)
    unfold wpY_earliest
    dsimp only
    exact ys_there0 (zr_H V) hn (br_t rfl ⟨rfl, zr_mk V⟩)
  · unfold wpX_earliest
    dsimp only
    refine xs_task1 hP h7 hi' (br_f xs_10 (xq_t1 V hi' (fun d td' tb' sf' hd => ?_)))
    unfold wpY_earliest
    dsimp only
    refine ys_there1 (zr_H V) h7 hi' (br_f xs_10 (ys_ask (fun lo' hi'' h1 h2 => ?_)))
    refine yl_settle (L := fun _ => 0) V.1 hP hi' (zr_H V) (zr_C V) (zr_E V) hd (fun _ _ _ _ => Nat.zero_le _) (yf_C8 (zr_y V) (yf_aC (s := 8) hP (by omega) (by omega) (zr_y V) h1 h2)) (fun fd' lo2 hi2 ca' _ => ⟨?_, zr_mk V⟩)
    exact (xl_s1 (tp_D_pos hi' hd)).symm
/-! slotOf, shortSlotOf -/
theorem xq_f0 {post : Int32 → SX → Prop} {x s : Int32} (hP : P < 128) (hn : tp_N P x) (hp : post (-1) (fm, fc, nI P, dl, bf, td, tb, sf)) : wpX_firstSlot post (fm, fc, nI P, dl, bf, td, tb, sf) x s := by
  unfold wpX_firstSlot
  dsimp only
  exact xs_task0 hP hn (br_t rfl hp)
theorem xq_f1 {post : Int32 → SX → Prop} {i s : Nat} (V : zr_V w c P D B dl bf he de pr) (hi' : P.testBit i = true) (hs : s ≤ 8) (hE : tp_E w B (fun _ => 0) (fun q => min (D q) s) P)
    (hp : ∀ (H : Nat → Nat) (td' tb' sf' : Nat → Int32), tp_P w B P (fun q => min (D q) s) (i + 1) H → post (nI (H i - 1)) (nI w, nI c, nI P, dl, bf, td', tb', sf')) :
    wpX_firstSlot post (nI w, nI c, nI P, dl, bf, td, tb, sf) (nI i) (nI s) := by
  have hP := zr_P V
  unfold wpX_firstSlot
  dsimp only
  refine xs_task1 hP (tb_lt7 hP hi') hi' (br_f xs_10 (xs_start (fun td' tb' h1 h2 => ?_)))
  refine ⟨i + 1 + 1, xl_fsl V.1 hP hi' (zr_C V) hE (fun q hq => ?_) (fun H td'' sf' hH => hp H td'' tb' sf' hH) (i + 1) 0 _ td' sf (-1) (by omega) rfl (zr_x V hs h1 h2) (fun e => by omega)⟩
  have := zr_8 V q hq
  show min (D q) s ≤ 8
  omega
theorem yq_all {post : Int32 → SY → Prop} {i s : Nat} (V : zr_V w c P D B dl bf he de pr) (hi' : P.testBit i = true) (h1 : 1 ≤ s) (hs : s ≤ 8) (hE : tp_E w B (fun _ => 0) (fun q => min (D q) s) P)
    (hp : ∀ (H : Nat → Nat) (fd' : Int32) (lo' hi' ca' : Nat → Int32), tp_P w B P (fun q => min (D q) s) (i + 1) H → post (nI (H i - 1)) (nI w, yo, fd', he, de, pr, lo', hi', ca')) :
    wpY_ask (fun u => wpY_settleAll post u (nI i)) (nI w, yo, yd, he, de, pr, lo, hi, ca) (nI s) := by
  refine ys_ask (fun lo' hi'' g1 g2 => ?_)
  exact yl_all V.1 (zr_P V) hi' (zr_H V) (zr_C V) hE (yf_aC (zr_P V) h1 hs (zr_y V) g1 g2) hp
theorem zq_8 (V : zr_V w c P D B dl bf he de pr) : tp_E w B (fun _ => 0) (fun q => min (D q) 8) P := by
  obtain ⟨s, hF⟩ := zr_E V
  refine ⟨s, fun i hi' => ⟨Nat.zero_le _, ?_⟩, hF.2⟩
  have h1 := (hF.1 i hi').2
  have h2 := zr_8 V i hi'
  show s i < min (D i) 8
  omega
theorem zq_x {x i : Nat} (V : zr_V w c P D B dl bf he de pr) (hi' : P.testBit i = true) (hx : tp_T w B D P x) : 1 ≤ x ∧ x ≤ 8 ∧ tp_E w B (fun _ => 0) (fun q => min (D q) x) P := by
  rcases hx with ⟨_, hno⟩ | ⟨h8, hg, _⟩
  · exact absurd (tp_E_G (t := 8) (zr_8 V) (zr_C V) (zr_E V)) (hno 8)
  · have h0 : x ≠ 0 := by
      intro e
      rw [e] at hg
      refine tp_G_0 ?_ hg
      intro e2
      rw [e2] at hi'
      exact tb_n0 i hi'
    obtain ⟨s, hF, ht, _⟩ := hg
    refine ⟨by omega, h8, s, fun q hq => ⟨Nat.zero_le _, ?_⟩, hF.2⟩
    have h1 := (hF.1 q hq).2
    have h2 := ht q hq
    show s q < min (D q) x
    omega
theorem i_vc_slotOf {k : Nat} {u : SX} {v : SY} (I : i_Rel k u v) (hk : k + 3 ≤ 1538) (v1 : Int32) : wpX_slotOf (fun r u' => wpY_slotOf (fun r' v' => r' = r ∧ i_Rel (k + 3) u' v') v v1) u v1 := by
  obtain ⟨w, c, P, D, B, dl, bf, td, tb, sf, yd, he, de, pr, lo, hi, ca, rfl, rfl, V⟩ := I
  have hP := zr_P V
  rcases tp_NT P v1 with hn | ⟨i, h7, rfl, hi'⟩
  · unfold wpX_slotOf
    dsimp only
    refine xq_f0 hP hn ?_
    unfold wpY_slotOf
    dsimp only
    exact ys_there0 (zr_H V) hn (br_t rfl ⟨rfl, zr_mk V⟩)
  · unfold wpX_slotOf
    dsimp only
    refine xq_f1 (s := 8) V hi' (by omega) (zq_8 V) (fun H td' tb' sf' hH => ?_)
    unfold wpY_slotOf
    dsimp only
    refine ys_there1 (zr_H V) h7 hi' (br_f xs_10 ?_)
    refine yq_all (s := 8) V hi' (by omega) (by omega) (zq_8 V) (fun H' fd' lo' hi'' ca' hH' => ⟨?_, zr_mk V⟩)
    rw [tp_P_u hH hH']
theorem i_vc_shortSlotOf {k : Nat} {u : SX} {v : SY} (I : i_Rel k u v) (hk : k + 3 ≤ 1538) (v1 : Int32) : wpX_shortSlotOf (fun r u' => wpY_shortSlotOf (fun r' v' => r' = r ∧ i_Rel (k + 3) u' v') v v1) u v1 := by
  obtain ⟨w, c, P, D, B, dl, bf, td, tb, sf, yd, he, de, pr, lo, hi, ca, rfl, rfl, V⟩ := I
  have hP := zr_P V
  unfold wpX_shortSlotOf
  dsimp only
  refine xq_span V (fun x td' tb' sf' hx => ?_)
  rcases tp_NT P v1 with hn | ⟨i, h7, rfl, hi'⟩
  · refine xq_f0 hP hn ?_
    unfold wpY_shortSlotOf
    dsimp only
    exact ys_there0 (zr_H V) hn (br_t rfl ⟨rfl, zr_mk V⟩)
  · obtain ⟨x1, x8, xE⟩ := zq_x V hi' hx
    refine xq_f1 (s := x) V hi' x8 xE (fun H td' tb' sf' hH => ?_)
    unfold wpY_shortSlotOf
    dsimp only
    refine ys_there1 (zr_H V) h7 hi' (br_f xs_10 (yq_span V (fun y lo' hi'' ca' hy => ?_)))
    rw [← zq_Tu hx hy]
    refine yq_all (s := x) V hi' x1 x8 xE (fun H' fd' lo' hi'' ca' hH' => ⟨?_, zr_mk V⟩)
    rw [tp_P_u hH hH']
end
end
section
/-! setDeadline, link, couldPrecede -/
section
variable {w c P : Nat} {D B : Nat → Nat} {dl bf td tb sf : Nat → Int32} {fm fc fp yw yo yd : Int32} {he de pr lo hi ca : Nat → Int32}
def zd_bad (d : Int32) : Prop := d < 1 ∨ 8 < d
theorem zd_ca (d : Int32) : zd_bad d ∨ ∃ q, 1 ≤ q ∧ q ≤ 8 ∧ d = nI q := by
  by_cases h1 : d < 1
  · exact Or.inl (Or.inl h1)
  · by_cases h2 : 8 < d
    · exact Or.inl (Or.inr h2)
    · have g1 : 1 ≤ d := Int32.not_lt.mp h1
      have g2 : d ≤ nI 8 := Int32.not_lt.mp h2
      obtain ⟨n, n1, n2, hn⟩ := zi_ex d (m := 8) (by omega) (by omega)
      rcases hn with ⟨_, _, e⟩ | ⟨_, h, _⟩ | ⟨h, _⟩
      · exact Or.inr ⟨n, n1, n2, e⟩
      · exact absurd g2 h
      · exact absurd g1 h
theorem xd_0 {post : Int32 → Prop} {d : Int32} (h : zd_bad d) (hp : post 0) : wpX_isDeadline post d := by
  by_cases h1 : d < 1
  · exact br_t h1 hp
  · exact br_f h1 (br_t (h.resolve_left h1) hp)
theorem zd_1 {q : Nat} (h1 : 1 ≤ q) (h8 : q ≤ 8) : ¬ nI q < 1 := nI_nlt (b := 1) h1 (by omega)
theorem zd_8 {q : Nat} (h8 : q ≤ 8) : ¬ 8 < nI q := nI_nlt (a := 8) h8 (by decide)
theorem zd_l {q : Nat} (h8 : q ≤ 8) : nI q ≤ 8 := nI_le (b := 8) h8 (by decide)
theorem xd_1 {post : Int32 → Prop} {q : Nat} (h1 : 1 ≤ q) (h8 : q ≤ 8) (hp : post 1) : wpX_isDeadline post (nI q) := br_f (zd_1 h1 h8) (br_f (zd_8 h8) hp)
theorem zk_upC {td1 : Nat → Int32} {i q : Nat} (h8 : q ≤ 8) (h : xt_C P B D td1 tb) : xt_C P B (tp_up D i q) (upd td1 i (nI q)) tb := by
  intro a ha
  obtain ⟨c1, c2, c3⟩ := h a ha
  by_cases e : a = i
  · rw [e, pk_us, tp_us]
    rw [e] at c3
    exact ⟨rfl, h8, c3⟩
  · rw [pk_un e, tp_un D _ e]
    exact ⟨c1, c2, c3⟩
theorem xk_set {post : Int32 → SX → Prop} {i q : Nat} (V : zr_V w c P D B dl bf he de pr) (hi' : P.testBit i = true) (h1 : 1 ≤ q) (h8 : q ≤ 8)
    (hp1 : tp_E w B (fun _ => 0) (tp_up D i q) P → ∀ td' tb' sf' : Nat → Int32, post 0 (nI w, nI c, nI P, upd dl i (nI q), bf, td', tb', sf'))
    (hp0 : ¬ tp_E w B (fun _ => 0) (tp_up D i q) P → ∀ td' tb' sf' : Nat → Int32, post (-3) (nI w, nI c, nI P, dl, bf, td', tb', sf')) :
    wpX_setDeadline post (nI w, nI c, nI P, dl, bf, td, tb, sf) (nI i) (nI q) := by
  have hP := zr_P V
  have h7 := tb_lt7 hP hi'
  have ec : (nI i).toNatClampNeg = i := nI_clamp (by omega)
  unfold wpX_setDeadline
  dsimp only
  refine xs_task1 hP h7 hi' (br_f xs_10 (xd_1 h1 h8 (br_f xs_10 (xs_start (fun td' tb' g1 g2 => ⟨xs_in h7, ?_⟩)))))
  rw [ec]
  have hC := zk_upC (i := i) h8 (zr_x8 V g1 g2)
  refine nm_e (xt_ts V.1 hP hC (zr_C V) (fun x sf' hx => ?_))
  have hE := tp_TE (fun a ha => (hC a ha).2.1) (zr_C V) hx
  have h100 := xt_100 (tp_Tx hx)
  by_cases h : x = 100
  · exact br_t (h100.mpr h) (hp0 (fun e => hE.mpr e h) _ _ _)
  · exact br_f (fun e => h (h100.mp e)) ⟨xs_in h7, nm_e (hp1 (hE.mp h) _ _ _)⟩
theorem zk_upV {i q : Nat} (h1 : 1 ≤ q) (h8 : q ≤ 8) (h : yf_V P B D de pr) : yf_V P B (tp_up D i q) (upd de i (nI q)) pr := by
  intro a ha
  obtain ⟨v1, v2, v3, v4, v5⟩ := h a ha
  by_cases e : a = i
  · rw [e, pk_us, tp_us]
    rw [e] at v4 v5
    exact ⟨h1, h8, rfl, v4, v5⟩
  · rw [pk_un e, tp_un D _ e]
    exact ⟨v1, v2, v3, v4, v5⟩
theorem yk_set {post : Int32 → SY → Prop} {i q : Nat} (V : zr_V w c P D B dl bf he de pr) (hi' : P.testBit i = true) (h1 : 1 ≤ q) (h8 : q ≤ 8)
    (hp1 : tp_E w B (fun _ => 0) (tp_up D i q) P → ∀ (fd' : Int32) (lo' hi' ca' : Nat → Int32), post 0 (nI w, yo, fd', he, upd de i (nI q), pr, lo', hi', ca'))
    (hp0 : ¬ tp_E w B (fun _ => 0) (tp_up D i q) P → ∀ (fd' : Int32) (lo' hi' ca' : Nat → Int32), post (-3) (nI w, yo, fd', he, upd (upd de i (nI q)) i (de i), pr, lo', hi', ca')) :
    wpY_setDeadline post (nI w, yo, yd, he, de, pr, lo, hi, ca) (nI i) (nI q) := by
  have hP := zr_P V
  have h7 := tb_lt7 hP hi'
  have ec : (nI i).toNatClampNeg = i := nI_clamp (by omega)
  unfold wpY_setDeadline
  dsimp only
  rw [ec]
  refine ys_there1 (zr_H V) h7 hi' (br_f xs_10 (br_f (zd_1 h1 h8) (br_t (zd_l h8) ⟨xs_in h7, nm_e ⟨xs_in h7, nm_e (yf_good V.1 hP (zr_H V) (zk_upV h1 h8 (zr_y V)) (zr_C V) (fun r fd' lo' hi'' ca' hr => ?_))⟩⟩)))
  rcases hr with ⟨er, hE, _⟩ | ⟨er, hE⟩
  · exact br_f (by rw [er]; decide) (hp1 hE _ _ _ _)
  · exact br_t er ⟨xs_in h7, nm_e (hp0 hE _ _ _ _)⟩
theorem i_vc_setDeadline {k : Nat} {u : SX} {v : SY} (I : i_Rel k u v) (hk : k + 3 ≤ 1538) (v1 : Int32) (v2 : Int32) : wpX_setDeadline (fun r u' => wpY_setDeadline (fun r' v' => r' = r ∧ i_Rel (k + 3) u' v') v v1 v2) u v1 v2 := by
  obtain ⟨w, c, P, D, B, dl, bf, td, tb, sf, yd, he, de, pr, lo, hi, ca, rfl, rfl, V⟩ := I
  have hP := zr_P V
  rcases tp_NT P v1 with hn | ⟨i, h7, rfl, hi'⟩
  · unfold wpX_setDeadline
    dsimp only
    refine xs_task0 hP hn (br_t rfl ?_)
    unfold wpY_setDeadline
    dsimp only
    exact ys_there0 (zr_H V) hn (br_t rfl ⟨rfl, zr_mk V⟩)
  · rcases zd_ca v2 with hb | ⟨q, h1, h8, rfl⟩
    · unfold wpX_setDeadline
      dsimp only
      refine xs_task1 hP h7 hi' (br_f xs_10 (xd_0 hb (br_t rfl ?_)))
      unfold wpY_setDeadline
      dsimp only
      refine ys_there1 (zr_H V) h7 hi' (br_f xs_10 ?_)
      by_cases g : v2 < 1
      · exact br_t g ⟨rfl, zr_mk V⟩
      · exact br_f g (br_f (fun h => absurd (hb.resolve_left g) (Int32.not_lt.mpr h)) ⟨rfl, zr_mk V⟩)
    · refine xk_set V hi' h1 h8 (fun hE td' tb' sf' => yk_set V hi' h1 h8 (fun _ fd' lo' hi'' ca' => ⟨rfl, ?_⟩) (fun hn => absurd hE hn))
        (fun hE td' tb' sf' => yk_set V hi' h1 h8 (fun h => absurd h hE) (fun _ fd' lo' hi'' ca' => ⟨rfl, ?_⟩))
      · refine zr_mk (D := tp_up D i q) ⟨V.1, V.2.1, V.2.2.1, ?_, V.2.2.2.2.1, V.2.2.2.2.2.1, V.2.2.2.2.2.2.1, zr_H V, hE⟩
        intro a ha
        obtain ⟨v1, v2, v3, v4, v5⟩ := V.2.2.2.1 a ha
        by_cases e : a = i
        · rw [e, pk_us, pk_us, tp_us]
          rw [e] at v5
          exact ⟨h1, h8, rfl, rfl, v5⟩
        · rw [pk_un e, pk_un e, tp_un D _ e]
          exact ⟨v1, v2, v3, v4, v5⟩
      · refine zr_mk (zq_de (i := i) V (fun a ha => by rw [pk_un ha, pk_un ha]) ?_)
        rw [pk_us]
        exact (V.2.2.2.1 i hi').2.2.2.1
/-! link -/
theorem zk_in {i j : Nat} (V : zr_V w c P D B dl bf he de pr) (hi' : P.testBit i = true) : ∀ q a, (tp_up B j (B j ||| 2 ^ i) q).testBit a = true → P.testBit a = true := by
  intro q a h
  by_cases e : q = j
  · rw [e, tp_us] at h
    rcases (tb_o1 _ _ _).mp h with g | g
    · exact V.2.2.2.2.2.1 j a g
    · rw [g]; exact hi'
  · rw [tp_un B _ e] at h
    exact V.2.2.2.2.2.1 q a h
theorem xk_bad {post : Int32 → SX → Prop} {x y : Int32} (hP : P < 128) (h : tp_N P x ∨ tp_N P y ∨ x = y) (hp : post (-1) (fm, fc, nI P, dl, bf, td, tb, sf)) : wpX_answerToLink post (fm, fc, nI P, dl, bf, td, tb, sf) x y := by
  unfold wpX_answerToLink
  dsimp only
  rcases tp_NT P x with hn | ⟨i, h7, rfl, hi'⟩
  · exact xs_task0 hP hn (br_t rfl hp)
  · rcases tp_NT P y with hn | ⟨j, h7', rfl, hj⟩
    · exact xs_task1 hP h7 hi' (br_f xs_10 (xs_task0 hP hn (br_t rfl hp)))
    · by_cases e : nI i = nI j
      · exact xs_task1 hP h7 hi' (br_f xs_10 (xs_task1 hP h7' hj (br_f xs_10 (br_t e hp))))
      · have no : ∀ k, k < 7 → P.testBit k = true → ¬ tp_N P (nI k) := by
          intro k hk hb hN
          rcases hN with h | h | ⟨k', hk', e', hb'⟩
          · exact nI_pos (by omega) h
          · exact xs_7 hk h
          · have : k = k' := (nI_eq (by omega) (by omega)).mp e'
            exact hb' (this ▸ hb)
        rcases h with h | h | h
        · exact absurd h (no i h7 hi')
        · exact absurd h (no j h7' hj)
        · exact absurd h e
theorem xk_atl {post : Int32 → SX → Prop} {i j : Nat} (V : zr_V w c P D B dl bf he de pr) (hi' : P.testBit i = true) (hj : P.testBit j = true) (hij : i ≠ j)
    (hp1 : (B j).testBit i = true → post 0 (nI w, nI c, nI P, dl, bf, td, tb, sf))
    (hp2 : ¬ (B j).testBit i = true → tp_K B j i → post (-4) (nI w, nI c, nI P, dl, bf, td, tb, sf))
    (hp3 : ¬ (B j).testBit i = true → ¬ tp_K B j i → tp_E w (tp_up B j (B j ||| 2 ^ i)) (fun _ => 0) D P → ∀ td' tb' sf' : Nat → Int32, post 0 (nI w, nI c, nI P, dl, bf, td', tb', sf'))
    (hp4 : ¬ (B j).testBit i = true → ¬ tp_K B j i → ¬ tp_E w (tp_up B j (B j ||| 2 ^ i)) (fun _ => 0) D P → ∀ td' tb' sf' : Nat → Int32, post (-3) (nI w, nI c, nI P, dl, bf, td', tb', sf')) :
    wpX_answerToLink post (nI w, nI c, nI P, dl, bf, td, tb, sf) (nI i) (nI j) := by
  have hP := zr_P V
  have h7 := tb_lt7 hP hi'
  have h7' := tb_lt7 hP hj
  have ec : (nI j).toNatClampNeg = j := nI_clamp (by omega)
  have hne : ¬ nI i = nI j := fun e => hij ((nI_eq (by omega) (by omega)).mp e)
  unfold wpX_answerToLink
  dsimp only
  refine xs_task1 hP h7 hi' (br_f xs_10 (xs_task1 hP h7' hj (br_f xs_10 (br_f hne ⟨xs_in h7', ?_⟩))))
  rw [ec, (zr_b V j h7').1]
  by_cases hb : (B j).testBit i = true
  · exact xs_has1 (zr_B V j) h7 hb (br_f xs_10 (hp1 hb))
  · refine xs_has0 (zr_B V j) h7 hb (br_t rfl (xl_ab (B := B) hP hi' (zr_C V) (zr_E V) (zr_8 V) (zr_b V) (fun S hS hK => ?_)))
    by_cases hk : S.testBit j = true
    · exact xs_has1 hS h7' hk (br_f xs_10 (hp2 hb ((hK j).mp hk)))
    · have hk' : ¬ tp_K B j i := fun h => hk ((hK j).mpr h)
      refine xs_has0 hS h7' hk (br_t rfl (xs_start (fun td' tb' g1 g2 => ⟨xs_in h7', xs_in h7', ?_⟩)))
      have hC0 := zr_x8 V g1 g2
      have hC : xt_C P (tp_up B j (B j ||| 2 ^ i)) D td' (upd tb' j (nI (B j ||| 2 ^ i))) := by
        intro a ha
        obtain ⟨c1, c2, c3⟩ := hC0 a ha
        refine ⟨c1, c2, ?_⟩
        by_cases e : a = j
        · rw [e, pk_us, tp_us]
        · rw [pk_un e, tp_un B _ e]; exact c3
      have hB : tp_C (tp_up B j (B j ||| 2 ^ i)) P := fun q _ a h => zk_in V hi' q a h
      refine nm_r (e' := upd tb' j (nI (B j ||| 2 ^ i))) (by dsimp only; rw [(hC0 j hj).2.2, tb_bit i h7, tb_or]) (xt_ts V.1 hP hC hB (fun x sf' hx => ?_))
      have hE := tp_TE (fun a ha => (hC a ha).2.1) hB hx
      have h100 := xt_100 (tp_Tx hx)
      by_cases h : x = 100
      · exact br_t (h100.mpr h) (hp4 hb hk' (fun e => hE.mpr e h) _ _ _)
      · exact br_f (fun e => h (h100.mp e)) (hp3 hb hk' (hE.mp h) _ _ _)
theorem yk_bad {post : Int32 → SY → Prop} {x y : Int32} (hP : P < 128) (hH : ys_H P he) (h : tp_N P x ∨ tp_N P y ∨ x = y) (hp : post (-1) (yw, yo, yd, he, de, pr, lo, hi, ca)) : wpY_link post (yw, yo, yd, he, de, pr, lo, hi, ca) x y := by
  unfold wpY_link
  dsimp only
  rcases tp_NT P x with hn | ⟨i, h7, rfl, hi'⟩
  · exact ys_there0 hH hn (br_t rfl hp)
  · rcases tp_NT P y with hn | ⟨j, h7', rfl, hj⟩
    · exact ys_there1 hH h7 hi' (br_f xs_10 (ys_there0 hH hn (br_t rfl hp)))
    · by_cases e : nI i = nI j
      · exact ys_there1 hH h7 hi' (br_f xs_10 (ys_there1 hH h7' hj (br_f xs_10 (br_t e hp))))
      · have no : ∀ k, k < 7 → P.testBit k = true → ¬ tp_N P (nI k) := by
          intro k hk hb hN
          rcases hN with h | h | ⟨k', hk', e', hb'⟩
          · exact nI_pos (by omega) h
          · exact xs_7 hk h
          · have : k = k' := (nI_eq (by omega) (by omega)).mp e'
            exact hb' (this ▸ hb)
        rcases h with h | h | h
        · exact absurd h (no i h7 hi')
        · exact absurd h (no j h7' hj)
        · exact absurd h e
theorem yk_link {post : Int32 → SY → Prop} {i j : Nat} (V : zr_V w c P D B dl bf he de pr) (hi' : P.testBit i = true) (hj : P.testBit j = true) (hij : i ≠ j)
    (hp1 : (B j).testBit i = true → post 0 (nI w, yo, yd, he, de, pr, lo, hi, ca))
    (hp2 : ¬ (B j).testBit i = true → tp_K B j i → post (-4) (nI w, yo, yd, he, de, pr, lo, hi, ca))
    (hp3 : ¬ (B j).testBit i = true → ¬ tp_K B j i → tp_E w (tp_up B j (B j ||| 2 ^ i)) (fun _ => 0) D P → ∀ (fd' : Int32) (lo' hi' ca' : Nat → Int32), post 0 (nI w, yo, fd', he, de, upd pr j (nI (B j ||| 2 ^ i)), lo', hi', ca'))
    (hp4 : ¬ (B j).testBit i = true → ¬ tp_K B j i → ¬ tp_E w (tp_up B j (B j ||| 2 ^ i)) (fun _ => 0) D P → ∀ (fd' : Int32) (lo' hi' ca' : Nat → Int32), post (-3) (nI w, yo, fd', he, de, upd (upd pr j (nI (B j ||| 2 ^ i))) j (nI (B j)), lo', hi', ca')) :
    wpY_link post (nI w, yo, yd, he, de, pr, lo, hi, ca) (nI i) (nI j) := by
  have hP := zr_P V
  have h7 := tb_lt7 hP hi'
  have h7' := tb_lt7 hP hj
  have ec : (nI j).toNatClampNeg = j := nI_clamp (by omega)
  have hne : ¬ nI i = nI j := fun e => hij ((nI_eq (by omega) (by omega)).mp e)
  unfold wpY_link
  dsimp only
  refine ys_there1 (zr_H V) h7 hi' (br_f xs_10 (ys_there1 (zr_H V) h7' hj (br_f xs_10 (br_f hne ?_))))
  by_cases hb : (B j).testBit i = true
  · exact ym_ln1 hP (zr_H V) (zr_p V) hi' hj hb (br_f xs_10 (hp1 hb))
  · refine ym_ln0 hP (zr_H V) (zr_p V) (Or.inr ⟨i, hi', rfl, Or.inr ⟨j, hj, rfl, hb⟩⟩) (br_t rfl (yl_leads (B := B) hP hi' hj hij (zr_H V) (zr_C V) (zr_E V) (zr_8 V) (zr_p V) (fun hk => br_f xs_10 (hp2 hb hk)) (fun hk => br_t rfl ⟨xs_in h7', xs_in h7', ?_⟩)))
    rw [ec, (zr_p V j hj).1, tb_bit i h7, tb_or]
    have hV : yf_V P (tp_up B j (B j ||| 2 ^ i)) D de (upd pr j (nI (B j ||| 2 ^ i))) := by
      intro a ha
      obtain ⟨v1, v2, v3, v4, v5⟩ := zr_y V a ha
      by_cases e : a = j
      · rw [e, pk_us, tp_us]
        rw [e] at v1 v2 v3 v5
        exact ⟨v1, v2, v3, rfl, tb_o128 v5 h7⟩
      · rw [pk_un e, tp_un B _ e]
        exact ⟨v1, v2, v3, v4, v5⟩
    have hB : tp_C (tp_up B j (B j ||| 2 ^ i)) P := fun q _ a h => zk_in V hi' q a h
    have hd : tb_df (B j ||| 2 ^ i) (2 ^ i) = B j := by
      apply tb_ext
      intro a
      rw [tb_d1, tb_o1]
      constructor
      · intro h
        rcases h with ⟨h | h, g⟩
        · exact h
        · exact absurd h g
      · intro h
        exact ⟨Or.inl h, fun e => hb (e ▸ h)⟩
    refine nm_e (yf_good V.1 hP (zr_H V) hV hB (fun r fd' lo' hi'' ca' hr => ?_))
    rcases hr with ⟨er, hE, _⟩ | ⟨er, hE⟩
    · exact br_f (by rw [er]; decide) (hp3 hb hk hE _ _ _ _)
    · refine br_t er ⟨xs_in h7', xs_in h7', ?_⟩
      dsimp only
      rw [pk_us, tb_dif, hd]
      exact nm_e (hp4 hb hk hE _ _ _ _)
theorem zk_B {pr' bf' : Nat → Int32} (V : zr_V w c P D B dl bf he de pr) (h1 : ∀ a, P.testBit a = true → pr' a = nI (B a)) (h2 : ∀ a, a < 7 → bf' a = nI (B a)) : zr_V w c P D B dl bf' he de pr' := by
  refine ⟨V.1, V.2.1, V.2.2.1, ?_, h2, V.2.2.2.2.2⟩
  intro a ha
  obtain ⟨v1, v2, v3, v4, v5⟩ := V.2.2.2.1 a ha
  exact ⟨v1, v2, v3, v4, h1 a ha⟩
theorem zk_or {i j : Nat} (hb : (B j).testBit i = true) : B j ||| 2 ^ i = B j := by
  apply tb_ext
  intro a
  rw [tb_o1]
  exact ⟨fun h => h.elim id (fun e => e ▸ hb), Or.inl⟩
theorem zk_new {i j : Nat} (V : zr_V w c P D B dl bf he de pr) (hi' : P.testBit i = true) (hj : P.testBit j = true) (hE : tp_E w (tp_up B j (B j ||| 2 ^ i)) (fun _ => 0) D P) :
    zr_V w c P D (tp_up B j (B j ||| 2 ^ i)) dl (upd bf j (nI (B j ||| 2 ^ i))) he de (upd pr j (nI (B j ||| 2 ^ i))) := by
  refine ⟨V.1, V.2.1, V.2.2.1, ?_, ?_, zk_in V hi', ?_, zr_H V, hE⟩
  · intro a ha
    obtain ⟨v1, v2, v3, v4, v5⟩ := V.2.2.2.1 a ha
    refine ⟨v1, v2, v3, v4, ?_⟩
    by_cases e : a = j
    · rw [e, pk_us, tp_us]
    · rw [pk_un e, tp_un B _ e]; exact v5
  · intro a ha
    by_cases e : a = j
    · rw [e, pk_us, tp_us]
    · rw [pk_un e, tp_un B _ e]; exact V.2.2.2.2.1 a ha
  · intro a ha
    have ne : a ≠ j := fun e => ha (by rw [e]; exact hj)
    rw [tp_un B _ ne]
    exact V.2.2.2.2.2.2.1 a ha
theorem zk_back {i j : Nat} {x : Int32} (V : zr_V w c P D B dl bf he de pr) (hx : x = nI (B j)) : ∀ a, P.testBit a = true → upd (upd pr j (nI (B j ||| 2 ^ i))) j x a = nI (B a) := by
  intro a ha
  by_cases e : a = j
  · rw [e, pk_us]; exact hx
  · rw [pk_un e, pk_un e]
    exact (zr_p V a ha).1
theorem i_vc_link {k : Nat} {u : SX} {v : SY} (I : i_Rel k u v) (hk : k + 3 ≤ 1538) (v1 : Int32) (v2 : Int32) : wpX_link (fun r u' => wpY_link (fun r' v' => r' = r ∧ i_Rel (k + 3) u' v') v v1 v2) u v1 v2 := by
  obtain ⟨w, c, P, D, B, dl, bf, td, tb, sf, yd, he, de, pr, lo, hi, ca, rfl, rfl, V⟩ := I
  have hP := zr_P V
  unfold wpX_link
  dsimp only
  have bad : (tp_N P v1 ∨ tp_N P v2 ∨ v1 = v2) → _ := fun h => xk_bad (fm := nI w) (fc := nI c) (dl := dl) (bf := bf) (td := td) (tb := tb) (sf := sf) hP h (post := fun r_1 u => match u with
    | (f_machines_2, f_capacity_3, f_present_4, a_deadlines_5, a_before_6, a_trialDeadlines_7, a_trialBefore_8, a_slotsFor_9) => (((r_1 = 0 → (vp_in v2 7 ∧ (vp_in v2 7 ∧ ∀ a_before_13 : Nat → Int32, a_before_13 = upd a_before_6 v2.toNatClampNeg ((a_before_6 v2.toNatClampNeg) ||| ((1 : Int32) <<< (v1 &&& 31))) → (wpY_link (fun r' v' => r' = r_1 ∧ i_Rel (k + 3) (f_machines_2, f_capacity_3, f_present_4, a_deadlines_5, a_before_13, a_trialDeadlines_7, a_trialBefore_8, a_slotsFor_9) v') (nI w, nI c, yd, he, de, pr, lo, hi, ca) v1 v2)))) ∧ (¬ r_1 = 0 → (wpY_link (fun r' v' => r' = r_1 ∧ i_Rel (k + 3) (f_machines_2, f_capacity_3, f_present_4, a_deadlines_5, a_before_6, a_trialDeadlines_7, a_trialBefore_8, a_slotsFor_9) v') (nI w, nI c, yd, he, de, pr, lo, hi, ca) v1 v2)))))
    (br_f (by decide) (yk_bad hP (zr_H V) h ⟨rfl, zr_mk V⟩))
  rcases tp_NT P v1 with hn | ⟨i, h7, rfl, hi'⟩
  · exact bad (Or.inl hn)
  · rcases tp_NT P v2 with hn | ⟨j, h7', rfl, hj⟩
    · exact bad (Or.inr (Or.inl hn))
    · by_cases e : i = j
      · exact bad (Or.inr (Or.inr (by rw [e])))
      · have ec : (nI j).toNatClampNeg = j := nI_clamp (by omega)
        have eu : upd bf (nI j).toNatClampNeg (bf (nI j).toNatClampNeg ||| ((1 : Int32) <<< (nI i &&& 31))) = upd bf j (nI (B j ||| 2 ^ i)) := by
          rw [ec, (zr_b V j h7').1, tb_bit i h7, tb_or]
        refine xk_atl V hi' hj e (fun hb => ?_) (fun hb hK => ?_) (fun hb hK hE td' tb' sf' => ?_) (fun hb hK hE td' tb' sf' => ?_)
        · refine br_t rfl ⟨xs_in h7', xs_in h7', nm_r eu (yk_link V hi' hj e (fun _ => ⟨rfl, zr_mk (zk_B V (fun a ha => (zr_p V a ha).1) ?_)⟩) (fun h => absurd hb h) (fun h => absurd hb h) (fun h => absurd hb h))⟩
          intro a ha
          by_cases e' : a = j
          · rw [e', pk_us, zk_or hb]
          · rw [pk_un e']; exact (zr_b V a ha).1
        · exact br_f (by decide) (yk_link V hi' hj e (fun h => absurd h hb) (fun _ _ => ⟨rfl, zr_mk V⟩) (fun _ h => absurd hK h) (fun _ h => absurd hK h))
        · exact br_t rfl ⟨xs_in h7', xs_in h7', nm_r eu (yk_link V hi' hj e (fun h => absurd h hb) (fun _ h => absurd h hK) (fun _ _ _ fd' lo' hi'' ca' => ⟨rfl, zr_mk (zk_new V hi' hj hE)⟩) (fun _ _ h => absurd hE h))⟩
        · exact br_f (by decide) (yk_link V hi' hj e (fun h => absurd h hb) (fun _ h => absurd h hK) (fun _ _ h => absurd h hE) (fun _ _ _ fd' lo' hi'' ca' => ⟨rfl, zr_mk (zk_B V (zk_back V rfl) V.2.2.2.2.1)⟩))
theorem yk_cp1 {post : Int32 → SY → Prop} (hp : post 1 (yw, yo, yd, he, de, pr, lo, hi, ca)) : wY_couldPrecede_31 post 0 yw yo yd he de pr lo hi ca := br_t rfl hp
theorem yk_cp0 {post : Int32 → SY → Prop} {x : Int32} (hx : ¬ x = 0) (hp : post 0 (yw, yo, yd, he, de, pr, lo, hi, ca)) : wY_couldPrecede_31 post x yw yo yd he de pr lo hi ca := br_f hx hp
theorem yk_cpb {post : Int32 → SY → Prop} {x y : Int32} (V : zr_V w c P D B dl bf he de pr) (h : tp_N P x ∨ tp_N P y ∨ x = y) (hp : post 0 (nI w, yo, yd, he, de, pr, lo, hi, ca)) : wpY_couldPrecede post (nI w, yo, yd, he, de, pr, lo, hi, ca) x y := by
  unfold wpY_couldPrecede
  dsimp only
  rcases zl_ca P B x y with hn | ⟨i, j, hi', hj, rfl, rfl, hb⟩
  · exact ym_ln0 (zr_P V) (zr_H V) (zr_p V) hn (yk_bad (zr_P V) (zr_H V) h (br_f (by decide) (yk_cp0 (by decide) hp)))
  · exact ym_ln1 (zr_P V) (zr_H V) (zr_p V) hi' hj hb (yk_bad (zr_P V) (zr_H V) h (br_f (by decide) (yk_cp0 (by decide) hp)))
theorem i_vc_couldPrecede {k : Nat} {u : SX} {v : SY} (I : i_Rel k u v) (hk : k + 3 ≤ 1538) (v1 : Int32) (v2 : Int32) : wpX_couldPrecede (fun r u' => wpY_couldPrecede (fun r' v' => r' = r ∧ i_Rel (k + 3) u' v') v v1 v2) u v1 v2 := by
  obtain ⟨w, c, P, D, B, dl, bf, td, tb, sf, yd, he, de, pr, lo, hi, ca, rfl, rfl, V⟩ := I
  have hP := zr_P V
  unfold wpX_couldPrecede
  dsimp only
  by_cases hbad : tp_N P v1 ∨ tp_N P v2 ∨ v1 = v2
  · exact xk_bad hP hbad (br_f (by decide) (yk_cpb V hbad ⟨rfl, zr_mk V⟩))
  · rcases tp_NT P v1 with hn | ⟨i, h7, rfl, hi'⟩
    · exact absurd (Or.inl hn) hbad
    · rcases tp_NT P v2 with hn | ⟨j, h7', rfl, hj⟩
      · exact absurd (Or.inr (Or.inl hn)) hbad
      · have e : i ≠ j := fun e => hbad (Or.inr (Or.inr (by rw [e])))
        have hno : ¬ (B j).testBit i = true → zl_no P B (nI i) (nI j) := fun hb => Or.inr ⟨i, hi', rfl, Or.inr ⟨j, hj, rfl, hb⟩⟩
        refine xk_atl V hi' hj e (fun hb => br_t rfl ?_) (fun hb hK => br_f (by decide) ?_) (fun hb hK hE td' tb' sf' => br_t rfl ?_) (fun hb hK hE td' tb' sf' => br_f (by decide) ?_)
        · unfold wpY_couldPrecede
          dsimp only
          exact ym_ln1 hP (zr_H V) (zr_p V) hi' hj hb (yk_link V hi' hj e (fun _ => br_t rfl (br_f xs_10 (yk_cp1 ⟨rfl, zr_mk V⟩))) (fun h => absurd hb h) (fun h => absurd hb h) (fun h => absurd hb h))
        · unfold wpY_couldPrecede
          dsimp only
          exact ym_ln0 hP (zr_H V) (zr_p V) (hno hb) (yk_link V hi' hj e (fun h => absurd h hb) (fun _ _ => br_f (by decide) (yk_cp0 (by decide) ⟨rfl, zr_mk V⟩)) (fun _ h => absurd hK h) (fun _ h => absurd hK h))
        · unfold wpY_couldPrecede
          dsimp only
          refine ym_ln0 hP (zr_H V) (zr_p V) (hno hb) (yk_link V hi' hj e (fun h => absurd h hb) (fun _ h => absurd h hK) (fun _ _ _ fd' lo' hi'' ca' => br_t rfl (br_t rfl ?_)) (fun _ _ h => absurd hE h))
          have V' := zk_new V hi' hj hE
          refine ym_un hP (zr_H V) (zr_p V') hi' hj (by rw [tp_us, tb_o1]; exact Or.inr rfl) (yk_cp1 ⟨rfl, zr_mk (zk_B V (zk_back V ?_) V.2.2.2.2.1)⟩)
          rw [tp_us]
          congr 1
          apply tb_ext
          intro a
          rw [tb_d1, tb_o1]
          constructor
          · intro h
            rcases h with ⟨h | h, g⟩
            · exact h
            · exact absurd h g
          · intro h
            exact ⟨Or.inl h, fun e => hb (e ▸ h)⟩
        · unfold wpY_couldPrecede
          dsimp only
          exact ym_ln0 hP (zr_H V) (zr_p V) (hno hb) (yk_link V hi' hj e (fun h => absurd h hb) (fun _ h => absurd h hK) (fun _ _ h => absurd h hE) (fun _ _ _ fd' lo' hi'' ca' => br_f (by decide) (yk_cp0 (by decide) ⟨rfl, zr_mk (zk_B V (zk_back V rfl) V.2.2.2.2.1)⟩)))
end
end
section
/-! add, probe, addBefore -/
section
variable {w c P n q : Nat} {D B B1 : Nat → Nat} {dl bf td tb sf : Nat → Int32} {fm fc fp yw yo yd y : Int32} {he de pr lo hi ca : Nat → Int32}
/-- the predecessors with a new task n that comes before y, if y is a task -/
def zn_B (P : Nat) (B : Nat → Nat) (n : Nat) (y : Int32) (B1 : Nat → Nat) : Prop := (y < 0 ∧ B1 = B) ∨ (∃ j, P.testBit j = true ∧ y = nI j ∧ B1 = tp_up B j (B j ||| 2 ^ n))
theorem zn_lf : ∀ P, P < 128 → tp_lf P 7 ≤ 7 ∧ (tp_lf P 7 < 7 → P.testBit (tp_lf P 7) = false) := by decide +kernel
theorem zn_cn : ∀ P, P < 128 → tp_cn P 7 ≤ 7 := by decide +kernel
theorem zn_in (V : zr_V w c P D B dl bf he de pr) (h : zn_B P B n y B1) : ∀ a i, (B1 a).testBit i = true → (P ||| 2 ^ n).testBit i = true := by
  intro a i hb
  rw [tb_o1]
  rcases h with ⟨_, e⟩ | ⟨j, hj, _, e⟩
  · rw [e] at hb
    exact Or.inl (V.2.2.2.2.2.1 a i hb)
  · rw [e] at hb
    by_cases ea : a = j
    · rw [ea, tp_us, tb_o1] at hb
      exact hb.imp (V.2.2.2.2.2.1 j i) id
    · rw [tp_un B _ ea] at hb
      exact Or.inl (V.2.2.2.2.2.1 a i hb)
theorem zn_0 (V : zr_V w c P D B dl bf he de pr) (h : zn_B P B n y B1) : ∀ a, ¬ (P ||| 2 ^ n).testBit a = true → B1 a = 0 := by
  intro a ha
  have hP : ¬ P.testBit a = true := fun g => ha ((tb_o1 _ _ _).mpr (Or.inl g))
  rcases h with ⟨_, e⟩ | ⟨j, hj, _, e⟩
  · rw [e]
    exact V.2.2.2.2.2.2.1 a hP
  · have ne : a ≠ j := fun g => hP (by rw [g]; exact hj)
    rw [e, tp_un B _ ne]
    exact V.2.2.2.2.2.2.1 a hP
theorem zn_128 (V : zr_V w c P D B dl bf he de pr) (hn : n < 7) (h : zn_B P B n y B1) (a : Nat) : B1 a < 128 := tb_sl (zn_in V h a) (tb_o128 (zr_P V) hn)
theorem zn_df (V : zr_V w c P D B dl bf he de pr) (hn : ¬ P.testBit n = true) (h : zn_B P B n y B1) (a : Nat) : tb_df (B1 a) (2 ^ n) = B a := by
  have no : ∀ a, ¬ (B a).testBit n = true := fun a g => hn (V.2.2.2.2.2.1 a n g)
  have k1 : ∀ a, tb_df (B a) (2 ^ n) = B a := by
    intro a
    apply tb_ext
    intro i
    rw [tb_d1]
    exact ⟨fun g => g.1, fun g => ⟨g, fun e => no a (e ▸ g)⟩⟩
  rcases h with ⟨_, e⟩ | ⟨j, hj, _, e⟩
  · rw [e]
    exact k1 a
  · rw [e]
    by_cases ea : a = j
    · rw [ea, tp_us]
      apply tb_ext
      intro i
      rw [tb_d1, tb_o1]
      constructor
      · intro g
        rcases g with ⟨g | g, g'⟩
        · exact g
        · exact absurd g g'
      · exact fun g => ⟨Or.inl g, fun e => no j (e ▸ g)⟩
    · rw [tp_un B _ ea]
      exact k1 a
theorem zn_Pd (hn : ¬ P.testBit n = true) : tb_df (P ||| 2 ^ n) (2 ^ n) = P := by
  apply tb_ext
  intro i
  rw [tb_d1, tb_o1]
  constructor
  · intro g
    rcases g with ⟨g | g, g'⟩
    · exact g
    · exact absurd g g'
  · exact fun g => ⟨Or.inl g, fun e => hn (e ▸ g)⟩
/-! X -/
theorem xn_49 {post : Int32 → SX → Prop} {D1 : Nat → Nat} (hw : w = 1 ∨ w = 2) (hP1 : P ||| 2 ^ n < 128) (hn : n < 7) (hC : xt_C (P ||| 2 ^ n) B1 D1 td tb) (hB : tp_C B1 (P ||| 2 ^ n))
    (hp1 : tp_E w B1 (fun _ => 0) D1 (P ||| 2 ^ n) → ∀ sf' : Nat → Int32, post (nI n) (nI w, nI c, nI P, dl, bf, td, tb, sf'))
    (hp0 : ¬ tp_E w B1 (fun _ => 0) D1 (P ||| 2 ^ n) → ∀ sf' : Nat → Int32, post (-3) (nI w, nI c, nI P, dl, bf, td, tb, sf')) :
    wX_numberForNew_49 post (nI n) (nI w) (nI c) (nI P) dl bf td tb sf := by
  unfold wX_numberForNew_49
  rw [tb_bit n hn, tb_or]
  refine xt_ts hw hP1 hC hB (fun x sf' hx => ?_)
  have hE := tp_TE (fun a ha => (hC a ha).2.1) hB hx
  have h100 := xt_100 (tp_Tx hx)
  by_cases h : x = 100
  · exact br_t (h100.mpr h) (hp0 (fun e => hE.mpr e h) _)
  · exact br_f (fun e => h (h100.mp e)) (hp1 (hE.mp h) _)
theorem xn_num {post : Int32 → SX → Prop} (V : zr_V w c P D B dl bf he de pr) (en : n = tp_lf P 7) (h8 : q ≤ 8) (hB : zn_B P B n y B1)
    (hpF : c ≤ n → post (-2) (nI w, nI c, nI P, dl, bf, td, tb, sf))
    (hp1 : n < c → tp_E w B1 (fun _ => 0) (tp_up D n q) (P ||| 2 ^ n) → ∀ td' tb' sf' : Nat → Int32, post (nI n) (nI w, nI c, nI P, dl, bf, td', tb', sf'))
    (hp0 : n < c → ¬ tp_E w B1 (fun _ => 0) (tp_up D n q) (P ||| 2 ^ n) → ∀ td' tb' sf' : Nat → Int32, post (-3) (nI w, nI c, nI P, dl, bf, td', tb', sf')) :
    wpX_numberForNew post (nI w, nI c, nI P, dl, bf, td, tb, sf) (nI q) y := by
  have hP := zr_P V
  have hc7 := V.2.1.2
  unfold wpX_numberForNew
  dsimp only
  refine xs_lf hP ?_
  rw [← en]
  rcases Nat.lt_or_ge n c with hnc | hnc
  · have hn7 : n < 7 := by omega
    have hnP : ¬ P.testBit n = true := by
      have := (zn_lf P hP).2 (by omega)
      rw [← en] at this
      rw [this]
      decide
    have ec : (nI n).toNatClampNeg = n := nI_clamp (by omega)
    refine br_t (nI_lt hnc (by omega)) (xs_start (fun td' tb' g1 g2 => ⟨xs_in hn7, ?_⟩))
    have hC0 := zr_x8 V g1 g2
    have hCa : ∀ tb1 : Nat → Int32, (∀ a, a < 7 → tb1 a = nI (B1 a)) → xt_C (P ||| 2 ^ n) B1 (tp_up D n q) (upd td' n (nI q)) tb1 := by
      intro tb1 h1 a ha
      have ha7 := tb_lt7 (tb_o128 hP hn7) ha
      by_cases e : a = n
      · rw [e, pk_us, tp_us]
        exact ⟨rfl, h8, h1 n hn7⟩
      · have haP : P.testBit a = true := ((tb_o1 _ _ _).mp ha).resolve_right e
        rw [pk_un e, tp_un D _ e]
        exact ⟨(hC0 a haP).1, (hC0 a haP).2.1, h1 a ha7⟩
    have hBc : tp_C B1 (P ||| 2 ^ n) := fun a _ i h => zn_in V hB a i h
    refine nm_r (e' := upd td' n (nI q)) (by dsimp only; rw [ec]) ?_
    rcases hB with ⟨hy, e⟩ | ⟨j, hj, hy, e⟩
    · refine xs_task0 hP (Or.inl hy) (br_t rfl (xn_49 V.1 (tb_o128 hP hn7) hn7 (hCa tb' ?_) hBc (fun hE sf' => hp1 hnc hE _ _ sf') (fun hE sf' => hp0 hnc hE _ _ sf')))
      intro a ha
      rw [e, g2 a ha]
      exact (zr_b V a ha).1
    · have hj7 := tb_lt7 hP hj
      have ej : (nI j).toNatClampNeg = j := nI_clamp (by omega)
      subst hy
      refine xs_task1 hP hj7 hj (br_f xs_10 ⟨xs_in hj7, xs_in hj7, nm_r (e' := upd tb' j (nI (B j ||| 2 ^ n))) ?_ (xn_49 V.1 (tb_o128 hP hn7) hn7 (hCa _ ?_) hBc (fun hE sf' => hp1 hnc hE _ _ sf') (fun hE sf' => hp0 hnc hE _ _ sf'))⟩)
      · dsimp only
        rw [ej, g2 j hj7, (zr_b V j hj7).1, tb_bit n hn7, tb_or]
      · intro a ha
        rw [e]
        by_cases ea : a = j
        · rw [ea, pk_us, tp_us]
        · rw [pk_un ea, tp_un B _ ea, g2 a ha]
          exact (zr_b V a ha).1
  · exact br_f (nI_nlt hnc (by have := (zn_lf P hP).1; omega)) (hpF hnc)
theorem xn_probe {post : Int32 → SX → Prop} (V : zr_V w c P D B dl bf he de pr) (en : n = tp_lf P 7) (h1 : 1 ≤ q) (h8 : q ≤ 8)
    (hpF : c ≤ n → post (-2) (nI w, nI c, nI P, dl, bf, td, tb, sf))
    (hp1 : n < c → tp_E w B (fun _ => 0) (tp_up D n q) (P ||| 2 ^ n) → ∀ td' tb' sf' : Nat → Int32, post (nI n) (nI w, nI c, nI P, dl, bf, td', tb', sf'))
    (hp0 : n < c → ¬ tp_E w B (fun _ => 0) (tp_up D n q) (P ||| 2 ^ n) → ∀ td' tb' sf' : Nat → Int32, post (-3) (nI w, nI c, nI P, dl, bf, td', tb', sf')) :
    wpX_probe post (nI w, nI c, nI P, dl, bf, td, tb, sf) (nI q) := by
  unfold wpX_probe
  dsimp only
  exact xd_1 h1 h8 (br_f xs_10 (xn_num (B1 := B) V en h8 (Or.inl ⟨by decide, rfl⟩) hpF hp1 hp0))
theorem xn_pb {post : Int32 → SX → Prop} {d : Int32} (h : zd_bad d) (hp : post (-1) (fm, fc, fp, dl, bf, td, tb, sf)) : wpX_probe post (fm, fc, fp, dl, bf, td, tb, sf) d := by
  unfold wpX_probe
  dsimp only
  exact xd_0 h (br_t rfl hp)
theorem xn_place {post : SX → Prop} (hn : n < 7) (hp : post (fm, fc, nI (P ||| 2 ^ n), upd dl n (nI q), bf, td, tb, sf)) : wpX_place post (fm, fc, nI P, dl, bf, td, tb, sf) (nI n) (nI q) :=
  nm_r (e' := nI (P ||| 2 ^ n)) (by rw [tb_bit n hn, tb_or]) ⟨xs_in hn, nm_r (e' := upd dl n (nI q)) (by rw [nI_clamp (by omega)]) hp⟩
/-! Y -/
theorem yn_127 {post : Int32 → SY → Prop} {D1 : Nat → Nat} (hw : w = 1 ∨ w = 2) (hP1 : P ||| 2 ^ n < 128) (hn : n < 7) (hH : ys_H (P ||| 2 ^ n) he) (hV : yf_V (P ||| 2 ^ n) B1 D1 de pr) (hB : tp_C B1 (P ||| 2 ^ n))
    (hp1 : tp_E w B1 (fun _ => 0) D1 (P ||| 2 ^ n) → ∀ (fd' : Int32) (lo' hi' ca' : Nat → Int32), post (nI n) (nI w, yo, fd', he, de, pr, lo', hi', ca'))
    (hp0 : ¬ tp_E w B1 (fun _ => 0) D1 (P ||| 2 ^ n) → ∀ (fd' : Int32) (he' pr' lo' hi' ca' : Nat → Int32), ys_H (tb_df (P ||| 2 ^ n) (2 ^ n)) he' → (∀ i, i < 7 → pr' i = pr i &&& (nI (2 ^ n) ^^^ (-1))) →
      post (-3) (nI w, yo, fd', he', de, pr', lo', hi', ca')) : wY_take_127 post (nI n) (nI w) yo yd he de pr lo hi ca := by
  unfold wY_take_127
  refine yf_good hw hP1 hH hV hB (fun r fd' lo' hi' ca' hr => ?_)
  rcases hr with ⟨er, hE, _⟩ | ⟨er, hE⟩
  · exact br_f (by rw [er]; decide) (hp1 hE _ _ _ _)
  · exact br_t er (yl_rm hn hH ((tb_o1 _ _ _).mpr (Or.inr rfl)) (fun he' pr' g1 g2 => hp0 hE _ he' pr' _ _ _ g1 g2))
theorem yn_l {post : Int32 → SY → Prop} {p0 p1 : Int32} (hH : ys_H P he) (hx : wY_take_10 post p0 p1 yw yo yd he de pr lo hi ca 1 (nI (tp_cn P 7)) (nI (tp_lf P 7)) (nI 0 + (-1))) :
    ∀ i, i ≤ 7 → wY_take_10 post p0 p1 yw yo yd he de pr lo hi ca (i + 1) (nI (tp_cn P (7 - i))) (nI (tp_lf P (7 - i))) (nI i + (-1)) := by
  intro i
  induction i with
  | zero => exact fun _ => hx
  | succ i ih =>
    intro hi7
    have ih' := ih (by omega)
    have h7 : i < 7 := by omega
    have e : 7 - i = (7 - (i + 1)) + 1 := by omega
    have e6 : 6 - (7 - (i + 1)) = i := by omega
    have ecn : tp_cn P (7 - i) = tp_cn P (7 - (i + 1)) + if P.testBit i = true then 1 else 0 := by
      rw [e]
      show tp_cn P (7 - (i + 1)) + (if P.testBit (6 - (7 - (i + 1))) = true then 1 else 0) = _
      rw [e6]
    have elf : tp_lf P (7 - i) = if P.testBit i = true then tp_lf P (7 - (i + 1)) else i := by
      rw [e]
      show (if P.testBit (6 - (7 - (i + 1))) = true then tp_lf P (7 - (i + 1)) else 6 - (7 - (i + 1))) = _
      rw [e6]
    rw [pk_m1]
    by_cases hb : P.testBit i = true
    · rw [if_pos hb] at ecn elf
      rw [ecn, elf] at ih'
      exact br_f (nI_pos (by omega)) ⟨xs_in h7, br_f (ys_h1 hH h7 hb) (nm_r (nI_1 _) ⟨xs_in h7, br_f (ys_h1 hH h7 hb) (nm_e ih')⟩)⟩
    · rw [if_neg hb] at ecn elf
      rw [ecn, elf] at ih'
      exact br_f (nI_pos (by omega)) ⟨xs_in h7, br_t (ys_h0 hH h7 hb) (nm_r (Int32.add_zero _) ⟨xs_in h7, br_t (ys_h0 hH h7 hb) (nm_e ih')⟩)⟩
theorem yn_take {post : Int32 → SY → Prop} (V : zr_V w c P D B dl bf he de pr) (en : n = tp_lf P 7) (h1 : 1 ≤ q) (h8 : q ≤ 8) (hB : zn_B P B n y B1)
    (hpF : c ≤ n → post (-2) (nI w, nI c, yd, he, de, pr, lo, hi, ca))
    (hp1 : n < c → tp_E w B1 (fun _ => 0) (tp_up D n q) (P ||| 2 ^ n) → ∀ (fd' : Int32) (he' pr' lo' hi' ca' : Nat → Int32), ys_H (P ||| 2 ^ n) he' → (∀ a, (P ||| 2 ^ n).testBit a = true → pr' a = nI (B1 a)) →
      post (nI n) (nI w, nI c, fd', he', upd de n (nI q), pr', lo', hi', ca'))
    (hp0 : n < c → ¬ tp_E w B1 (fun _ => 0) (tp_up D n q) (P ||| 2 ^ n) → ∀ (fd' : Int32) (he' pr' lo' hi' ca' : Nat → Int32), ys_H P he' → (∀ a, P.testBit a = true → pr' a = nI (B a)) →
      post (-3) (nI w, nI c, fd', he', upd de n (nI q), pr', lo', hi', ca')) :
    wpY_take post (nI w, nI c, yd, he, de, pr, lo, hi, ca) (nI q) y := by
  have hP := zr_P V
  have hc7 := V.2.1.2
  have hcl := tp_cl P hP c (by omega) V.2.2.1
  have hcn := zn_cn P hP
  rw [← en] at hcl
  refine ⟨8, yn_l (P := P) (zr_H V) ?_ 7 (by omega)⟩
  rw [← en]
  refine br_t (by decide) ?_
  rcases Nat.lt_or_ge n c with hnc | hnc
  · have hn7 : n < 7 := by omega
    have hnP : ¬ P.testBit n = true := by
      have := (zn_lf P hP).2 (by omega)
      rw [← en] at this
      rw [this]
      decide
    have ec : (nI n).toNatClampNeg = n := nI_clamp (by omega)
    refine br_f (nI_ge (by omega) (by omega)) (br_t (nI_lt (b := 7) hn7 (by decide)) ⟨xs_in hn7, nm_e ⟨xs_in hn7, nm_r (e' := upd de n (nI q)) (by rw [ec]) ⟨xs_in hn7, nm_r (e' := upd pr n 0) (by rw [ec]) ?_⟩⟩⟩)
    have hH1 := yl_Hu hn7 (zr_H V)
    have hBc : tp_C B1 (P ||| 2 ^ n) := fun a _ i h => zn_in V hB a i h
    have hP1 := tb_o128 hP hn7
    have go : ∀ pr1 : Nat → Int32, (∀ a, (P ||| 2 ^ n).testBit a = true → pr1 a = nI (B1 a)) →
        wY_take_127 post (nI n) (nI w) (nI c) yd (upd he (nI n).toNatClampNeg (vp_nar .boolean 1)) (upd de n (nI q)) pr1 lo hi ca := by
      intro pr1 hpr
      refine yn_127 (D1 := tp_up D n q) V.1 hP1 hn7 hH1 ?_ hBc (fun hE fd' lo' hi' ca' => hp1 hnc hE _ _ _ _ _ _ hH1 hpr) (fun hE fd' he' pr' lo' hi' ca' g1 g2 => hp0 hnc hE _ _ _ _ _ _ (by rw [zn_Pd hnP] at g1; exact g1) ?_)
      · intro a ha
        by_cases e : a = n
        · rw [e, pk_us, tp_us]
          rw [e] at ha
          exact ⟨h1, h8, rfl, hpr n ha, zn_128 V hn7 hB n⟩
        · have haP : P.testBit a = true := ((tb_o1 _ _ _).mp ha).resolve_right e
          obtain ⟨v1, v2, v3, v4, v5⟩ := zr_y V a haP
          rw [pk_un e, tp_un D _ e]
          exact ⟨v1, v2, v3, hpr a ha, zn_128 V hn7 hB a⟩
      · intro a ha
        rw [g2 a (tb_lt7 hP ha), hpr a ((tb_o1 _ _ _).mpr (Or.inl ha)), tb_dif, zn_df V hnP hB]
    have hpr0 : ∀ a, (P ||| 2 ^ n).testBit a = true → upd pr n 0 a = nI (B a) := by
      intro a ha
      by_cases e : a = n
      · rw [e, pk_us, V.2.2.2.2.2.2.1 n hnP]
        rfl
      · rw [pk_un e]
        exact (zr_p V a (((tb_o1 _ _ _).mp ha).resolve_right e)).1
    rcases hB with ⟨hy, e⟩ | ⟨j, hj, hy, e⟩
    · refine br_t hy (go _ ?_)
      rw [e]
      exact hpr0
    · have hj7 := tb_lt7 hP hj
      have ej : (nI j).toNatClampNeg = j := nI_clamp (by omega)
      have hjn : j ≠ n := fun g => hnP (g ▸ hj)
      subst hy
      refine br_f (nI_pos (by omega)) (br_f (xs_7 hj7) ⟨xs_in hj7, xs_in hj7, nm_r (e' := upd (upd pr n 0) j (nI (B j ||| 2 ^ n))) ?_ (go _ ?_)⟩)
      · rw [ej, pk_un hjn, (zr_p V j hj).1, tb_bit n hn7, tb_or]
      · intro a ha
        rw [e]
        by_cases ea : a = j
        · rw [ea, pk_us, tp_us]
        · rw [pk_un ea, tp_un B _ ea]
          exact hpr0 a ha
  · exact br_t (nI_le (hcl.mpr hnc) (by omega)) (hpF hnc)
/-! the relation behind a new task, and behind a refused one -/
theorem zn_new {bf' he' pr' : Nat → Int32} (V : zr_V w c P D B dl bf he de pr) (hnc : n < c) (h1 : 1 ≤ q) (h8 : q ≤ 8) (hB : zn_B P B n y B1)
    (hE : tp_E w B1 (fun _ => 0) (tp_up D n q) (P ||| 2 ^ n)) (hH : ys_H (P ||| 2 ^ n) he') (hpr : ∀ a, (P ||| 2 ^ n).testBit a = true → pr' a = nI (B1 a)) (hbf : ∀ a, a < 7 → bf' a = nI (B1 a)) :
    zr_V w c (P ||| 2 ^ n) (tp_up D n q) B1 (upd dl n (nI q)) bf' he' (upd de n (nI q)) pr' := by
  refine ⟨V.1, V.2.1, tp_lc P (zr_P V) c (by have := V.2.1.2; omega) V.2.2.1 n hnc, ?_, hbf, zn_in V hB, zn_0 V hB, hH, hE⟩
  intro a ha
  by_cases e : a = n
  · rw [e, pk_us, pk_us, tp_us]
    rw [e] at ha
    exact ⟨h1, h8, rfl, rfl, hpr n ha⟩
  · obtain ⟨v1, v2, v3, v4, v5⟩ := V.2.2.2.1 a (((tb_o1 _ _ _).mp ha).resolve_right e)
    rw [pk_un e, pk_un e, tp_un D _ e]
    exact ⟨v1, v2, v3, v4, hpr a ha⟩
theorem zn_old {he' pr' : Nat → Int32} (V : zr_V w c P D B dl bf he de pr) (hnP : ¬ P.testBit n = true) (hH : ys_H P he') (hpr : ∀ a, P.testBit a = true → pr' a = nI (B a)) :
    zr_V w c P D B dl bf he' (upd de n (nI q)) pr' := by
  refine ⟨V.1, V.2.1, V.2.2.1, ?_, V.2.2.2.2.1, V.2.2.2.2.2.1, V.2.2.2.2.2.2.1, hH, zr_E V⟩
  intro a ha
  have ne : a ≠ n := fun e => hnP (by rw [← e]; exact ha)
  obtain ⟨v1, v2, v3, v4, v5⟩ := V.2.2.2.1 a ha
  rw [pk_un ne]
  exact ⟨v1, v2, v3, v4, hpr a ha⟩
theorem zn_no (V : zr_V w c P D B dl bf he de pr) (h : tp_lf P 7 < c) : ¬ P.testBit (tp_lf P 7) = true := by
  rw [(zn_lf P (zr_P V)).2 (by have := V.2.1.2; omega)]
  decide
theorem yn_ab {post : Int32 → SY → Prop} {d : Int32} (h : zd_bad d) (hp : post (-1) (yw, yo, yd, he, de, pr, lo, hi, ca)) : wpY_add post (yw, yo, yd, he, de, pr, lo, hi, ca) d := by
  by_cases g : d < 1
  · exact br_t g hp
  · exact br_f g (br_f (fun h' => absurd (h.resolve_left g) (Int32.not_lt.mpr h')) hp)
theorem yn_add {post : Int32 → SY → Prop} (V : zr_V w c P D B dl bf he de pr) (en : n = tp_lf P 7) (h1 : 1 ≤ q) (h8 : q ≤ 8)
    (hpF : c ≤ n → post (-2) (nI w, nI c, yd, he, de, pr, lo, hi, ca))
    (hp1 : n < c → tp_E w B (fun _ => 0) (tp_up D n q) (P ||| 2 ^ n) → ∀ (fd' : Int32) (he' pr' lo' hi' ca' : Nat → Int32), ys_H (P ||| 2 ^ n) he' → (∀ a, (P ||| 2 ^ n).testBit a = true → pr' a = nI (B a)) →
      post (nI n) (nI w, nI c, fd', he', upd de n (nI q), pr', lo', hi', ca'))
    (hp0 : n < c → ¬ tp_E w B (fun _ => 0) (tp_up D n q) (P ||| 2 ^ n) → ∀ (fd' : Int32) (he' pr' lo' hi' ca' : Nat → Int32), ys_H P he' → (∀ a, P.testBit a = true → pr' a = nI (B a)) →
      post (-3) (nI w, nI c, fd', he', upd de n (nI q), pr', lo', hi', ca')) :
    wpY_add post (nI w, nI c, yd, he, de, pr, lo, hi, ca) (nI q) := by
  unfold wpY_add
  dsimp only
  exact br_f (zd_1 h1 h8) (br_t (zd_l h8) (yn_take (B1 := B) V en h1 h8 (Or.inl ⟨by decide, rfl⟩) hpF hp1 hp0))
end
theorem i_vc_add {k : Nat} {u : SX} {v : SY} (I : i_Rel k u v) (hk : k + 3 ≤ 1538) (v1 : Int32) : wpX_add (fun r u' => wpY_add (fun r' v' => r' = r ∧ i_Rel (k + 3) u' v') v v1) u v1 := by
  obtain ⟨w, c, P, D, B, dl, bf, td, tb, sf, yd, he, de, pr, lo, hi, ca, rfl, rfl, V⟩ := I
  unfold wpX_add
  dsimp only
  rcases zd_ca v1 with hb | ⟨q, h1, h8, rfl⟩
  · exact xn_pb hb (br_t (by decide) (yn_ab hb ⟨rfl, zr_mk V⟩))
  · refine xn_probe V rfl h1 h8 (fun hF => br_t (by decide) (yn_add V rfl h1 h8 (fun _ => ⟨rfl, zr_mk V⟩) (fun h => by omega) (fun h => by omega))) (fun hc hE td' tb' sf' => ?_) (fun hc hE td' tb' sf' => ?_)
    · have hn7 : tp_lf P 7 < 7 := by have := V.2.1.2; omega
      refine br_f (nI_pos (by omega)) (xn_place hn7 (yn_add V rfl h1 h8 (fun h => by omega) (fun _ _ fd' he' pr' lo' hi' ca' g1 g2 => ⟨rfl, ?_⟩) (fun _ h => absurd hE h)))
      exact zr_mk (zn_new (y := -1) V hc h1 h8 (Or.inl ⟨by decide, rfl⟩) hE g1 g2 V.2.2.2.2.1)
    · exact br_t (by decide) (yn_add V rfl h1 h8 (fun h => by omega) (fun _ h => absurd h hE) (fun _ _ fd' he' pr' lo' hi' ca' g1 g2 => ⟨rfl, zr_mk (zn_old V (zn_no V hc) g1 g2)⟩))
theorem i_vc_probe {k : Nat} {u : SX} {v : SY} (I : i_Rel k u v) (hk : k + 3 ≤ 1538) (v1 : Int32) : wpX_probe (fun r u' => wpY_probe (fun r' v' => r' = r ∧ i_Rel (k + 3) u' v') v v1) u v1 := by
  obtain ⟨w, c, P, D, B, dl, bf, td, tb, sf, yd, he, de, pr, lo, hi, ca, rfl, rfl, V⟩ := I
  rcases zd_ca v1 with hb | ⟨q, h1, h8, rfl⟩
  · refine xn_pb hb ?_
    unfold wpY_probe
    dsimp only
    exact yn_ab hb (br_t (by decide) ⟨rfl, zr_mk V⟩)
  · refine xn_probe V rfl h1 h8 (fun hF => ?_) (fun hc hE td' tb' sf' => ?_) (fun hc hE td' tb' sf' => ?_)
    · unfold wpY_probe
      dsimp only
      exact yn_add V rfl h1 h8 (fun _ => br_t (by decide) ⟨rfl, zr_mk V⟩) (fun h => by omega) (fun h => by omega)
    · have hn7 : tp_lf P 7 < 7 := by have := V.2.1.2; omega
      have hnP := zn_no V hc
      unfold wpY_probe
      dsimp only
      refine yn_add V rfl h1 h8 (fun h => by omega) (fun _ _ fd' he' pr' lo' hi' ca' g1 g2 => br_f (nI_pos (by omega)) ?_) (fun _ h => absurd hE h)
      refine yl_rm hn7 g1 ((tb_o1 _ _ _).mpr (Or.inr rfl)) (fun he2 pr2 f1 f2 => ⟨rfl, zr_mk (zn_old V hnP (by rw [zn_Pd hnP] at f1; exact f1) ?_)⟩)
      intro a ha
      show pr2 a = nI (B a)
      rw [show pr2 a = pr' a &&& (nI (2 ^ tp_lf P 7) ^^^ (-1)) from f2 a (tb_lt7 (zr_P V) ha), g2 a ((tb_o1 _ _ _).mpr (Or.inl ha)), tb_dif, zn_df (y := -1) V hnP (Or.inl ⟨by decide, rfl⟩)]
    · unfold wpY_probe
      dsimp only
      exact yn_add V rfl h1 h8 (fun h => by omega) (fun _ h => absurd h hE) (fun _ _ fd' he' pr' lo' hi' ca' g1 g2 => br_t (by decide) ⟨rfl, zr_mk (zn_old V (zn_no V hc) g1 g2)⟩)
theorem i_vc_addBefore {k : Nat} {u : SX} {v : SY} (I : i_Rel k u v) (hk : k + 3 ≤ 1538) (v1 : Int32) (v2 : Int32) : wpX_addBefore (fun r u' => wpY_addBefore (fun r' v' => r' = r ∧ i_Rel (k + 3) u' v') v v1 v2) u v1 v2 := by
  obtain ⟨w, c, P, D, B, dl, bf, td, tb, sf, yd, he, de, pr, lo, hi, ca, rfl, rfl, V⟩ := I
  have hP := zr_P V
  unfold wpX_addBefore
  dsimp only
  rcases zd_ca v1 with hb | ⟨q, h1, h8, rfl⟩
  · refine xd_0 hb (br_t rfl ?_)
    by_cases g : v1 < 1
    · exact br_t g ⟨rfl, zr_mk V⟩
    · exact br_f g (br_t (hb.resolve_left g) ⟨rfl, zr_mk V⟩)
  · rcases tp_NT P v2 with hn | ⟨j, hj7, rfl, hj⟩
    · refine xd_1 h1 h8 (br_f xs_10 (xs_task0 hP hn (br_t rfl ?_)))
      exact br_f (zd_1 h1 h8) (br_f (zd_8 h8) (ys_there0 (zr_H V) hn (br_t rfl ⟨rfl, zr_mk V⟩)))
    · have hB : zn_B P B (tp_lf P 7) (nI j) (tp_up B j (B j ||| 2 ^ tp_lf P 7)) := Or.inr ⟨j, hj, rfl, rfl⟩
      refine xd_1 h1 h8 (br_f xs_10 (xs_task1 hP hj7 hj (br_f xs_10 (xn_num V rfl h8 hB (fun hF => ?_) (fun hc hE td' tb' sf' => ?_) (fun hc hE td' tb' sf' => ?_)))))
      · exact br_t (by decide) (br_f (zd_1 h1 h8) (br_f (zd_8 h8) (ys_there1 (zr_H V) hj7 hj (br_f xs_10 (yn_take V rfl h1 h8 hB (fun _ => ⟨rfl, zr_mk V⟩) (fun h => by omega) (fun h => by omega))))))
      · have hn7 : tp_lf P 7 < 7 := by have := V.2.1.2; omega
        have ej : (nI j).toNatClampNeg = j := nI_clamp (by omega)
        have eu : upd bf (nI j).toNatClampNeg (bf (nI j).toNatClampNeg ||| ((1 : Int32) <<< (nI (tp_lf P 7) &&& 31))) = upd bf j (nI (B j ||| 2 ^ tp_lf P 7)) := by
          rw [ej, (zr_b V j hj7).1, tb_bit _ hn7, tb_or]
        refine br_f (nI_pos (by omega)) (xn_place hn7 ⟨xs_in hj7, xs_in hj7, nm_r eu (br_f (zd_1 h1 h8) (br_f (zd_8 h8) (ys_there1 (zr_H V) hj7 hj (br_f xs_10 (yn_take V rfl h1 h8 hB (fun h => by omega) (fun _ _ fd' he' pr' lo' hi' ca' g1 g2 => ⟨rfl, zr_mk (zn_new V hc h1 h8 hB hE g1 g2 ?_)⟩) (fun _ h => absurd hE h))))))⟩)
        intro a ha
        by_cases e : a = j
        · rw [e, pk_us, tp_us]
        · rw [pk_un e, tp_un B _ e]; exact (zr_b V a ha).1
      · exact br_t (by decide) (br_f (zd_1 h1 h8) (br_f (zd_8 h8) (ys_there1 (zr_H V) hj7 hj (br_f xs_10 (yn_take V rfl h1 h8 hB (fun h => by omega) (fun _ h => absurd h hE) (fun _ _ fd' he' pr' lo' hi' ca' g1 g2 => ⟨rfl, zr_mk (zn_old V (zn_no V hc) g1 g2)⟩))))))
end
