/-! the mathematics: timetables of a set of tasks (no machine yet) -/
/-- at most w tasks a slot (w is 1 or 2) -/
def tp_W (w S : Nat) (s : Nat → Nat) : Prop :=
  (w = 1 → ∀ i j, S.testBit i = true → S.testBit j = true → s i = s j → i = j) ∧
  (∀ i j k, S.testBit i = true → S.testBit j = true → S.testBit k = true → s i = s j → s j = s k → i = j ∨ j = k ∨ i = k)
/-- s is a good timetable of the set S: windows from L up to below H, predecessors B -/
def tp_F (w : Nat) (B L H : Nat → Nat) (S : Nat) (s : Nat → Nat) : Prop :=
  (∀ i, S.testBit i = true → L i ≤ s i ∧ s i < H i) ∧
  (∀ i j, S.testBit i = true → S.testBit j = true → (B j).testBit i = true → s i < s j) ∧ tp_W w S s
def tp_C (B : Nat → Nat) (S : Nat) : Prop := ∀ j, S.testBit j = true → ∀ i, (B j).testBit i = true → S.testBit i = true
/-- the set S, closed under predecessors, can be done within t slots -/
def tp_G (w : Nat) (B L H : Nat → Nat) (S t : Nat) : Prop :=
  ∃ s, tp_F w B L H S s ∧ (∀ i, S.testBit i = true → s i < t) ∧ tp_C B S
def tp_E (w : Nat) (B L H : Nat → Nat) (S : Nat) : Prop := ∃ s, tp_F w B L H S s
def tp_up (H : Nat → Nat) (j d : Nat) : Nat → Nat := fun i => if i = j then d else H i
theorem tp_us (H : Nat → Nat) (j d : Nat) : tp_up H j d j = d := if_pos rfl
theorem tp_un (H : Nat → Nat) {j i : Nat} (d : Nat) (h : i ≠ j) : tp_up H j d i = H i := if_neg h
theorem tp_ui (H : Nat → Nat) (j : Nat) : tp_up H j (H j) = H := by
  funext i
  by_cases h : i = j
  · rw [h, tp_us]
  · rw [tp_un H _ h]
theorem tp_W_mono {w S T : Nat} {s : Nat → Nat} (h : ∀ i, S.testBit i = true → T.testBit i = true) (hw : tp_W w T s) : tp_W w S s :=
  ⟨fun e i j hi hj => hw.1 e i j (h i hi) (h j hj), fun i j k hi hj hk => hw.2 i j k (h i hi) (h j hj) (h k hk)⟩
theorem tp_F_mono {w S T : Nat} {B B' L L' H H' s : Nat → Nat} (h : ∀ i, S.testBit i = true → T.testBit i = true)
    (hB : ∀ j, S.testBit j = true → ∀ i, S.testBit i = true → (B' j).testBit i = true → (B j).testBit i = true)
    (hL : ∀ i, S.testBit i = true → L' i ≤ L i) (hH : ∀ i, S.testBit i = true → H i ≤ H' i)
    (hF : tp_F w B L H T s) : tp_F w B' L' H' S s := by
  refine ⟨fun i hi => ?_, fun i j hi hj hb => hF.2.1 i j (h i hi) (h j hj) (hB j hj i hi hb), tp_W_mono h hF.2.2⟩
  have h1 := hF.1 i (h i hi)
  have h2 := hL i hi
  have h3 := hH i hi
  omega
theorem tp_G_up {w S t t' : Nat} {B L H : Nat → Nat} (h : t ≤ t') (g : tp_G w B L H S t) : tp_G w B L H S t' := by
  obtain ⟨s, h1, h2, h3⟩ := g
  exact ⟨s, h1, fun i hi => Nat.lt_of_lt_of_le (h2 i hi) h, h3⟩
theorem tp_G_E {w S t : Nat} {B L H : Nat → Nat} (g : tp_G w B L H S t) : tp_E w B L H S := by
  obtain ⟨s, h1, _⟩ := g
  exact ⟨s, h1⟩
theorem tp_E_G {w S t : Nat} {B L H : Nat → Nat} (hH : ∀ i, S.testBit i = true → H i ≤ t) (hC : tp_C B S) (g : tp_E w B L H S) : tp_G w B L H S t := by
  obtain ⟨s, h1⟩ := g
  exact ⟨s, h1, fun i hi => Nat.lt_of_lt_of_le (h1.1 i hi).2 (hH i hi), hC⟩
theorem tp_G_0 {w S : Nat} {B L H : Nat → Nat} (h : S ≠ 0) : ¬ tp_G w B L H S 0 := by
  intro ⟨s, _, h2, _⟩
  obtain ⟨i, hi⟩ := tb_ne h
  exact absurd (h2 i hi) (Nat.not_lt_zero _)
theorem tp_G_e (w t : Nat) (B L H : Nat → Nat) : tp_G w B L H 0 t :=
  ⟨fun _ => 0, ⟨fun i hi => absurd hi (tb_n0 i), fun i j hi => absurd hi (tb_n0 i), fun _ i j hi => absurd hi (tb_n0 i), fun i j k hi => absurd hi (tb_n0 i)⟩,
    fun i hi => absurd hi (tb_n0 i), fun i hi => absurd hi (tb_n0 i)⟩
/-- one slot more, with a and b in it (a may be b) -/
theorem tp_ext {w S S' a b t : Nat} {B L H : Nat → Nat} (hS : ∀ i, S'.testBit i = true ↔ S.testBit i = true ∨ i = a ∨ i = b)
    (ha : ¬ S.testBit a = true) (hb : ¬ S.testBit b = true) (hw : w = 1 → a = b) (la : L a ≤ t ∧ t < H a) (lb : L b ≤ t ∧ t < H b)
    (pa : ∀ i, (B a).testBit i = true → S.testBit i = true) (pb : ∀ i, (B b).testBit i = true → S.testBit i = true)
    (g : tp_G w B L H S t) : tp_G w B L H S' (t + 1) := by
  obtain ⟨s, hF, ht, hC⟩ := g
  have vi : ∀ i, S.testBit i = true → (if S.testBit i = true then s i else t) = s i := fun i hi => if_pos hi
  have vn : ∀ i, ¬ S.testBit i = true → (if S.testBit i = true then s i else t) = t := fun i hi => if_neg hi
  refine ⟨fun i => if S.testBit i = true then s i else t, ⟨?_, ?_, ?_, ?_⟩, ?_, ?_⟩
  · intro i hi
    show L i ≤ (if S.testBit i = true then s i else t) ∧ (if S.testBit i = true then s i else t) < H i
    by_cases hs : S.testBit i = true
    · rw [vi i hs]
      exact hF.1 i hs
    · rw [vn i hs]
      rcases (hS i).mp hi with h | h | h
      · exact absurd h hs
      · rw [h]; exact la
      · rw [h]; exact lb
  · intro i j hi hj hbb
    show (if S.testBit i = true then s i else t) < (if S.testBit j = true then s j else t)
    by_cases hs : S.testBit j = true
    · have hsi := hC j hs i hbb
      rw [vi i hsi, vi j hs]
      exact hF.2.1 i j hsi hs hbb
    · rw [vn j hs]
      have hsi : S.testBit i = true := by
        rcases (hS j).mp hj with h | h | h
        · exact absurd h hs
        · rw [h] at hbb; exact pa i hbb
        · rw [h] at hbb; exact pb i hbb
      rw [vi i hsi]
      exact ht i hsi
  · intro e i j hi hj
    show (if S.testBit i = true then s i else t) = (if S.testBit j = true then s j else t) → i = j
    have hab := hw e
    by_cases hs : S.testBit i = true
    · by_cases hs2 : S.testBit j = true
      · rw [vi i hs, vi j hs2]
        exact hF.2.2.1 e i j hs hs2
      · rw [vi i hs, vn j hs2]
        have := ht i hs
        intro h
        omega
    · by_cases hs2 : S.testBit j = true
      · rw [vn i hs, vi j hs2]
        have := ht j hs2
        intro h
        omega
      · intro _
        rcases (hS i).mp hi with h | h | h
        · exact absurd h hs
        · rcases (hS j).mp hj with h' | h' | h'
          · exact absurd h' hs2
          · omega
          · omega
        · rcases (hS j).mp hj with h' | h' | h'
          · exact absurd h' hs2
          · omega
          · omega
  · intro i j k hi hj hk
    show (if S.testBit i = true then s i else t) = (if S.testBit j = true then s j else t) → (if S.testBit j = true then s j else t) = (if S.testBit k = true then s k else t) → _
    have key : ∀ i, S'.testBit i = true → ¬ S.testBit i = true → i = a ∨ i = b := by
      intro i hi hs
      rcases (hS i).mp hi with h | h
      · exact absurd h hs
      · exact h
    by_cases h1 : S.testBit i = true
    · have t1 := ht i h1
      by_cases h2 : S.testBit j = true
      · have t2 := ht j h2
        by_cases h3 : S.testBit k = true
        · rw [vi i h1, vi j h2, vi k h3]
          exact hF.2.2.2 i j k h1 h2 h3
        · rw [vi i h1, vi j h2, vn k h3]
          intro _ h
          omega
      · rw [vi i h1, vn j h2]
        intro h
        omega
    · by_cases h2 : S.testBit j = true
      · have t2 := ht j h2
        rw [vn i h1, vi j h2]
        intro h
        omega
      · by_cases h3 : S.testBit k = true
        · have t3 := ht k h3
          rw [vn j h2, vi k h3]
          intro _ h
          omega
        · intro _ _
          have k1 := key i hi h1
          have k2 := key j hj h2
          have k3 := key k hk h3
          omega
  · intro i hi
    show (if S.testBit i = true then s i else t) < t + 1
    by_cases hs : S.testBit i = true
    · rw [vi i hs]
      exact Nat.lt_succ_of_lt (ht i hs)
    · rw [vn i hs]
      exact Nat.lt_succ_self t
  · intro j hj i hi
    apply (hS i).mpr
    rcases (hS j).mp hj with h | h | h
    · exact Or.inl (hC j h i hi)
    · rw [h] at hi; exact Or.inl (pa i hi)
    · rw [h] at hi; exact Or.inl (pb i hi)
/-- what lies in the last slot can be taken off -/
theorem tp_off {w S a b t : Nat} {B L H s : Nat → Nat} (hF : tp_F w B L H S s) (ht : ∀ i, S.testBit i = true → s i < t + 1) (hC : tp_C B S)
    (hab : ∀ i, S.testBit i = true → (s i = t ↔ i = a ∨ i = b)) : tp_G w B L H (tb_df S (2 ^ a ||| 2 ^ b)) t := by
  have hs : ∀ i, (tb_df S (2 ^ a ||| 2 ^ b)).testBit i = true → S.testBit i = true := fun i hi => ((tb_d2 S a b i).mp hi).1
  have hl : ∀ i, (tb_df S (2 ^ a ||| 2 ^ b)).testBit i = true → s i < t := by
    intro i hi
    have h1 := (tb_d2 S a b i).mp hi
    have h2 := ht i h1.1
    have h3 := hab i h1.1
    omega
  refine ⟨s, tp_F_mono hs (fun j _ i _ h => h) (fun _ _ => Nat.le_refl _) (fun _ _ => Nat.le_refl _) hF, hl, ?_⟩
  intro j hj i hi
  have hj' := hs j hj
  have hi' := hC j hj' i hi
  apply (tb_d2 S a b i).mpr
  have h1 := hF.2.1 i j hi' hj' hi
  have h2 := hl j hj
  have h3 := hab i hi'
  refine ⟨hi', ?_⟩
  omega
theorem tp_unext {w S t : Nat} {B L H : Nat → Nat} (g : tp_G w B L H S (t + 1)) : tp_G w B L H S t ∨
    ∃ a b, a ≤ b ∧ (w = 1 → a = b) ∧ S.testBit a = true ∧ S.testBit b = true ∧ (L a ≤ t ∧ t < H a) ∧ (L b ≤ t ∧ t < H b) ∧
      (∀ i, (B a).testBit i = true → (tb_df S (2 ^ a ||| 2 ^ b)).testBit i = true) ∧
      (∀ i, (B b).testBit i = true → (tb_df S (2 ^ a ||| 2 ^ b)).testBit i = true) ∧ tp_G w B L H (tb_df S (2 ^ a ||| 2 ^ b)) t := by
  obtain ⟨s, hF, ht, hC⟩ := g
  by_cases e1 : ∃ a, S.testBit a = true ∧ s a = t
  · right
    obtain ⟨a0, ha0, sa0⟩ := e1
    have main : ∃ a b, a ≤ b ∧ (w = 1 → a = b) ∧ S.testBit a = true ∧ S.testBit b = true ∧ s a = t ∧ s b = t ∧ ∀ i, S.testBit i = true → (s i = t ↔ i = a ∨ i = b) := by
      by_cases e2 : ∃ b, S.testBit b = true ∧ s b = t ∧ b ≠ a0
      · obtain ⟨b0, hb0, sb0, hne⟩ := e2
        have hall : ∀ i, S.testBit i = true → (s i = t ↔ i = a0 ∨ i = b0) := by
          intro i hi
          constructor
          · intro h
            have := hF.2.2.2 a0 b0 i ha0 hb0 hi (by omega) (by omega)
            omega
          · intro h
            rcases h with h | h <;> rw [h] <;> assumption
        have hw : ¬ w = 1 := fun e => hne (hF.2.2.1 e b0 a0 hb0 ha0 (by omega))
        rcases Nat.lt_or_ge a0 b0 with hlt | hge
        · exact ⟨a0, b0, by omega, fun e => absurd e hw, ha0, hb0, sa0, sb0, hall⟩
        · exact ⟨b0, a0, by omega, fun e => absurd e hw, hb0, ha0, sb0, sa0, fun i hi => (hall i hi).trans Or.comm⟩
      · refine ⟨a0, a0, Nat.le_refl _, fun _ => rfl, ha0, ha0, sa0, sa0, ?_⟩
        intro i hi
        constructor
        · intro h
          by_cases hia : i = a0
          · exact Or.inl hia
          · exact absurd ⟨i, hi, h, hia⟩ e2
        · intro h
          rcases h with h | h <;> rw [h] <;> assumption
    obtain ⟨a, b, hle, hw, ha, hb, sa, sb, hall⟩ := main
    have pr : ∀ c, S.testBit c = true → s c = t → ∀ i, (B c).testBit i = true → (tb_df S (2 ^ a ||| 2 ^ b)).testBit i = true := by
      intro c hc sc i hi
      have hi' := hC c hc i hi
      have h1 := hF.2.1 i c hi' hc hi
      have h3 := hall i hi'
      exact (tb_d2 S a b i).mpr ⟨hi', by omega⟩
    have wa := hF.1 a ha
    have wb := hF.1 b hb
    rw [sa] at wa
    rw [sb] at wb
    exact ⟨a, b, hle, hw, ha, hb, wa, wb, pr a ha sa, pr b hb sb, tp_off hF ht hC hall⟩
  · left
    refine ⟨s, hF, fun i hi => ?_, hC⟩
    have h1 := ht i hi
    have h2 : s i ≠ t := fun h => e1 ⟨i, hi, h⟩
    omega
/-! X's table -/
def tp_T (w : Nat) (B H : Nat → Nat) (S x : Nat) : Prop :=
  (x = 100 ∧ ∀ t, ¬ tp_G w B (fun _ => 0) H S t) ∨ (x ≤ 8 ∧ tp_G w B (fun _ => 0) H S x ∧ ∀ t, tp_G w B (fun _ => 0) H S t → x ≤ t)
def tp_vl (f B H : Nat → Nat) (S a b : Nat) : Nat :=
  if tb_df (B a ||| B b) (tb_df S (2 ^ a ||| 2 ^ b)) = 0 ∧ f (tb_df S (2 ^ a ||| 2 ^ b)) + 1 ≤ H a ∧ f (tb_df S (2 ^ a ||| 2 ^ b)) + 1 ≤ H b
  then f (tb_df S (2 ^ a ||| 2 ^ b)) + 1 else 100
theorem tp_T0 (w : Nat) (B H : Nat → Nat) : tp_T w B H 0 0 :=
  Or.inr ⟨by omega, tp_G_e w 0 B _ H, fun _ _ => Nat.zero_le _⟩
theorem tp_Tx {w S x : Nat} {B H : Nat → Nat} (h : tp_T w B H S x) : x ≤ 8 ∨ x = 100 := h.elim (fun h => Or.inr h.1) (fun h => Or.inl h.1)
theorem tp_vs {w S T a b : Nat} {f B H : Nat → Nat} (hT : ∀ i, S.testBit i = true → T.testBit i = true) (hH : ∀ i, T.testBit i = true → H i ≤ 8)
    (hf : ∀ s, s < S → (∀ i, s.testBit i = true → T.testBit i = true) → tp_T w B H s (f s))
    (hw : w = 1 → a = b) (ha : S.testBit a = true) (hb : S.testBit b = true) :
    tp_vl f B H S a b = 100 ∨ (tp_vl f B H S a b ≤ 8 ∧ tp_G w B (fun _ => 0) H S (tp_vl f B H S a b)) := by
  by_cases hc : tb_df (B a ||| B b) (tb_df S (2 ^ a ||| 2 ^ b)) = 0 ∧ f (tb_df S (2 ^ a ||| 2 ^ b)) + 1 ≤ H a ∧ f (tb_df S (2 ^ a ||| 2 ^ b)) + 1 ≤ H b
  · right
    have e : tp_vl f B H S a b = f (tb_df S (2 ^ a ||| 2 ^ b)) + 1 := if_pos hc
    rw [e]
    obtain ⟨h1, h2, h3⟩ := hc
    have hHa := hH a (hT a ha)
    have hlt : tb_df S (2 ^ a ||| 2 ^ b) < S := tb_dlt ha ((tb_ort _ _ _).mpr (Or.inl ((tb_pm a a).mpr rfl)))
    have ht := hf _ hlt (fun i hi => hT i ((tb_d2 S a b i).mp hi).1)
    refine ⟨by omega, ?_⟩
    rcases ht with ht | ht
    · omega
    · have hp := tb_df0.mp h1
      refine tp_ext (S := tb_df S (2 ^ a ||| 2 ^ b)) (a := a) (b := b) ?_ ?_ ?_ hw ⟨Nat.zero_le _, h2⟩ ⟨Nat.zero_le _, h3⟩ ?_ ?_ ht.2.1
      · intro i
        rw [tb_d2]
        constructor
        · intro hi
          by_cases e1 : i = a
          · exact Or.inr (Or.inl e1)
          · by_cases e2 : i = b
            · exact Or.inr (Or.inr e2)
            · exact Or.inl ⟨hi, e1, e2⟩
        · intro h
          rcases h with h | h | h
          · exact h.1
          · rw [h]; exact ha
          · rw [h]; exact hb
      · rw [tb_d2]; exact fun h => h.2.1 rfl
      · rw [tb_d2]; exact fun h => h.2.2 rfl
      · exact fun i hi => hp i ((tb_ort _ _ _).mpr (Or.inl hi))
      · exact fun i hi => hp i ((tb_ort _ _ _).mpr (Or.inr hi))
  · exact Or.inl (if_neg hc)
theorem tp_rec {w S T l : Nat} {f B H : Nat → Nat} (hS : S ≠ 0) (hT : ∀ i, S.testBit i = true → T.testBit i = true) (hH : ∀ i, T.testBit i = true → H i ≤ 8)
    (hf : ∀ s, s < S → (∀ i, s.testBit i = true → T.testBit i = true) → tp_T w B H s (f s))
    (h1 : ∀ a b, a ≤ b → (w = 1 → a = b) → S.testBit a = true → S.testBit b = true → l ≤ tp_vl f B H S a b)
    (h2 : l = 100 ∨ ∃ a b, (w = 1 → a = b) ∧ S.testBit a = true ∧ S.testBit b = true ∧ l = tp_vl f B H S a b) : tp_T w B H S l := by
  have hl : l = 100 ∨ (l ≤ 8 ∧ tp_G w B (fun _ => 0) H S l) := by
    rcases h2 with h | ⟨a, b, hw, ha, hb, e⟩
    · exact Or.inl h
    · rw [e]
      exact tp_vs hT hH hf hw ha hb
  by_cases hg : ∃ t, tp_G w B (fun _ => 0) H S t
  · obtain ⟨t, gt, tmin⟩ := pk_least _ hg
    have ht8 : t ≤ 8 := by
      rcases Nat.lt_or_ge 8 t with h | h
      · exact absurd (tp_E_G (t := 8) (fun i hi => hH i (hT i hi)) (by obtain ⟨_, _, _, hc⟩ := gt; exact hc) (tp_G_E gt)) (tmin 8 h)
      · exact h
    have hlt : l ≤ t := by
      cases t with
      | zero => exact absurd gt (tp_G_0 hS)
      | succ t =>
        rcases tp_unext gt with h | ⟨a, b, hle, hw, ha, hb, wa, wb, pa, pb, g'⟩
        · exact absurd h (tmin t (Nat.lt_succ_self t))
        · have hlt : tb_df S (2 ^ a ||| 2 ^ b) < S := tb_dlt ha ((tb_ort _ _ _).mpr (Or.inl ((tb_pm a a).mpr rfl)))
          have ht := hf _ hlt (fun i hi => hT i ((tb_d2 S a b i).mp hi).1)
          have hft : f (tb_df S (2 ^ a ||| 2 ^ b)) ≤ t := by
            rcases ht with ht | ht
            · exact absurd g' (ht.2 t)
            · exact ht.2.2 t g'
          have hv : tp_vl f B H S a b = f (tb_df S (2 ^ a ||| 2 ^ b)) + 1 := by
            refine if_pos ⟨tb_df0.mpr (fun i hi => ?_), by omega, by omega⟩
            rcases (tb_ort _ _ _).mp hi with h | h
            · exact pa i h
            · exact pb i h
          have := h1 a b hle hw ha hb
          omega
    rcases hl with h | h
    · omega
    · exact Or.inr ⟨h.1, h.2, fun t' g => by
        rcases Nat.lt_or_ge t' t with hh | hh
        · exact absurd g (tmin t' hh)
        · omega⟩
  · left
    refine ⟨?_, fun t g => hg ⟨t, g⟩⟩
    rcases hl with h | h
    · exact h
    · exact absurd ⟨l, h.2⟩ hg
theorem tp_TE {w S x : Nat} {B H : Nat → Nat} (hH : ∀ i, S.testBit i = true → H i ≤ 8) (hC : tp_C B S) (h : tp_T w B H S x) : x ≠ 100 ↔ tp_E w B (fun _ => 0) H S := by
  rcases h with h | h
  · exact ⟨fun n => absurd h.1 n, fun e => absurd (tp_E_G (t := 8) hH hC e) (h.2 8)⟩
  · exact ⟨fun _ => tp_G_E h.2.1, fun _ => by omega⟩
