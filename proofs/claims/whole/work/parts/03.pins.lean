/-! Y's rounds, least deadlines, pins, ways along links -/
def tp_R (B L H : Nat → Nat) (P S t a : Nat) : Prop :=
  P.testBit a = true ∧ ¬ S.testBit a = true ∧ L a ≤ t ∧ t < H a ∧ ∀ i, (B a).testBit i = true → S.testBit i = true
def tp_S (w : Nat) (B L H : Nat → Nat) (P S t s : Nat) : Prop :=
  ∃ a b, a ≤ b ∧ (w = 1 → a = b) ∧ tp_R B L H P S t a ∧ tp_R B L H P S t b ∧ s = (S ||| 2 ^ a) ||| 2 ^ b
theorem tp_o2 (S a b i : Nat) : ((S ||| 2 ^ a) ||| 2 ^ b).testBit i = true ↔ S.testBit i = true ∨ i = a ∨ i = b := by
  rw [tb_o1, tb_o1, or_assoc]
theorem tp_S_lt {w P S t s : Nat} {B L H : Nat → Nat} (h : tp_S w B L H P S t s) : S < s := by
  obtain ⟨a, b, _, _, ra, _, e⟩ := h
  have h1 : S ≤ s := tb_le (fun i hi => by rw [e, tp_o2]; exact Or.inl hi)
  have h2 : S ≠ s := by
    intro h
    apply ra.2.1
    rw [h, e, tp_o2]
    exact Or.inr (Or.inl rfl)
  omega
theorem tp_S_sub {w P S t s : Nat} {B L H : Nat → Nat} (hS : ∀ i, S.testBit i = true → P.testBit i = true) (h : tp_S w B L H P S t s) : ∀ i, s.testBit i = true → P.testBit i = true := by
  obtain ⟨a, b, _, _, ra, rb, e⟩ := h
  intro i hi
  rw [e, tp_o2] at hi
  rcases hi with h | h | h
  · exact hS i h
  · rw [h]; exact ra.1
  · rw [h]; exact rb.1
theorem tp_Y {w P s t : Nat} {B L H : Nat → Nat} (hs : ∀ i, s.testBit i = true → P.testBit i = true) :
    tp_G w B L H s (t + 1) ↔ tp_G w B L H s t ∨ ∃ S, (∀ i, S.testBit i = true → P.testBit i = true) ∧ tp_G w B L H S t ∧ tp_S w B L H P S t s := by
  constructor
  · intro g
    rcases tp_unext g with h | ⟨a, b, hle, hw, ha, hb, wa, wb, pa, pb, g'⟩
    · exact Or.inl h
    · right
      refine ⟨_, fun i hi => hs i ((tb_d2 s a b i).mp hi).1, g', a, b, hle, hw, ⟨hs a ha, ?_, wa.1, wa.2, pa⟩, ⟨hs b hb, ?_, wb.1, wb.2, pb⟩, ?_⟩
      · rw [tb_d2]; exact fun h => h.2.1 rfl
      · rw [tb_d2]; exact fun h => h.2.2 rfl
      · apply tb_ext
        intro i
        rw [tp_o2, tb_d2]
        constructor
        · intro hi
          by_cases e1 : i = a
          · exact Or.inr (Or.inl e1)
          · by_cases e2 : i = b
            · exact Or.inr (Or.inr e2)
            · exact Or.inl ⟨hi, e1, e2⟩
        · intro h
          rcases h with h | h | h
          · exact h.1
          · rw [h]; exact ha
          · rw [h]; exact hb
  · intro h
    rcases h with h | ⟨S, hS, g, a, b, hle, hw, ra, rb, e⟩
    · exact tp_G_up (Nat.le_succ t) h
    · exact tp_ext (fun i => by rw [e, tp_o2]) ra.2.1 rb.2.1 hw ⟨ra.2.2.1, ra.2.2.2.1⟩ ⟨rb.2.2.1, rb.2.2.2.1⟩ ra.2.2.2.2 rb.2.2.2.2 g
/-! the least deadline of a task -/
def tp_D (w : Nat) (B H : Nat → Nat) (P j d : Nat) : Prop :=
  tp_E w B (fun _ => 0) (tp_up H j d) P ∧ ∀ d', d' < d → ¬ tp_E w B (fun _ => 0) (tp_up H j d') P
theorem tp_D_u {w P j d e : Nat} {B H : Nat → Nat} (h : tp_D w B H P j d) (h' : tp_D w B H P j e) : d = e := by
  rcases Nat.lt_trichotomy d e with hh | hh | hh
  · exact absurd h.1 (h'.2 d hh)
  · exact hh
  · exact absurd h'.1 (h.2 e hh)
theorem tp_D_ex {w P j : Nat} {B H : Nat → Nat} (h : tp_E w B (fun _ => 0) H P) : ∃ d, tp_D w B H P j d := by
  have : ∃ d, tp_E w B (fun _ => 0) (tp_up H j d) P := ⟨H j, by rw [tp_ui]; exact h⟩
  obtain ⟨d, h1, h2⟩ := pk_least _ this
  exact ⟨d, h1, h2⟩
theorem tp_D_le {w P j d : Nat} {B H : Nat → Nat} (h : tp_E w B (fun _ => 0) H P) (hd : tp_D w B H P j d) : d ≤ H j := by
  rcases Nat.lt_or_ge (H j) d with hh | hh
  · exact absurd (by rw [tp_ui]; exact h) (hd.2 (H j) hh)
  · exact hh
theorem tp_E0 {w P j : Nat} {B L H : Nat → Nat} (hj : P.testBit j = true) (hH : H j = 0) : ¬ tp_E w B L H P := by
  intro ⟨s, hF⟩
  have := hF.1 j hj
  omega
theorem tp_D_pos {w P j d : Nat} {B H : Nat → Nat} (hj : P.testBit j = true) (hd : tp_D w B H P j d) : 1 ≤ d := by
  cases d with
  | zero => exact absurd hd.1 (tp_E0 hj (tp_us H j 0))
  | succ d => omega
theorem tp_D_pin {w P j d : Nat} {B H s : Nat → Nat} (hj : P.testBit j = true) (hd : tp_D w B H P j d) (hF : tp_F w B (fun _ => 0) (tp_up H j d) P s) : s j + 1 = d := by
  have h1 := (hF.1 j hj).2
  rw [tp_us] at h1
  rcases Nat.lt_or_ge (s j + 1) d with hh | hh
  · refine absurd ⟨s, ⟨fun i hi => ⟨Nat.zero_le _, ?_⟩, hF.2.1, hF.2.2⟩⟩ (hd.2 (s j + 1) hh)
    by_cases e : i = j
    · rw [e, tp_us]; omega
    · have := (hF.1 i hi).2
      rw [tp_un H _ e] at this ⊢
      exact this
  · omega
theorem tp_F_d {w P j d : Nat} {B L H s : Nat → Nat} (h : d ≤ H j) (hF : tp_F w B L (tp_up H j d) P s) : tp_F w B L H P s := by
  refine ⟨fun i hi => ?_, hF.2.1, hF.2.2⟩
  have := hF.1 i hi
  by_cases e : i = j
  · rw [e, tp_us] at this
    rw [e]
    omega
  · rw [tp_un H _ e] at this
    exact this
theorem tp_set {w P k d : Nat} {B L H : Nat → Nat} (hk : P.testBit k = true) (hE : tp_E w B (fun _ => 0) H P) (hd : tp_D w B H P k d)
    (hL : ∀ s, tp_F w B (fun _ => 0) H P s → ∀ j, P.testBit j = true → L j ≤ s j) :
    (∀ s, s + 1 < d → ¬ tp_E w B (tp_up L k s) (tp_up H k (s + 1)) P) ∧ tp_E w B (tp_up L k (d - 1)) (tp_up H k d) P := by
  constructor
  · intro s hs ⟨g, hF⟩
    exact hd.2 (s + 1) hs ⟨g, ⟨fun i hi => ⟨Nat.zero_le _, (hF.1 i hi).2⟩, hF.2.1, hF.2.2⟩⟩
  · obtain ⟨g, hF⟩ := hd.1
    have hp := tp_D_pin hk hd hF
    refine ⟨g, ⟨fun i hi => ⟨?_, (hF.1 i hi).2⟩, hF.2.1, hF.2.2⟩⟩
    by_cases e : i = k
    · rw [e, tp_us]; omega
    · rw [tp_un L _ e]
      exact hL g (tp_F_d (tp_D_le hE hd) hF) i hi
/-! the tasks pinned one after the other -/
def tp_P (w : Nat) (B : Nat → Nat) (P : Nat) (H0 : Nat → Nat) : Nat → (Nat → Nat) → Prop
  | 0, H => H = H0
  | k + 1, H => ∃ H', tp_P w B P H0 k H' ∧ ((P.testBit k = true ∧ ∃ d, tp_D w B H' P k d ∧ H = tp_up H' k d) ∨ (¬ P.testBit k = true ∧ H = H'))
theorem tp_P_u {w P : Nat} {B H0 : Nat → Nat} : ∀ {k : Nat} {H H' : Nat → Nat}, tp_P w B P H0 k H → tp_P w B P H0 k H' → H = H' := by
  intro k
  induction k with
  | zero => intro H H' h h'; exact Eq.trans h (Eq.symm h')
  | succ k ih =>
    intro H H' h h'
    obtain ⟨G, hG, h⟩ := h
    obtain ⟨G', hG', h'⟩ := h'
    have e := ih hG hG'
    subst e
    rcases h with ⟨hk, d, hd, e1⟩ | ⟨hk, e1⟩
    · rcases h' with ⟨_, d', hd', e2⟩ | ⟨hk', _⟩
      · rw [e1, e2, tp_D_u hd hd']
      · exact absurd hk hk'
    · rcases h' with ⟨hk', _⟩ | ⟨_, e2⟩
      · exact absurd hk' hk
      · rw [e1, e2]
theorem tp_P_i {w P : Nat} {B H0 : Nat → Nat} (hE : tp_E w B (fun _ => 0) H0 P) (h8 : ∀ i, P.testBit i = true → H0 i ≤ 8) :
    ∀ {k : Nat} {H : Nat → Nat}, tp_P w B P H0 k H → tp_E w B (fun _ => 0) H P ∧ (∀ i, P.testBit i = true → H i ≤ 8) ∧
      (∀ s, tp_F w B (fun _ => 0) H P s → ∀ j, P.testBit j = true → j < k → H j ≤ s j + 1) ∧ (∀ j, k ≤ j → H j = H0 j) := by
  intro k
  induction k with
  | zero =>
    intro H h
    have e : H = H0 := h
    rw [e]
    exact ⟨hE, h8, fun _ _ _ _ h => absurd h (Nat.not_lt_zero _), fun _ _ => rfl⟩
  | succ k ih =>
    intro H h
    obtain ⟨G, hG, h⟩ := h
    obtain ⟨i1, i2, i3, i4⟩ := ih hG
    rcases h with ⟨hk, d, hd, e⟩ | ⟨hk, e⟩
    · rw [e]
      have hle := tp_D_le i1 hd
      refine ⟨hd.1, fun i hi => ?_, fun s hF j hj hjk => ?_, fun j hj => ?_⟩
      · by_cases e1 : i = k
        · rw [e1, tp_us]
          have := i2 k hk
          omega
        · rw [tp_un G _ e1]; exact i2 i hi
      · by_cases e1 : j = k
        · rw [e1, tp_us]
          have := tp_D_pin hk hd hF
          omega
        · rw [tp_un G _ e1]
          exact i3 s (tp_F_d hle hF) j hj (by omega)
      · rw [tp_un G _ (by omega)]
        exact i4 j (by omega)
    · rw [e]
      refine ⟨i1, i2, fun s hF j hj hjk => i3 s hF j hj ?_, fun j hj => i4 j (by omega)⟩
      have : j ≠ k := fun e1 => hk (e1 ▸ hj)
      omega
/-! ways along links -/
def tp_Q (B : Nat → Nat) : Nat → Nat → Nat → Prop
  | 0, a, b => a = b
  | n + 1, a, b => ∃ c, tp_Q B n a c ∧ (B b).testBit c = true
theorem tp_Qf {B : Nat → Nat} : ∀ {n a b : Nat}, tp_Q B (n + 1) a b ↔ ∃ c, (B c).testBit a = true ∧ tp_Q B n c b := by
  intro n
  induction n with
  | zero =>
    intro a b
    constructor
    · intro ⟨c, hc, hb⟩
      have e : a = c := hc
      exact ⟨b, by rw [e]; exact hb, rfl⟩
    · intro ⟨c, hc, hb⟩
      have e : c = b := hb
      exact ⟨a, rfl, by rw [← e]; exact hc⟩
  | succ n ih =>
    intro a b
    constructor
    · intro ⟨c, hc, hb⟩
      obtain ⟨e, he, hq⟩ := ih.mp hc
      exact ⟨e, he, c, hq, hb⟩
    · intro ⟨e, he, c, hq, hb⟩
      exact ⟨c, ih.mpr ⟨e, he, hq⟩, hb⟩
theorem tp_Qb {w P : Nat} {B L H s : Nat → Nat} (hC : tp_C B P) (hF : tp_F w B L H P s) : ∀ {n a b : Nat}, P.testBit b = true → tp_Q B n a b → P.testBit a = true ∧ s a + n ≤ s b := by
  intro n
  induction n with
  | zero =>
    intro a b hb h
    have e : a = b := h
    rw [e]
    exact ⟨hb, Nat.le_refl _⟩
  | succ n ih =>
    intro a b hb h
    obtain ⟨c, hq, hc⟩ := h
    have pc := hC b hb c hc
    have h1 := ih pc hq
    have h2 := hF.2.1 c b pc hb hc
    exact ⟨h1.1, by omega⟩
/-- a way of one link or more leads from a to b -/
def tp_K (B : Nat → Nat) (a b : Nat) : Prop := ∃ n, tp_Q B (n + 1) a b
theorem tp_K7 {w P a b : Nat} {B H : Nat → Nat} (hC : tp_C B P) (hE : tp_E w B (fun _ => 0) H P) (h8 : ∀ i, P.testBit i = true → H i ≤ 8) (hb : P.testBit b = true) (h : tp_K B a b) :
    ∃ n, n ≤ 6 ∧ tp_Q B (n + 1) a b := by
  obtain ⟨s, hF⟩ := hE
  obtain ⟨n, hn⟩ := h
  have h1 := tp_Qb hC hF hb hn
  have h2 := (hF.1 b hb).2
  have h3 := h8 b hb
  exact ⟨n, by omega, hn⟩
/-! numbers of tasks -/
def tp_cn (P : Nat) : Nat → Nat
  | 0 => 0
  | m + 1 => tp_cn P m + if P.testBit (6 - m) = true then 1 else 0
def tp_lf (P : Nat) : Nat → Nat
  | 0 => 7
  | m + 1 => if P.testBit (6 - m) = true then tp_lf P m else 6 - m
theorem tp_cl : ∀ P, P < 128 → ∀ c, c < 8 → P < 2 ^ c → (c ≤ tp_cn P 7 ↔ c ≤ tp_lf P 7) := by decide +kernel
theorem tp_fu : ∀ P, P < 128 → ∀ n, n < 8 → (∀ i, i < n → P.testBit i = true) → (n < 7 → P.testBit n = false) → n = tp_lf P 7 := by decide +kernel
theorem tp_md : ∀ P, P < 128 → ∀ j, j < 7 → P % 2 ^ (j + 1) = P % 2 ^ j ||| (if P.testBit j = true then 2 ^ j else 0) := by decide +kernel
theorem tp_lc : ∀ P, P < 128 → ∀ c, c < 8 → P < 2 ^ c → ∀ n, n < c → P ||| 2 ^ n < 2 ^ c := by decide +kernel
