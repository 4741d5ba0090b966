/-! X's table of sets, the tightening of one deadline -/
section
variable {fc fp : Int32} {dl bf td tb sf : Nat → Int32}
/-- the trial arrays hold deadlines H and predecessors B for the tasks of T -/
def xt_C (T : Nat) (B H : Nat → Nat) (td tb : Nat → Int32) : Prop := ∀ i, T.testBit i = true → td i = nI (H i) ∧ H i ≤ 8 ∧ tb i = nI (B i)
/-- the table holds what it should for the sets below n -/
def xt_F (w : Nat) (B H : Nat → Nat) (T n : Nat) (sf : Nat → Int32) : Prop :=
  ∀ s, s < n → (∀ i, s.testBit i = true → T.testBit i = true) → ∃ x, sf s = nI x ∧ tp_T w B H s x
def xt_I (w : Nat) (f B H : Nat → Nat) (S l a b : Nat) : Prop :=
  (∀ a' b', a' ≤ b' → (w = 1 → a' = b') → S.testBit a' = true → S.testBit b' = true → (a' < a ∨ (a' = a ∧ b' < b)) → l ≤ tp_vl f B H S a' b') ∧
  (l = 100 ∨ ∃ a' b', (w = 1 → a' = b') ∧ S.testBit a' = true ∧ S.testBit b' = true ∧ l = tp_vl f B H S a' b')
theorem xt_I_up {w S l a b a2 b2 : Nat} {f B H : Nat → Nat} (h : xt_I w f B H S l a b)
    (hh : ∀ a' b', a' ≤ b' → (w = 1 → a' = b') → S.testBit a' = true → S.testBit b' = true → (a' < a2 ∨ (a' = a2 ∧ b' < b2)) → (a' < a ∨ (a' = a ∧ b' < b))) : xt_I w f B H S l a2 b2 :=
  ⟨fun a' b' h1 h2 h3 h4 h5 => h.1 a' b' h1 h2 h3 h4 (hh a' b' h1 h2 h3 h4 h5), h.2⟩
theorem xt_f {w T n : Nat} {B H : Nat → Nat} (h : xt_F w B H T n sf) {s : Nat} (hs : s < n) (hT : ∀ i, s.testBit i = true → T.testBit i = true) :
    sf s = nI (sf s).toNatClampNeg ∧ (sf s).toNatClampNeg ≤ 100 ∧ tp_T w B H s (sf s).toNatClampNeg := by
  obtain ⟨x, e, ht⟩ := h s hs hT
  have hx : x ≤ 100 := by
    rcases tp_Tx ht with h | h <;> omega
  have ec : (sf s).toNatClampNeg = x := by rw [e]; exact nI_clamp (by omega)
  rw [ec]
  exact ⟨e, hx, ht⟩
theorem xt_vl {w S T a b : Nat} {f B H : Nat → Nat} (hT : ∀ i, S.testBit i = true → T.testBit i = true) (hH : ∀ i, T.testBit i = true → H i ≤ 8)
    (hf : ∀ s, s < S → (∀ i, s.testBit i = true → T.testBit i = true) → tp_T w B H s (f s))
    (hw : w = 1 → a = b) (ha : S.testBit a = true) (hb : S.testBit b = true) : tp_vl f B H S a b ≤ 100 := by
  rcases tp_vs hT hH hf hw ha hb with h | h <;> omega
theorem xt_in {post : Int32 → Prop} {J : Int32 → Int32 → Prop} {w S T a last : Nat} {B H : Nat → Nat} (hTl : T < 128) (hT : ∀ i, S.testBit i = true → T.testBit i = true)
    (hC : xt_C T B H td tb) (hB : tp_C B T) (hf : xt_F w B H T S sf) (ha : a < 7) (hl : last < 7) (hwl : w = 1 → last = a)
    (hJ : ∀ l, l ≤ 100 → xt_I w (fun s => (sf s).toNatClampNeg) B H S l a (last + 1) → J (nI l) (nI (a + 1))) :
    ∀ d b l, b + d = last + 1 → a ≤ b → l ≤ 100 → xt_I w (fun s => (sf s).toNatClampNeg) B H S l a b →
      wX_slotsForSet_30 post J (nI S) (nI a) (nI last) (nI w) fc fp dl bf td tb sf (d + 1) (nI l) (nI b) := by
  have hS : S < 128 := tb_sl hT hTl
  have hH : ∀ i, T.testBit i = true → H i ≤ 8 := fun i hi => (hC i hi).2.1
  intro d
  induction d with
  | zero =>
    intro b l hb hab hl1 hI
    have e : b = last + 1 := by omega
    subst e
    exact br_t (nI_lt (Nat.lt_succ_self last) (by omega)) (nm_r (nI_1 a) (hJ l hl1 hI))
  | succ d ih =>
    intro b l hb hab hl1 hI
    have hb7 : b < 7 := by omega
    have hw : w = 1 → a = b := fun e => by have := hwl e; omega
    have hn : ¬ nI last < nI b := nI_nlt (by omega) (by omega)
    have skip : ¬ (S.testBit a = true ∧ S.testBit b = true) → wX_slotsForSet_30 post J (nI S) (nI a) (nI last) (nI w) fc fp dl bf td tb sf (d + 1) (nI l) (nI (b + 1)) := by
      intro hno
      refine ih (b + 1) l (by omega) (by omega) hl1 (xt_I_up hI ?_)
      intro a' b' h1 h2 h3 h4 h5
      have : ¬ (a' = a ∧ b' = b) := fun e => hno ⟨e.1 ▸ h3, e.2 ▸ h4⟩
      omega
    by_cases h1 : S.testBit a = true
    · by_cases h2 : S.testBit b = true
      · have ta := hC a (hT a h1)
        have tb' := hC b (hT b h2)
        have hlt : tb_df S (2 ^ a ||| 2 ^ b) < S := tb_dlt h1 ((tb_ort _ _ _).mpr (Or.inl ((tb_pm a a).mpr rfl)))
        have hx := xt_f hf hlt (fun i hi => hT i ((tb_d2 S a b i).mp hi).1)
        have hv : tp_vl (fun s => (sf s).toNatClampNeg) B H S a b ≤ 100 := xt_vl hT hH (fun s hs hsT => (xt_f hf hs hsT).2.2) hw h1 h2
        have lB : B a ||| B b < 128 := tb_sl (T := T) (fun i hi => by
          rcases (tb_ort _ _ _).mp hi with h | h
          · exact hB a (hT a h1) i h
          · exact hB b (hT b h2) i h) hTl
        refine br_f hn (xs_has1 hS ha h1 (br_f xs_10 (xs_has1 hS hb7 h2 (br_f xs_10
          (xs_se (f := fun s => (sf s).toNatClampNeg) (B := B) (H := H) hS ha hb7 hx.1 hx.2.1 ta.1 tb'.1 ta.2.1 tb'.2.1 ta.2.2 tb'.2.2 lB ?_)))))
        refine pk_le l (tp_vl (fun s => (sf s).toNatClampNeg) B H S a b) (fun hle => nm_r (nI_1 b) (ih (b + 1) l (by omega) (by omega) hl1 ⟨?_, hI.2⟩))
          (fun hgt => nm_r (nI_1 b) (ih (b + 1) _ (by omega) (by omega) hv ⟨?_, Or.inr ⟨a, b, hw, h1, h2, rfl⟩⟩))
        · intro a' b' g1 g2 g3 g4 g5
          by_cases e : a' = a ∧ b' = b
          · rw [e.1, e.2]; exact hle
          · exact hI.1 a' b' g1 g2 g3 g4 (by omega)
        · intro a' b' g1 g2 g3 g4 g5
          by_cases e : a' = a ∧ b' = b
          · rw [e.1, e.2]; exact Nat.le_refl _
          · exact Nat.le_trans (Nat.le_of_lt hgt) (hI.1 a' b' g1 g2 g3 g4 (by omega))
      · exact br_f hn (xs_has1 hS ha h1 (br_f xs_10 (xs_has0 hS hb7 h2 (br_t rfl (nm_r (nI_1 b) (skip (fun h => h2 h.2)))))))
    · exact br_f hn (xs_has0 hS ha h1 (br_t rfl (nm_r (nI_1 b) (skip (fun h => h1 h.1)))))
theorem xt_out {post : Int32 → Prop} {w S T : Nat} {B H : Nat → Nat} (hw : w = 1 ∨ w = 2) (hTl : T < 128) (hT : ∀ i, S.testBit i = true → T.testBit i = true)
    (hC : xt_C T B H td tb) (hB : tp_C B T) (hf : xt_F w B H T S sf)
    (hp : ∀ l, xt_I w (fun s => (sf s).toNatClampNeg) B H S l 7 7 → post (nI l)) :
    ∀ d a l, a + d = 7 → l ≤ 100 → xt_I w (fun s => (sf s).toNatClampNeg) B H S l a a →
      wX_slotsForSet_5 post (nI S) (nI w) fc fp dl bf td tb sf (d + 1) (nI l) (nI a) := by
  have hS : S < 128 := tb_sl hT hTl
  intro d
  induction d with
  | zero =>
    intro a l ha hl hI
    have e : a = 7 := by omega
    subst e
    exact br_t xs_77 (hp l hI)
  | succ d ih =>
    intro a l ha hl hI
    have ha7 : a < 7 := by omega
    rcases hw with hw | hw
    · refine br_f (xs_7 ha7) (br_t (by rw [hw]; decide) ⟨2, xt_in (last := a) hTl hT hC hB hf ha7 ha7 (fun _ => rfl) (fun l' hl' hI' => ih (a + 1) l' (by omega) hl' (xt_I_up hI' ?_)) 1 a l (by omega) (Nat.le_refl _) hl hI⟩)
      intro a' b' g1 g2 g3 g4 g5
      have := g2 hw
      omega
    · refine br_f (xs_7 ha7) (br_f (by rw [hw]; decide) ⟨7 - a + 1, xt_in (last := 6) hTl hT hC hB hf ha7 (by omega) (fun e => by omega) (fun l' hl' hI' => ih (a + 1) l' (by omega) hl' (xt_I_up hI' ?_)) (7 - a) a l (by omega) (Nat.le_refl _) hl hI⟩)
      intro a' b' g1 g2 g3 g4 g5
      have := tb_lt7 hS g4
      omega
theorem xt_sfs {post : Int32 → Prop} {w S T : Nat} {B H : Nat → Nat} (hw : w = 1 ∨ w = 2) (hTl : T < 128) (hT : ∀ i, S.testBit i = true → T.testBit i = true) (h0 : S ≠ 0)
    (hC : xt_C T B H td tb) (hB : tp_C B T) (hf : xt_F w B H T S sf) (hp : ∀ x, tp_T w B H S x → post (nI x)) :
    wpX_slotsForSet post (nI w, fc, fp, dl, bf, td, tb, sf) (nI S) := by
  have hS : S < 128 := tb_sl hT hTl
  refine ⟨8, xt_out hw hTl hT hC hB hf (fun l hI => hp l ?_) 7 0 100 rfl (by omega) ⟨fun a' b' g1 g2 g3 g4 g5 => by omega, Or.inl rfl⟩⟩
  refine tp_rec (T := T) (f := fun s => (sf s).toNatClampNeg) h0 hT (fun i hi => (hC i hi).2.1) (fun s hs hsT => (xt_f hf hs hsT).2.2) (fun a b g1 g2 g3 g4 => hI.1 a b g1 g2 g3 g4 (Or.inl (tb_lt7 hS g3))) hI.2
theorem xt_tsl {post : Int32 → SX → Prop} {w T : Nat} {B H : Nat → Nat} (hw : w = 1 ∨ w = 2) (hTl : T < 128) (hC : xt_C T B H td tb) (hB : tp_C B T)
    (hp : ∀ x (sf' : Nat → Int32), tp_T w B H T x → post (nI x) (nI w, fc, fp, dl, bf, td, tb, sf')) :
    ∀ d n, ∀ sf : Nat → Int32, n + d = 128 → 1 ≤ n → xt_F w B H T n sf → wX_trialSlots_9 post (nI T) (nI w) fc fp (d + 1) (nI n) dl bf td tb sf := by
  intro d
  induction d with
  | zero =>
    intro n sf hn h1 hf
    have e : n = 128 := by omega
    subst e
    obtain ⟨x, ex, hx⟩ := hf T hTl (fun _ h => h)
    refine br_t (by decide) ⟨xs_in8 hTl, ?_⟩
    rw [nI_clamp (by omega), ex]
    exact hp x sf hx
  | succ d ih =>
    intro n sf hn h1 hf
    have hn8 : n < 128 := by omega
    have ec : (nI n).toNatClampNeg = n := nI_clamp (by omega)
    have h128 : ¬ (128 : Int32) ≤ nI n := nI_ge (b := 128) hn8 (by decide)
    have et : (nI n &&& (nI T ^^^ (-1))) = 0 ↔ ∀ i, n.testBit i = true → T.testBit i = true := by
      rw [tb_dif, tb_nz (Nat.lt_of_le_of_lt (tb_dle _ _) hn8)]
      exact tb_df0
    by_cases hT : ∀ i, n.testBit i = true → T.testBit i = true
    · refine br_f h128 (br_t (et.mpr hT) (xt_sfs hw hTl hT (by omega) hC hB hf (fun x hx => ⟨xs_in8 hn8, nm_e (nm_r (nI_1 n) (ih (n + 1) _ (by omega) (by omega) ?_))⟩)))
      rw [ec]
      intro s hs hsT
      by_cases e : s = n
      · rw [e, pk_us]; exact ⟨x, rfl, hx⟩
      · rw [pk_un e]; exact hf s (by omega) hsT
    · refine br_f h128 (br_f (fun h => hT (et.mp h)) ⟨xs_in8 hn8, nm_e (nm_r (nI_1 n) (ih (n + 1) _ (by omega) (by omega) ?_))⟩)
      rw [ec]
      intro s hs hsT
      by_cases e : s = n
      · exact absurd (e ▸ hsT) hT
      · rw [pk_un e]; exact hf s (by omega) hsT
theorem xt_ts {post : Int32 → SX → Prop} {w T : Nat} {B H : Nat → Nat} (hw : w = 1 ∨ w = 2) (hTl : T < 128) (hC : xt_C T B H td tb) (hB : tp_C B T)
    (hp : ∀ x (sf' : Nat → Int32), tp_T w B H T x → post (nI x) (nI w, fc, fp, dl, bf, td, tb, sf')) :
    wpX_trialSlots post (nI w, fc, fp, dl, bf, td, tb, sf) (nI T) := by
  refine nm_e ⟨128, xt_tsl hw hTl hC hB hp 127 1 _ rfl (Nat.le_refl _) ?_⟩
  intro s hs hsT
  have e : s = 0 := by omega
  rw [e]
  exact ⟨0, pk_us, tp_T0 w B H⟩
theorem xt_100 {x : Nat} (h : x ≤ 8 ∨ x = 100) : nI x = 100 ↔ x = 100 := nI_eq (b := 100) (by omega) (by decide)
theorem xt_ttl {post : Int32 → SX → Prop} {w P k : Nat} {B H : Nat → Nat} (hw : w = 1 ∨ w = 2) (hP : P < 128) (hk : P.testBit k = true) (hB : tp_C B P)
    (hE : tp_E w B (fun _ => 0) H P) (h8 : ∀ i, P.testBit i = true → H i ≤ 8)
    (hp : ∀ d (td' sf' : Nat → Int32), tp_D w B H P k d → xt_C P B (tp_up H k d) td' tb → post (nI d) (nI w, fc, nI P, dl, bf, td', tb, sf')) :
    ∀ n d, ∀ td sf : Nat → Int32, d + n = H k → (∀ i, P.testBit i = true → (i ≠ k → td i = nI (H i)) ∧ tb i = nI (B i)) → (∀ d', d' < d → ¬ tp_E w B (fun _ => 0) (tp_up H k d') P) →
      wX_tightenTrial_9 post (nI k) (nI (H k)) (n + 1) (nI d) (nI w) fc (nI P) dl bf td tb sf := by
  have hk7 := tb_lt7 hP hk
  have hk8 := h8 k hk
  have ec : (nI k).toNatClampNeg = k := nI_clamp (by omega)
  have hcont : ∀ (d : Nat) (td : Nat → Int32), d ≤ 8 → (∀ i, P.testBit i = true → (i ≠ k → td i = nI (H i)) ∧ tb i = nI (B i)) → xt_C P B (tp_up H k d) (upd td (nI k).toNatClampNeg (nI d)) tb := by
    intro d td hd htd i hi
    rw [ec]
    by_cases e : i = k
    · rw [e, pk_us, tp_us]
      exact ⟨rfl, hd, (htd k hk).2⟩
    · rw [pk_un e, tp_un H _ e]
      exact ⟨(htd i hi).1 e, h8 i hi, (htd i hi).2⟩
  intro n
  induction n with
  | zero =>
    intro d td sf hd htd hno
    have e : d = H k := by omega
    subst e
    refine br_t (nI_le (Nat.le_refl _) (by omega)) ⟨xs_in hk7, nm_e (hp (H k) _ sf ⟨by rw [tp_ui]; exact hE, hno⟩ (hcont _ td hk8 htd))⟩
  | succ n ih =>
    intro d td sf hd htd hno
    have hc := hcont d td (by omega) htd
    refine br_f (nI_ge (by omega) (by omega)) ⟨xs_in hk7, nm_e (xt_ts hw hP hc hB (fun x sf' hx => ?_))⟩
    have h100 := xt_100 (tp_Tx hx)
    have hE' := tp_TE (fun i hi => (hc i hi).2.1) hB hx
    by_cases h : x = 100
    · refine br_t (h100.mpr h) (nm_r (nI_1 d) (ih (d + 1) _ sf' (by omega) ?_ ?_))
      · rw [ec]
        exact fun i hi => ⟨fun e => by rw [pk_un e]; exact (htd i hi).1 e, (htd i hi).2⟩
      · exact lt_s hno (fun he => (hE'.mpr he) h)
    · exact br_f (fun e => h (h100.mp e)) (hp d _ sf' ⟨hE'.mp h, hno⟩ hc)
theorem xt_tt {post : Int32 → SX → Prop} {w P k : Nat} {B H : Nat → Nat} (hw : w = 1 ∨ w = 2) (hP : P < 128) (hk : P.testBit k = true) (hB : tp_C B P)
    (hE : tp_E w B (fun _ => 0) H P) (hC : xt_C P B H td tb)
    (hp : ∀ d (td' sf' : Nat → Int32), tp_D w B H P k d → xt_C P B (tp_up H k d) td' tb → post (nI d) (nI w, fc, nI P, dl, bf, td', tb, sf')) :
    wpX_tightenTrial post (nI w, fc, nI P, dl, bf, td, tb, sf) (nI k) := by
  have hk7 := tb_lt7 hP hk
  have ec : (nI k).toNatClampNeg = k := nI_clamp (by omega)
  have h0 : H k ≠ 0 := fun e => tp_E0 hk e hE
  refine ⟨xs_in hk7, nm_r (e' := nI (H k)) (by rw [ec]; exact (hC k hk).1) ⟨H k - 1 + 1, xt_ttl hw hP hk hB hE (fun i hi => (hC i hi).2.1) hp (H k - 1) 1 td sf (by omega) ?_ ?_⟩⟩
  · exact fun i hi => ⟨fun _ => (hC i hi).1, (hC i hi).2.2⟩
  · intro d' hd'
    have e : d' = 0 := by omega
    rw [e]
    exact tp_E0 hk (tp_us H k 0)
end
