/-! X's small methods -/
section
variable {fm fc fp : Int32} {dl bf td tb sf : Nat → Int32}
/-- x names no task of P -/
def tp_N (P : Nat) (x : Int32) : Prop := x < 0 ∨ 7 ≤ x ∨ ∃ k, k < 7 ∧ x = nI k ∧ ¬ P.testBit k = true
theorem tp_NT (P : Nat) (x : Int32) : tp_N P x ∨ ∃ k, k < 7 ∧ x = nI k ∧ P.testBit k = true := by
  rcases pk_ix x (n := 7) (by omega) with h | h | ⟨k, hk, h⟩
  · exact Or.inl (Or.inl h)
  · exact Or.inl (Or.inr (Or.inl h))
  · by_cases hb : P.testBit k = true
    · exact Or.inr ⟨k, hk, h, hb⟩
    · exact Or.inl (Or.inr (Or.inr ⟨k, hk, h, hb⟩))
theorem xs_7 {k : Nat} (h : k < 7) : ¬ (7 : Int32) ≤ nI k := nI_ge (b := 7) h (by decide)
theorem xs_77 : (7 : Int32) ≤ nI 7 := by decide
theorem xs_in {k : Nat} (h : k < 7) : vp_in (nI k) 7 := vp_in_nI h (by omega)
theorem xs_in8 {k : Nat} (h : k < 128) : vp_in (nI k) 128 := vp_in_nI h (by omega)
theorem xs_cl {k : Nat} (h : k < 128) : (nI k).toNatClampNeg = k := nI_clamp (by omega)
theorem xs_10 : ¬ (1 : Int32) = 0 := by decide
theorem xs_has1 {post : Int32 → Prop} {S k : Nat} (hS : S < 128) (hk : k < 7) (h : S.testBit k = true) (hp : post 1) : wpX_has post (nI S) (nI k) :=
  br_f (by rw [tb_has S hS k hk, if_pos h]; decide) hp
theorem xs_has0 {post : Int32 → Prop} {S k : Nat} (hS : S < 128) (hk : k < 7) (h : ¬ S.testBit k = true) (hp : post 0) : wpX_has post (nI S) (nI k) :=
  br_t (by rw [tb_has S hS k hk, if_neg h]) hp
theorem xs_task1 {post : Int32 → Prop} {P k : Nat} (hP : P < 128) (hk : k < 7) (h : P.testBit k = true) (hp : post 1) : wpX_isTask post (fm, fc, nI P, dl, bf, td, tb, sf) (nI k) :=
  br_f (nI_pos (by omega)) (br_f (xs_7 hk) (xs_has1 hP hk h (br_f xs_10 hp)))
theorem xs_task0 {post : Int32 → Prop} {P : Nat} {x : Int32} (hP : P < 128) (h : tp_N P x) (hp : post 0) : wpX_isTask post (fm, fc, nI P, dl, bf, td, tb, sf) x := by
  by_cases h0 : x < 0
  · exact br_t h0 hp
  · by_cases h7 : 7 ≤ x
    · exact br_f h0 (br_t h7 hp)
    · rcases h with h | h | ⟨k, hk, e, hb⟩
      · exact absurd h h0
      · exact absurd h h7
      · refine br_f h0 (br_f h7 ?_)
        rw [e]
        exact xs_has0 hP hk hb (br_t rfl hp)
theorem xs_lfl {post : Int32 → Prop} {P : Nat} (hP : P < 128) (hp : post (nI (tp_lf P 7))) : ∀ d j, j + d = 7 → (∀ i, i < j → P.testBit i = true) →
    wX_leastFreeNumber_2 post fm fc (nI P) dl bf td tb sf (d + 1) (nI j) := by
  intro d
  induction d with
  | zero =>
    intro j hj hi
    have e : j = 7 := by omega
    subst e
    have h := tp_fu P hP 7 (by omega) hi (fun h => absurd h (by omega))
    exact br_t xs_77 (by rw [h]; exact hp)
  | succ d ih =>
    intro j hj hi
    have h7 : j < 7 := by omega
    by_cases hb : P.testBit j = true
    · exact br_f (xs_7 h7) (xs_task1 hP h7 hb (br_f xs_10 (nm_r (nI_1 j) (ih (j + 1) (by omega) (lt_s hi hb)))))
    · have h := tp_fu P hP j (by omega) hi (fun _ => by cases hh : P.testBit j <;> simp_all)
      exact br_f (xs_7 h7) (xs_task0 hP (Or.inr (Or.inr ⟨j, h7, rfl, hb⟩)) (br_t rfl (by rw [h]; exact hp)))
theorem xs_lf {post : Int32 → Prop} {P : Nat} (hP : P < 128) (hp : post (nI (tp_lf P 7))) : wpX_leastFreeNumber post (fm, fc, nI P, dl, bf, td, tb, sf) :=
  ⟨8, xs_lfl hP hp 7 0 rfl (fun i h => absurd h (Nat.not_lt_zero i))⟩
theorem xs_stl {post : SX → Prop} {s : Int32} : ∀ d j, ∀ td tb : Nat → Int32, j + d = 7 → (∀ i, i < j → td i = if s ≤ dl i then s else dl i) → (∀ i, i < j → tb i = bf i) →
    (∀ td' tb' : Nat → Int32, (∀ i, i < 7 → td' i = if s ≤ dl i then s else dl i) → (∀ i, i < 7 → tb' i = bf i) → post (fm, fc, fp, dl, bf, td', tb', sf)) →
    wX_startTrial_2 post s fm fc fp (d + 1) (nI j) dl bf td tb sf := by
  intro d
  induction d with
  | zero =>
    intro j td tb hj h1 h2 hp
    have e : j = 7 := by omega
    subst e
    exact br_t xs_77 (hp td tb h1 h2)
  | succ d ih =>
    intro j td tb hj h1 h2 hp
    have h7 : j < 7 := by omega
    have ec : (nI j).toNatClampNeg = j := nI_clamp (by omega)
    have key : ∀ v : Int32, v = (if s ≤ dl j then s else dl j) → wX_startTrial_33 post (wX_startTrial_2 post s fm fc fp (d + 1)) s (nI j) v (nI j) fm fc fp dl bf td tb sf := by
      intro v hv
      refine ⟨xs_in h7, nm_e ⟨xs_in h7, xs_in h7, nm_e (nm_r (nI_1 j) (ih (j + 1) _ _ (by omega) ?_ ?_ hp))⟩⟩
      · rw [ec]
        intro i hi
        by_cases e : i = j
        · rw [e, pk_us, hv]
        · rw [pk_un e]; exact h1 i (by omega)
      · rw [ec]
        intro i hi
        by_cases e : i = j
        · rw [e, pk_us]
        · rw [pk_un e]; exact h2 i (by omega)
    by_cases hs : s ≤ dl j
    · exact br_f (xs_7 h7) ⟨xs_in h7, br_t (by rw [ec]; exact hs) (key s (by rw [if_pos hs]))⟩
    · exact br_f (xs_7 h7) ⟨xs_in h7, br_f (by rw [ec]; exact hs) ⟨xs_in h7, key _ (by rw [ec, if_neg hs])⟩⟩
theorem xs_start {post : SX → Prop} {s : Int32}
    (hp : ∀ td' tb' : Nat → Int32, (∀ i, i < 7 → td' i = if s ≤ dl i then s else dl i) → (∀ i, i < 7 → tb' i = bf i) → post (fm, fc, fp, dl, bf, td', tb', sf)) :
    wpX_startTrial post (fm, fc, fp, dl, bf, td, tb, sf) s :=
  ⟨8, xs_stl 7 0 td tb rfl (fun i h => absurd h (Nat.not_lt_zero i)) (fun i h => absurd h (Nat.not_lt_zero i)) hp⟩
theorem xs_se50 {post : Int32 → Prop} {a b x Ha Hb : Nat} {z : Int32} (ha : a < 7) (hb : b < 7) (hx : x < 128) (hHa : Ha < 128) (hHb : Hb < 128)
    (ea : td a = nI Ha) (eb : td b = nI Hb) (hp : post (if z ≠ 0 ∧ x ≤ Ha ∧ x ≤ Hb then nI x else 100)) :
    wX_slotsEndingWith_50 post (nI a) (nI b) (nI x) z fm fc fp dl bf td tb sf := by
  have ca : (nI a).toNatClampNeg = a := nI_clamp (by omega)
  have cb : (nI b).toNatClampNeg = b := nI_clamp (by omega)
  have la : td (nI a).toNatClampNeg < nI x ↔ Ha < x := by rw [ca, ea]; exact nI_ltI (by omega) (by omega)
  have lb : td (nI b).toNatClampNeg < nI x ↔ Hb < x := by rw [cb, eb]; exact nI_ltI (by omega) (by omega)
  by_cases h1 : Ha < x
  · rw [if_neg (by omega)] at hp
    refine ⟨xs_in ha, br_t (la.mpr h1) ?_⟩
    by_cases hz : z = 0
    · exact br_t hz hp
    · exact br_f hz (br_t rfl hp)
  · by_cases h2 : Hb < x
    · rw [if_neg (by omega)] at hp
      refine ⟨xs_in ha, br_f (fun h => h1 (la.mp h)) ⟨xs_in hb, br_t (lb.mpr h2) ?_⟩⟩
      by_cases hz : z = 0
      · exact br_t hz hp
      · exact br_f hz (br_t rfl hp)
    · refine ⟨xs_in ha, br_f (fun h => h1 (la.mp h)) ⟨xs_in hb, br_f (fun h => h2 (lb.mp h)) ?_⟩⟩
      by_cases hz : z = 0
      · rw [if_neg (fun h => h.1 hz)] at hp
        exact br_t hz hp
      · rw [if_pos ⟨hz, by omega, by omega⟩] at hp
        exact br_f hz (br_f xs_10 hp)
theorem xs_se {post : Int32 → Prop} {S a b : Nat} {f B H : Nat → Nat} (hS : S < 128) (ha : a < 7) (hb : b < 7)
    (hs : sf (tb_df S (2 ^ a ||| 2 ^ b)) = nI (f (tb_df S (2 ^ a ||| 2 ^ b)))) (hf : f (tb_df S (2 ^ a ||| 2 ^ b)) ≤ 100)
    (ea : td a = nI (H a)) (eb : td b = nI (H b)) (hHa : H a ≤ 8) (hHb : H b ≤ 8) (ba : tb a = nI (B a)) (bb : tb b = nI (B b)) (lB : B a ||| B b < 128)
    (hp : post (nI (tp_vl f B H S a b))) : wpX_slotsEndingWith post (fm, fc, fp, dl, bf, td, tb, sf) (nI S) (nI a) (nI b) := by
  have ca : (nI a).toNatClampNeg = a := nI_clamp (by omega)
  have cb : (nI b).toNatClampNeg = b := nI_clamp (by omega)
  have hr : tb_df S (2 ^ a ||| 2 ^ b) < 128 := Nat.lt_of_le_of_lt (tb_dle _ _) hS
  have er : nI S &&& ((((1 : Int32) <<< (nI a &&& 31)) ||| ((1 : Int32) <<< (nI b &&& 31))) ^^^ (-1)) = nI (tb_df S (2 ^ a ||| 2 ^ b)) := by
    rw [tb_bit a ha, tb_bit b hb, tb_or, tb_dif]
  unfold tp_vl at hp
  generalize tb_df S (2 ^ a ||| 2 ^ b) = R at hs hf hr hp er
  have cr : (nI R).toNatClampNeg = R := nI_clamp (by omega)
  have e5 : sf (nI R).toNatClampNeg + 1 = nI (f R + 1) := by rw [cr, hs, nI_1]
  have ec : (((tb (nI a).toNatClampNeg) ||| (tb (nI b).toNatClampNeg)) &&& (nI R ^^^ (-1))) = 0 ↔ tb_df (B a ||| B b) R = 0 := by
    rw [ca, cb, ba, bb, tb_or, tb_dif]
    exact tb_nz (Nat.lt_of_le_of_lt (tb_dle _ _) lB)
  refine nm_r er ⟨xs_in8 hr, nm_r e5 ⟨xs_in ha, xs_in hb, ?_⟩⟩
  by_cases hc : tb_df (B a ||| B b) R = 0
  · refine br_t (ec.mpr hc) (xs_se50 ha hb (by omega) (by omega) (by omega) ea eb ?_)
    by_cases h2 : f R + 1 ≤ H a ∧ f R + 1 ≤ H b
    · rw [if_pos ⟨hc, h2⟩] at hp
      rw [if_pos ⟨xs_10, h2⟩]
      exact hp
    · rw [if_neg (fun h => h2 h.2)] at hp
      rw [if_neg (fun h => h2 h.2)]
      exact hp
  · rw [if_neg (fun h => hc h.1)] at hp
    refine br_f (fun h => hc (ec.mp h)) (xs_se50 ha hb (by omega) (by omega) (by omega) ea eb ?_)
    rw [if_neg (fun h => h.1 rfl)]
    exact hp
end
