/-! X: the pins one after the other; the tasks ahead of one -/
section
variable {fm fc fp : Int32} {dl bf td tb sf : Nat → Int32}
theorem xl_s1 {d : Nat} (h : 1 ≤ d) : nI d - 1 = nI (d - 1) := pk_sub (b := 1) h
theorem xl_fsl {post : Int32 → SX → Prop} {w P id : Nat} {B H0 : Nat → Nat} (hw : w = 1 ∨ w = 2) (hP : P < 128) (hid : P.testBit id = true) (hB : tp_C B P)
    (hE : tp_E w B (fun _ => 0) H0 P) (h8 : ∀ i, P.testBit i = true → H0 i ≤ 8)
    (hp : ∀ (H : Nat → Nat) (td' sf' : Nat → Int32), tp_P w B P H0 (id + 1) H → post (nI (H id - 1)) (nI w, fc, nI P, dl, bf, td', tb, sf')) :
    ∀ n k, ∀ (H : Nat → Nat) (td sf : Nat → Int32) (x : Int32), k + n = id + 1 → tp_P w B P H0 k H → xt_C P B H td tb → (k = id + 1 → x = nI (H id - 1)) →
      wX_firstSlot_20 post (nI id) (n + 1) x (nI k) (nI w) fc (nI P) dl bf td tb sf := by
  have hid7 := tb_lt7 hP hid
  intro n
  induction n with
  | zero =>
    intro k H td sf x hk hH hC hx
    have e : k = id + 1 := by omega
    subst e
    rw [hx rfl]
    exact br_t (nI_lt (by omega) (by omega)) (hp H td sf hH)
  | succ n ih =>
    intro k H td sf x hk hH hC hx
    have hk7 : k < 7 := by omega
    have hn : ¬ nI id < nI k := nI_nlt (by omega) (by omega)
    by_cases hb : P.testBit k = true
    · have hi := tp_P_i hE h8 hH
      refine br_f hn (xs_task1 hP hk7 hb (br_f xs_10 (xt_tt hw hP hb hB hi.1 hC (fun d td' sf' hd hC' => ?_))))
      have hd1 := tp_D_pos hb hd
      refine nm_r (xl_s1 hd1) (nm_r (nI_1 k) (ih (k + 1) (tp_up H k d) td' sf' _ (by omega) ⟨H, hH, Or.inl ⟨hb, d, hd, rfl⟩⟩ hC' ?_))
      intro e
      have e2 : id = k := by omega
      rw [e2, tp_us]
    · refine br_f hn (xs_task0 hP (Or.inr (Or.inr ⟨k, hk7, rfl, hb⟩)) (br_t rfl (nm_r (nI_1 k) (ih (k + 1) H td sf x (by omega) ⟨H, hH, Or.inr ⟨hb, rfl⟩⟩ hC ?_))))
      intro e
      have e2 : id = k := by omega
      exact absurd (e2 ▸ hid) hb
theorem xl_abi {post : Int32 → Prop} {J : Int32 → Int32 → Prop} {B : Nat → Nat} {i r S0 : Nat} (hb : ∀ k, k < 7 → bf k = nI (B k) ∧ B k < 128) (hS0 : S0 < 128)
    (hJ : ∀ S, S < 128 → (∀ a, S0.testBit a = true → S.testBit a = true) → (∀ a, S.testBit a = true → tp_K B a i) →
      (∀ k, S0.testBit k = true → ∀ a, (B k).testBit a = true → S.testBit a = true) → J (nI S) (nI (r + 1))) :
    ∀ d k S, k + d = 7 → S < 128 → (∀ a, S0.testBit a = true → S.testBit a = true) → (∀ a, S.testBit a = true → tp_K B a i) →
      (∀ k', k' < k → S0.testBit k' = true → ∀ a, (B k').testBit a = true → S.testBit a = true) →
      wX_allBefore_18 post J (nI r) fm fc fp dl bf td tb sf (d + 1) (nI S) (nI k) := by
  intro d
  induction d with
  | zero =>
    intro k S hk hS h1 h2 h3
    have e : k = 7 := by omega
    subst e
    exact br_t xs_77 (nm_r (nI_1 r) (hJ S hS h1 h2 (fun k' hk' => h3 k' (tb_lt7 hS0 hk') hk')))
  | succ d ih =>
    intro k S hk hS h1 h2 h3
    have hk7 : k < 7 := by omega
    have ec : (nI k).toNatClampNeg = k := nI_clamp (by omega)
    by_cases hh : S.testBit k = true
    · have hor : nI S ||| bf (nI k).toNatClampNeg = nI (S ||| B k) := by rw [ec, (hb k hk7).1, tb_or]
      refine br_f (xs_7 hk7) (xs_has1 hS hk7 hh (br_f xs_10 ⟨xs_in hk7, nm_r hor (nm_r (nI_1 k) (ih (k + 1) (S ||| B k) (by omega) ?_ ?_ ?_ ?_))⟩))
      · apply tb_128
        intro a ha
        rcases (tb_ort _ _ _).mp ha with h | h
        · exact tb_lt7 hS h
        · exact tb_lt7 (hb k hk7).2 h
      · exact fun a ha => (tb_ort _ _ _).mpr (Or.inl (h1 a ha))
      · intro a ha
        rcases (tb_ort _ _ _).mp ha with h | h
        · exact h2 a h
        · obtain ⟨n, hn⟩ := h2 k hh
          exact ⟨n + 1, tp_Qf.mpr ⟨k, h, hn⟩⟩
      · intro k' hk' hs a ha
        by_cases e : k' = k
        · rw [e] at ha; exact (tb_ort _ _ _).mpr (Or.inr ha)
        · exact (tb_ort _ _ _).mpr (Or.inl (h3 k' (by omega) hs a ha))
    · refine br_f (xs_7 hk7) (xs_has0 hS hk7 hh (br_t rfl (nm_r (nI_1 k) (ih (k + 1) S (by omega) hS h1 h2 ?_))))
      intro k' hk' hs a ha
      by_cases e : k' = k
      · exact absurd (h1 k (e ▸ hs)) hh
      · exact h3 k' (by omega) hs a ha
theorem xl_abo {post : Int32 → Prop} {B : Nat → Nat} {i : Nat} (hb : ∀ k, k < 7 → bf k = nI (B k) ∧ B k < 128)
    (hp : ∀ S, S < 128 → (∀ a, S.testBit a = true → tp_K B a i) → (∀ n a, n ≤ 7 → tp_Q B (n + 1) a i → S.testBit a = true) → post (nI S)) :
    ∀ d r S, r + d = 7 → S < 128 → (∀ a, S.testBit a = true → tp_K B a i) → (∀ n a, n ≤ r → tp_Q B (n + 1) a i → S.testBit a = true) →
      wX_allBefore_9 post fm fc fp dl bf td tb sf (d + 1) (nI S) (nI r) := by
  intro d
  induction d with
  | zero =>
    intro r S hr hS h1 h2
    have e : r = 7 := by omega
    subst e
    exact br_t xs_77 (hp S hS h1 h2)
  | succ d ih =>
    intro r S hr hS h1 h2
    refine br_f (xs_7 (by omega)) ⟨8, xl_abi (i := i) (S0 := S) hb hS ?_ 7 0 S rfl hS (fun _ h => h) h1 (fun k' hk' => absurd hk' (Nat.not_lt_zero _))⟩
    intro S' hS' g1 g2 g3
    refine ih (r + 1) S' (by omega) hS' g2 ?_
    intro n a hn hq
    cases n with
    | zero => exact g1 a (h2 0 a (Nat.zero_le _) hq)
    | succ n =>
      obtain ⟨c, hc, hq'⟩ := tp_Qf.mp hq
      exact g3 c (h2 n c (by omega) hq') a hc
theorem xl_ab {post : Int32 → Prop} {w P i : Nat} {B H : Nat → Nat} (hP : P < 128) (hi : P.testBit i = true) (hC : tp_C B P)
    (hE : tp_E w B (fun _ => 0) H P) (h8 : ∀ i, P.testBit i = true → H i ≤ 8) (hb : ∀ k, k < 7 → bf k = nI (B k) ∧ B k < 128)
    (hp : ∀ S, S < 128 → (∀ a, S.testBit a = true ↔ tp_K B a i) → post (nI S)) : wpX_allBefore post (fm, fc, fp, dl, bf, td, tb, sf) (nI i) := by
  have hi7 := tb_lt7 hP hi
  have ec : (nI i).toNatClampNeg = i := nI_clamp (by omega)
  refine ⟨xs_in hi7, nm_r (e' := nI (B i)) (by rw [ec]; exact (hb i hi7).1) ⟨8, xl_abo (i := i) hb ?_ 7 0 (B i) rfl (hb i hi7).2 ?_ ?_⟩⟩
  · intro S hS h1 h2
    refine hp S hS (fun a => ⟨h1 a, fun hk => ?_⟩)
    obtain ⟨n, hn, hq⟩ := tp_K7 hC hE h8 hi hk
    exact h2 n a (by omega) hq
  · exact fun a ha => ⟨0, a, rfl, ha⟩
  · intro n a hn hq
    have e : n = 0 := by omega
    rw [e] at hq
    obtain ⟨c, hc, hq'⟩ := hq
    have e2 : a = c := hc
    rw [e2]
    exact hq'
end
