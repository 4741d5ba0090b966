/-! Y: is there a good timetable, and how soon can all be done -/
section
variable {yw yo yd : Int32} {he de pr lo hi ca : Nat → Int32}
def yf_X (w : Nat) (B L H : Nat → Nat) (P t s : Nat) : Prop := (∀ i, s.testBit i = true → P.testBit i = true) ∧ tp_G w B L H s t
def yf_D (w : Nat) (B L H : Nat → Nat) (P t : Nat) (fd : Int32) : Prop :=
  (fd = -1 ∧ ¬ tp_G w B L H P t) ∨ (∃ x, x ≤ 8 ∧ fd = nI x ∧ tp_G w B L H P x ∧ ∀ t', tp_G w B L H P t' → x ≤ t')
/-- what fits answers -/
def yf_R (w : Nat) (B L H : Nat → Nat) (P : Nat) (r fd : Int32) : Prop :=
  (r = 1 ∧ tp_E w B L H P ∧ ∃ x, x ≤ 8 ∧ fd = nI x ∧ tp_G w B L H P x ∧ ∀ t', tp_G w B L H P t' → x ≤ t') ∨ (r = 0 ∧ ¬ tp_E w B L H P)
theorem yf_in {post : Int32 → SY → Prop} {J : Int32 → Int32 → Int32 → Int32 → (Nat → Int32) → (Nat → Int32) → (Nat → Int32) → (Nat → Int32) → (Nat → Int32) → (Nat → Int32) → Prop}
    {w P t : Nat} {B L H : Nat → Nat} {fd : Int32} (hw : w = 1 ∨ w = 2) (hP : P < 128) (h : ys_H P he) (hC : ys_C P B L H pr lo hi) (ht : t < 8) (hfd : yf_D w B L H P t fd)
    (hJ : ∀ (fd' : Int32) (ca' : Nat → Int32), ys_A (yf_X w B L H P (t + 1)) ca' → yf_D w B L H P (t + 1) fd' → J (nI (t + 1)) (nI w) yo fd' he de pr lo hi ca') :
    ∀ i, ∀ ca : Nat → Int32, i ≤ 128 → ys_A (fun s => yf_X w B L H P t s ∨ ∃ S, i ≤ S ∧ yf_X w B L H P t S ∧ tp_S w B L H P S t s) ca →
      wY_fits_61 post J (nI P) (nI t) (i + 1) (nI i + (-1)) (nI w) yo fd he de pr lo hi ca := by
  intro i
  induction i with
  | zero =>
    intro ca _ hA
    have hA' : ys_A (yf_X w B L H P (t + 1)) ca := by
      refine ys_Ac ?_ hA
      intro s _
      constructor
      · intro g
        rcases g with g | ⟨S, _, g1, g2⟩
        · exact ⟨g.1, tp_G_up (Nat.le_succ t) g.2⟩
        · have hs := tp_S_sub g1.1 g2
          exact ⟨hs, (tp_Y hs).mpr (Or.inr ⟨S, g1.1, g1.2, g2⟩)⟩
      · intro g
        rcases (tp_Y g.1).mp g.2 with g' | ⟨S, g1, g2, g3⟩
        · exact Or.inl ⟨g.1, g'⟩
        · exact Or.inr ⟨S, Nat.zero_le _, ⟨g1, g2⟩, g3⟩
    refine br_t (by decide) ?_
    rcases hfd with ⟨e, hno⟩ | ⟨x, hx8, ex, hx, hmin⟩
    · refine br_f (by rw [e]; decide) ?_
      rw [tb_127 P hP, xs_cl hP]
      refine ⟨xs_in8 hP, ?_⟩
      rcases hA' P hP with ⟨e1, g⟩ | ⟨e1, g⟩
      · refine br_f (by rw [e1]; decide) (nm_r (nI_1 t) (nm_r (nI_1 t) (hJ _ ca hA' (Or.inr ⟨t + 1, by omega, rfl, g.2, fun t' g' => ?_⟩))))
        rcases Nat.lt_or_ge t' (t + 1) with hh | hh
        · exact absurd (tp_G_up (by omega) g') hno
        · exact hh
      · exact br_t e1 (nm_r (nI_1 t) (hJ _ ca hA' (Or.inl ⟨e, fun g' => g ⟨fun _ h => h, g'⟩⟩)))
    · exact br_t (by rw [ex]; exact nI_pos' (by omega)) (nm_r (nI_1 t) (hJ _ ca hA' (Or.inr ⟨x, hx8, ex, hx, hmin⟩)))
  | succ i ih =>
    intro ca hi8 hA
    have hi' : i < 128 := by omega
    have self : ∀ S, yf_X w B L H P t S ∧ tp_S w B L H P S t i → S < i := fun S g => tp_S_lt g.2
    rw [pk_m1]
    refine br_f (nI_pos (by omega)) ⟨xs_in8 hi', ?_⟩
    rw [xs_cl hi']
    rcases hA i hi' with ⟨e1, g⟩ | ⟨e1, g⟩
    · have g0 : yf_X w B L H P t i := by
        rcases g with g | ⟨S, g1, g2⟩
        · exact g
        · have := self S g2
          omega
      refine br_f (by rw [e1]; decide) (ys_fill (P := P) (B := B) (L := L) (H := H) hw hP h hC hi' (by omega) hA (fun ca' hA' => nm_e (ih ca' (by omega) (ys_Ac ?_ hA'))))
      intro s _
      constructor
      · intro q
        rcases q with (q | ⟨S, q1, q2⟩) | q
        · exact Or.inl q
        · exact Or.inr ⟨S, by omega, q2⟩
        · exact Or.inr ⟨i, Nat.le_refl _, g0, q⟩
      · intro q
        rcases q with q | ⟨S, q1, q2, q3⟩
        · exact Or.inl (Or.inl q)
        · by_cases e : S = i
          · rw [e] at q3; exact Or.inr q3
          · exact Or.inl (Or.inr ⟨S, by omega, q2, q3⟩)
    · refine br_t e1 (nm_e (ih ca (by omega) (ys_Ac ?_ hA)))
      intro s _
      constructor
      · intro q
        rcases q with q | ⟨S, q1, q2⟩
        · exact Or.inl q
        · exact Or.inr ⟨S, by omega, q2⟩
      · intro q
        rcases q with q | ⟨S, q1, q2, q3⟩
        · exact Or.inl q
        · by_cases e : S = i
          · exact absurd (Or.inl (e ▸ q2)) g
          · exact Or.inr ⟨S, by omega, q2, q3⟩
theorem yf_out {post : Int32 → SY → Prop} {w P : Nat} {B L H : Nat → Nat} (hw : w = 1 ∨ w = 2) (hP : P < 128) (h : ys_H P he) (hC : ys_C P B L H pr lo hi) (hB : tp_C B P)
    (hp : ∀ (r fd' : Int32) (ca' : Nat → Int32), yf_R w B L H P r fd' → post r (nI w, yo, fd', he, de, pr, lo, hi, ca')) :
    ∀ d t, ∀ (fd : Int32) (ca : Nat → Int32), t + d = 8 → ys_A (yf_X w B L H P t) ca → yf_D w B L H P t fd → wY_fits_50 post (nI P) (d + 1) (nI t) (nI w) yo fd he de pr lo hi ca := by
  intro d
  induction d with
  | zero =>
    intro t fd ca ht hA hfd
    have e : t = 8 := by omega
    subst e
    refine br_t (by decide) ?_
    rw [tb_127 P hP, xs_cl hP]
    refine ⟨xs_in8 hP, ?_⟩
    rcases hA P hP with ⟨e1, g⟩ | ⟨e1, g⟩
    · rw [e1]
      refine ⟨ys_n1, hp 1 fd ca (Or.inl ⟨rfl, tp_G_E g.2, ?_⟩)⟩
      rcases hfd with ⟨_, hno⟩ | hy
      · exact absurd g.2 hno
      · exact hy
    · rw [e1]
      exact ⟨ys_n0, hp 0 fd ca (Or.inr ⟨rfl, fun hE => g ⟨fun _ h => h, tp_E_G (fun i hi => (hC i hi).2.2.2.2.1) hB hE⟩⟩)⟩
  | succ d ih =>
    intro t fd ca ht hA hfd
    have h8 : ¬ (8 : Int32) ≤ nI t := nI_ge (b := 8) (by omega) (by decide)
    refine br_f h8 (nm_r (e' := nI (P + 1) + (-1)) (by rw [tb_127 P hP, pk_m1]) ⟨P + 1 + 1, yf_in hw hP h hC (by omega) hfd (fun fd' ca' hA' hD' => ih (t + 1) fd' ca' (by omega) hA' hD') (P + 1) ca (by omega) (ys_Ac ?_ hA)⟩)
    intro s _
    constructor
    · exact fun g => Or.inl g
    · intro g
      rcases g with g | ⟨S, g1, g2, _⟩
      · exact g
      · have := tb_le g2.1
        omega
theorem yf_il {post : Int32 → SY → Prop} {w P : Nat} {B L H : Nat → Nat} (hw : w = 1 ∨ w = 2) (hP : P < 128) (h : ys_H P he) (hC : ys_C P B L H pr lo hi) (hB : tp_C B P)
    (hp : ∀ (r fd' : Int32) (ca' : Nat → Int32), yf_R w B L H P r fd' → post r (nI w, yo, fd', he, de, pr, lo, hi, ca')) :
    ∀ d n, ∀ ca : Nat → Int32, n + d = 128 → (∀ s, s < n → ca s = if s = 0 then 1 else 0) → wY_fits_7 post (nI P) (nI w) yo yd (d + 1) (nI n) he de pr lo hi ca := by
  intro d
  induction d with
  | zero =>
    intro n ca hn hc
    have e : n = 128 := by omega
    subst e
    have hA : ys_A (yf_X w B L H P 0) ca := by
      intro s hs
      by_cases e : s = 0
      · subst e
        exact Or.inl ⟨hc 0 hs, fun i hi => absurd hi (tb_n0 i), tp_G_e w 0 B L H⟩
      · exact Or.inr ⟨by rw [hc s hs, if_neg e], fun g => tp_G_0 e g.2⟩
    refine br_t (by decide) ?_
    by_cases h0 : P = 0
    · refine br_t ((tb_nz hP).mpr h0) ⟨9, yf_out hw hP h hC hB hp 8 0 0 ca rfl hA (Or.inr ⟨0, by omega, rfl, ?_, fun _ _ => Nat.zero_le _⟩)⟩
      rw [h0]
      exact tp_G_e w 0 B L H
    · exact br_f (fun e => h0 ((tb_nz hP).mp e)) ⟨9, yf_out hw hP h hC hB hp 8 0 (-1) ca rfl hA (Or.inl ⟨rfl, tp_G_0 h0⟩)⟩
  | succ d ih =>
    intro n ca hn hc
    have h128 : n < 128 := by omega
    have hge : ¬ (128 : Int32) ≤ nI n := nI_ge (b := 128) h128 (by decide)
    by_cases h0 : n = 0
    · refine br_f hge (br_t ((tb_nz h128).mpr h0) ⟨xs_in8 h128, nm_e (nm_r (nI_1 n) (ih (n + 1) _ (by omega) ?_))⟩)
      rw [xs_cl h128]
      intro s hs
      have e : s = n := by omega
      rw [e, pk_us, if_pos h0]
      rfl
    · refine br_f hge (br_f (fun e => h0 ((tb_nz h128).mp e)) ⟨xs_in8 h128, nm_e (nm_r (nI_1 n) (ih (n + 1) _ (by omega) ?_))⟩)
      rw [xs_cl h128]
      intro s hs
      by_cases e : s = n
      · rw [e, pk_us, if_neg h0]
        rfl
      · rw [pk_un e]
        exact hc s (by omega)
theorem yf_fits {post : Int32 → SY → Prop} {w P : Nat} {B L H : Nat → Nat} (hw : w = 1 ∨ w = 2) (hP : P < 128) (h : ys_H P he) (hC : ys_C P B L H pr lo hi) (hB : tp_C B P)
    (hp : ∀ (r fd' : Int32) (ca' : Nat → Int32), yf_R w B L H P r fd' → post r (nI w, yo, fd', he, de, pr, lo, hi, ca')) :
    wpY_fits post (nI w, yo, yd, he, de, pr, lo, hi, ca) := by
  unfold wpY_fits
  dsimp only
  exact ys_tasks h hP ⟨129, yf_il hw hP h hC hB hp 128 0 ca rfl (fun s h => absurd h (Nat.not_lt_zero s))⟩
theorem yf_hi : ∀ D, D < 9 → ∀ s, s < 9 → 1 ≤ D → 1 ≤ s → (if nI s ≤ nI D then nI s - 1 else nI D - 1) = nI (min D s - 1) := by decide +kernel
theorem yf_xd : ∀ D, D < 9 → ∀ s, s < 9 → (if nI s ≤ nI D then nI s else nI D) = nI (min D s) := by decide +kernel
/-- deadlines and predecessors of the tasks of P -/
def yf_V (P : Nat) (B D : Nat → Nat) (de pr : Nat → Int32) : Prop := ∀ i, P.testBit i = true → 1 ≤ D i ∧ D i ≤ 8 ∧ de i = nI (D i) ∧ pr i = nI (B i) ∧ B i < 128
theorem yf_aC {P s : Nat} {B D : Nat → Nat} {lo' hi' : Nat → Int32} (hP : P < 128) (hs : 1 ≤ s) (hs8 : s ≤ 8) (hV : yf_V P B D de pr) (h1 : ∀ i, i < 7 → lo' i = 0)
    (h2 : ∀ i, i < 7 → hi' i = if nI s ≤ de i then nI s - 1 else de i - 1) : ys_C P B (fun _ => 0) (fun i => min (D i) s) pr lo' hi' := by
  intro i hi
  have h7 := tb_lt7 hP hi
  obtain ⟨v1, v2, v3, v4, v5⟩ := hV i hi
  refine ⟨v4, h1 i h7, ?_, (show 1 ≤ min (D i) s by omega), (show min (D i) s ≤ 8 by omega), Nat.zero_le 8, v5⟩
  rw [h2 i h7, v3]
  exact yf_hi (D i) (by omega) s (by omega) v1 hs
theorem yf_C8 {P : Nat} {B L D : Nat → Nat} {lo' hi' : Nat → Int32} (hV : yf_V P B D de pr) (h : ys_C P B L (fun i => min (D i) 8) pr lo' hi') : ys_C P B L D pr lo' hi' := by
  intro i hi
  have v := hV i hi
  have := h i hi
  have e : min (D i) 8 = D i := by omega
  dsimp only at this
  rw [e] at this
  exact this
theorem yf_good {post : Int32 → SY → Prop} {w P : Nat} {B D : Nat → Nat} (hw : w = 1 ∨ w = 2) (hP : P < 128) (h : ys_H P he) (hV : yf_V P B D de pr) (hB : tp_C B P)
    (hp : ∀ (r fd' : Int32) (lo' hi' ca' : Nat → Int32), yf_R w B (fun _ => 0) D P r fd' → post r (nI w, yo, fd', he, de, pr, lo', hi', ca')) :
    wpY_good post (nI w, yo, yd, he, de, pr, lo, hi, ca) := by
  unfold wpY_good
  dsimp only
  refine ys_ask (fun lo' hi' h1 h2 => ?_)
  refine yf_fits hw hP h (yf_C8 hV (yf_aC (s := 8) hP (by omega) (by omega) hV h1 h2)) hB (fun r fd' ca' hr => ?_)
  refine ⟨?_, hp r fd' lo' hi' ca' hr⟩
  rcases hr with ⟨e, _⟩ | ⟨e, _⟩
  · rw [e]; exact ys_n1
  · rw [e]; exact ys_n0
end
