/-! Y's small methods, and which sets can be done -/
section
variable {yw yo yd : Int32} {he de pr lo hi ca : Nat → Int32}
def ys_H (P : Nat) (he : Nat → Int32) : Prop := ∀ i, i < 7 → he i = if P.testBit i = true then 1 else 0
theorem ys_h1 {P i : Nat} (h : ys_H P he) (hi : i < 7) (hb : P.testBit i = true) : ¬ he (nI i).toNatClampNeg = 0 := by
  rw [nI_clamp (by omega), h i hi, if_pos hb]; decide
theorem ys_h0 {P i : Nat} (h : ys_H P he) (hi : i < 7) (hb : ¬ P.testBit i = true) : he (nI i).toNatClampNeg = 0 := by
  rw [nI_clamp (by omega), h i hi, if_neg hb]
theorem ys_there1 {post : Int32 → Prop} {P k : Nat} (h : ys_H P he) (hk : k < 7) (hb : P.testBit k = true) (hp : post 1) : wpY_there post (yw, yo, yd, he, de, pr, lo, hi, ca) (nI k) :=
  br_f (nI_pos (by omega)) (br_f (xs_7 hk) ⟨xs_in hk, br_f (ys_h1 h hk hb) hp⟩)
theorem ys_there0 {post : Int32 → Prop} {P : Nat} {x : Int32} (h : ys_H P he) (hn : tp_N P x) (hp : post 0) : wpY_there post (yw, yo, yd, he, de, pr, lo, hi, ca) x := by
  by_cases h0 : x < 0
  · exact br_t h0 hp
  · by_cases h7 : 7 ≤ x
    · exact br_f h0 (br_t h7 hp)
    · rcases hn with hn | hn | ⟨k, hk, e, hb⟩
      · exact absurd hn h0
      · exact absurd hn h7
      · subst e
        exact br_f h0 (br_f h7 ⟨xs_in hk, br_t (ys_h0 h hk hb) hp⟩)
theorem ys_tl {post : Int32 → Prop} {P : Nat} (h : ys_H P he) (hP : P < 128) (hp : post (nI P)) : ∀ d j, j + d = 7 →
    wY_tasks_4 post yw yo yd he de pr lo hi ca (d + 1) (nI (P % 2 ^ j)) (nI j) := by
  intro d
  induction d with
  | zero =>
    intro j hj
    have e : j = 7 := by omega
    subst e
    have e2 : P % 2 ^ 7 = P := Nat.mod_eq_of_lt hP
    rw [e2]
    exact br_t xs_77 hp
  | succ d ih =>
    intro j hj
    have h7 : j < 7 := by omega
    have hm := tp_md P hP j h7
    by_cases hb : P.testBit j = true
    · rw [if_pos hb] at hm
      exact br_f (xs_7 h7) ⟨xs_in h7, br_f (ys_h1 h h7 hb) (nm_r (e' := nI (P % 2 ^ (j + 1))) (by rw [tb_bit j h7, tb_or, hm]) (nm_r (nI_1 j) (ih (j + 1) (by omega))))⟩
    · rw [if_neg hb] at hm
      exact br_f (xs_7 h7) ⟨xs_in h7, br_t (ys_h0 h h7 hb) (nm_r (e' := nI (P % 2 ^ (j + 1))) (by rw [← nI_0, tb_or, hm]) (nm_r (nI_1 j) (ih (j + 1) (by omega))))⟩
theorem ys_tasks {post : Int32 → Prop} {P : Nat} (h : ys_H P he) (hP : P < 128) (hp : post (nI P)) : wpY_tasks post (yw, yo, yd, he, de, pr, lo, hi, ca) := by
  have := ys_tl (yw := yw) (yo := yo) (yd := yd) (de := de) (pr := pr) (lo := lo) (hi := hi) (ca := ca) h hP hp 7 0 rfl
  rw [Nat.pow_zero, Nat.mod_one] at this
  exact ⟨8, this⟩
theorem ys_al {post : SY → Prop} {s : Int32} : ∀ d j, ∀ lo hi : Nat → Int32, j + d = 7 → (∀ i, i < j → lo i = 0) → (∀ i, i < j → hi i = if s ≤ de i then s - 1 else de i - 1) →
    (∀ lo' hi' : Nat → Int32, (∀ i, i < 7 → lo' i = 0) → (∀ i, i < 7 → hi' i = if s ≤ de i then s - 1 else de i - 1) → post (yw, yo, yd, he, de, pr, lo', hi', ca)) →
    wY_ask_2 post s yw yo yd (d + 1) (nI j) he de pr lo hi ca := by
  intro d
  induction d with
  | zero =>
    intro j lo hi hj h1 h2 hp
    have e : j = 7 := by omega
    subst e
    exact br_t xs_77 (hp lo hi h1 h2)
  | succ d ih =>
    intro j lo hi hj h1 h2 hp
    have h7 : j < 7 := by omega
    have ec : (nI j).toNatClampNeg = j := nI_clamp (by omega)
    have k1 : ∀ i, i < j + 1 → upd lo (nI j).toNatClampNeg 0 i = 0 := by
      rw [ec]
      intro i hi
      by_cases e : i = j
      · rw [e, pk_us]
      · rw [pk_un e]; exact h1 i (by omega)
    have k2 : ∀ v : Int32, v = (if s ≤ de j then s - 1 else de j - 1) → ∀ i, i < j + 1 → upd hi (nI j).toNatClampNeg v i = if s ≤ de i then s - 1 else de i - 1 := by
      rw [ec]
      intro v hv i hi
      by_cases e : i = j
      · rw [e, pk_us, hv]
      · rw [pk_un e]; exact h2 i (by omega)
    by_cases hs : s ≤ de j
    · exact br_f (xs_7 h7) ⟨xs_in h7, nm_e ⟨xs_in h7, br_t (by rw [ec]; exact hs) ⟨xs_in h7, nm_e (nm_r (nI_1 j) (ih (j + 1) _ _ (by omega) k1 (k2 _ (by rw [if_pos hs])) hp))⟩⟩⟩
    · exact br_f (xs_7 h7) ⟨xs_in h7, nm_e ⟨xs_in h7, br_f (by rw [ec]; exact hs) ⟨xs_in h7, xs_in h7, nm_e (nm_r (nI_1 j) (ih (j + 1) _ _ (by omega) k1 (k2 _ (by rw [ec, if_neg hs])) hp))⟩⟩⟩
theorem ys_ask {post : SY → Prop} {s : Int32}
    (hp : ∀ lo' hi' : Nat → Int32, (∀ i, i < 7 → lo' i = 0) → (∀ i, i < 7 → hi' i = if s ≤ de i then s - 1 else de i - 1) → post (yw, yo, yd, he, de, pr, lo', hi', ca)) :
    wpY_ask post (yw, yo, yd, he, de, pr, lo, hi, ca) s :=
  ⟨8, ys_al 7 0 lo hi rfl (fun i h => absurd h (Nat.not_lt_zero i)) (fun i h => absurd h (Nat.not_lt_zero i)) hp⟩
/-- the windows and predecessors of the tasks of P -/
def ys_C (P : Nat) (B L H : Nat → Nat) (pr lo hi : Nat → Int32) : Prop :=
  ∀ i, P.testBit i = true → pr i = nI (B i) ∧ lo i = nI (L i) ∧ hi i = nI (H i - 1) ∧ 1 ≤ H i ∧ H i ≤ 8 ∧ L i ≤ 8 ∧ B i < 128
theorem ys_n1 : narrow .boolean (.int 1) = .int 1 := rfl
theorem ys_n0 : narrow .boolean (.int 0) = .int 0 := rfl
theorem ys_v1 : vp_nar .boolean 1 = 1 := rfl
theorem ys_v0 : vp_nar .boolean 0 = 0 := rfl
theorem ys_rl {post : Int32 → Prop} {S a Ba : Nat} (hS : S < 128) (ha : a < 7) (hB : Ba < 128) (hb : pr a = nI Ba)
    (hp1 : (∀ i, Ba.testBit i = true → S.testBit i = true) → post 1) (hp0 : ¬ (∀ i, Ba.testBit i = true → S.testBit i = true) → post 0) :
    ∀ d j x, j + d = 7 → ((x = 1 ∧ ∀ i, i < j → Ba.testBit i = true → S.testBit i = true) ∨ (x = 0 ∧ ¬ (∀ i, Ba.testBit i = true → S.testBit i = true))) →
      wY_ready_46 post (nI S) (nI a) yw yo yd he de pr lo hi ca (d + 1) x (nI j) := by
  have ec : (nI a).toNatClampNeg = a := nI_clamp (by omega)
  intro d
  induction d with
  | zero =>
    intro j x hj hx
    have e : j = 7 := by omega
    subst e
    rcases hx with ⟨e, h⟩ | ⟨e, h⟩
    · subst e
      exact br_t xs_77 ⟨ys_n1, hp1 (fun i hi => h i (tb_lt7 hB hi) hi)⟩
    · subst e
      exact br_t xs_77 ⟨ys_n0, hp0 h⟩
  | succ d ih =>
    intro j x hj hx
    have h7 : j < 7 := by omega
    have e1 : ((pr (nI a).toNatClampNeg >>> (nI j &&& 31)) &&& 1) = 1 ↔ Ba.testBit j = true := by
      rw [ec, hb, tb_has Ba hB j h7]
      by_cases h : Ba.testBit j = true
      · rw [if_pos h]; exact ⟨fun _ => h, fun _ => rfl⟩
      · rw [if_neg h]; exact ⟨fun h' => absurd h' (by decide), fun h' => absurd h' h⟩
    have e2 : ((nI S >>> (nI j &&& 31)) &&& 1) = 0 ↔ ¬ S.testBit j = true := by
      rw [tb_has S hS j h7]
      by_cases h : S.testBit j = true
      · rw [if_pos h]; exact ⟨fun h' => absurd h' (by decide), fun h' => absurd h h'⟩
      · rw [if_neg h]; exact ⟨fun _ => h, fun _ => rfl⟩
    have keep : (Ba.testBit j = true → S.testBit j = true) → wY_ready_46 post (nI S) (nI a) yw yo yd he de pr lo hi ca (d + 1) x (nI (j + 1)) := by
      intro h
      refine ih (j + 1) x (by omega) ?_
      rcases hx with ⟨e, g⟩ | g
      · exact Or.inl ⟨e, lt_s (p := fun i => Ba.testBit i = true → S.testBit i = true) g h⟩
      · exact Or.inr g
    by_cases g1 : Ba.testBit j = true
    · by_cases g2 : S.testBit j = true
      · exact br_f (xs_7 h7) ⟨xs_in ha, br_t (e1.mpr g1) (br_f (fun h => e2.mp h g2) (nm_r (nI_1 j) (keep (fun _ => g2))))⟩
      · exact br_f (xs_7 h7) ⟨xs_in ha, br_t (e1.mpr g1) (br_t (e2.mpr g2) (nm_r (nI_1 j) (ih (j + 1) 0 (by omega) (Or.inr ⟨rfl, fun h => g2 (h j g1)⟩))))⟩
    · exact br_f (xs_7 h7) ⟨xs_in ha, br_f (fun h => g1 (e1.mp h)) (nm_r (nI_1 j) (keep (fun h => absurd h g1)))⟩
theorem ys_ready {post : Int32 → Prop} {P S a t : Nat} {B L H : Nat → Nat} (h : ys_H P he) (hC : ys_C P B L H pr lo hi) (hS : S < 128) (ha : a < 7) (ht : t < 128)
    (hp1 : tp_R B L H P S t a → post 1) (hp0 : ¬ tp_R B L H P S t a → post 0) :
    wpY_ready post (yw, yo, yd, he, de, pr, lo, hi, ca) (nI S) (nI a) (nI t) := by
  have ec : (nI a).toNatClampNeg = a := nI_clamp (by omega)
  by_cases h1 : P.testBit a = true
  · obtain ⟨c1, c2, c3, c4, c5, c6, c7⟩ := hC a h1
    have e2 : ((nI S >>> (nI a &&& 31)) &&& 1) = 1 ↔ S.testBit a = true := by
      rw [tb_has S hS a ha]
      by_cases h : S.testBit a = true
      · rw [if_pos h]; exact ⟨fun _ => h, fun _ => rfl⟩
      · rw [if_neg h]; exact ⟨fun h' => absurd h' (by decide), fun h' => absurd h' h⟩
    have e3 : nI t < lo (nI a).toNatClampNeg ↔ t < L a := by rw [ec, c2]; exact nI_ltI (by omega) (by omega)
    have e4 : nI t ≤ hi (nI a).toNatClampNeg ↔ t ≤ H a - 1 := by rw [ec, c3]; exact nI_leI (by omega) (by omega)
    by_cases h2 : S.testBit a = true
    · exact ⟨xs_in ha, br_f (ys_h1 h ha h1) (br_t (e2.mpr h2) (hp0 (fun r => r.2.1 h2)))⟩
    · by_cases h3 : t < L a
      · exact ⟨xs_in ha, br_f (ys_h1 h ha h1) (br_f (fun x => h2 (e2.mp x)) ⟨xs_in ha, br_t (e3.mpr h3) (hp0 (fun r => by have := r.2.2.1; omega))⟩)⟩
      · by_cases h4 : t ≤ H a - 1
        · refine ⟨xs_in ha, br_f (ys_h1 h ha h1) (br_f (fun x => h2 (e2.mp x)) ⟨xs_in ha, br_f (fun x => h3 (e3.mp x)) ⟨xs_in ha, br_t (e4.mpr h4) ⟨8, ys_rl hS ha c7 c1 ?_ ?_ 7 0 1 rfl (Or.inl ⟨rfl, fun i h => absurd h (Nat.not_lt_zero i)⟩)⟩⟩⟩)⟩
          · exact fun g => hp1 ⟨h1, h2, by omega, by omega, g⟩
          · exact fun g => hp0 (fun r => g r.2.2.2.2)
        · exact ⟨xs_in ha, br_f (ys_h1 h ha h1) (br_f (fun x => h2 (e2.mp x)) ⟨xs_in ha, br_f (fun x => h3 (e3.mp x)) ⟨xs_in ha, br_f (fun x => h4 (e4.mp x)) (hp0 (fun r => by have := r.2.2.2.1; omega))⟩⟩)⟩
  · exact ⟨xs_in ha, br_t (ys_h0 h ha h1) (hp0 (fun r => h1 r.1))⟩
/-- the table can says X -/
def ys_A (X : Nat → Prop) (ca : Nat → Int32) : Prop := ∀ s, s < 128 → (ca s = 1 ∧ X s) ∨ (ca s = 0 ∧ ¬ X s)
theorem ys_Ac {X Y : Nat → Prop} (h : ∀ s, s < 128 → (X s ↔ Y s)) (hA : ys_A X ca) : ys_A Y ca := by
  intro s hs
  rw [← h s hs]
  exact hA s hs
theorem ys_Au {X : Nat → Prop} {q : Nat} (hA : ys_A X ca) : ys_A (fun s => X s ∨ s = q) (upd ca q (vp_nar .boolean 1)) := by
  intro s hs
  by_cases e : s = q
  · rw [e, pk_us]
    exact Or.inl ⟨rfl, Or.inr rfl⟩
  · rw [pk_un e]
    rcases hA s hs with h | h
    · exact Or.inl ⟨h.1, Or.inl h.2⟩
    · exact Or.inr ⟨h.1, fun h' => h'.elim h.2 e⟩
theorem ys_fi {post : SY → Prop} {J : Int32 → (Nat → Int32) → (Nat → Int32) → (Nat → Int32) → (Nat → Int32) → (Nat → Int32) → (Nat → Int32) → Prop}
    {w P S a t : Nat} {B L H : Nat → Nat} {X : Nat → Prop} (hw : w = 2) (h : ys_H P he) (hC : ys_C P B L H pr lo hi) (hS : S < 128) (ha : a < 7) (ht : t < 128)
    (hJ : ∀ ca', ys_A (fun s => X s ∨ ∃ b, a < b ∧ b < 7 ∧ tp_R B L H P S t b ∧ s = (S ||| 2 ^ a) ||| 2 ^ b) ca' → J (nI (a + 1)) he de pr lo hi ca') :
    ∀ d b ca, b + d = 7 → ys_A (fun s => X s ∨ ∃ b', a < b' ∧ b' < b ∧ tp_R B L H P S t b' ∧ s = (S ||| 2 ^ a) ||| 2 ^ b') ca → a < b →
      wY_fill_37 post J (nI S) (nI t) (nI a) (nI w) yo yd (d + 1) (nI b) he de pr lo hi ca := by
  intro d
  induction d with
  | zero =>
    intro b ca hb hA hab
    have e : b = 7 := by omega
    subst e
    exact br_t xs_77 (nm_r (nI_1 a) (hJ ca hA))
  | succ d ih =>
    intro b ca hb hA hab
    have h7 : b < 7 := by omega
    refine br_f (xs_7 h7) (br_t (by rw [hw]; rfl) (ys_ready h hC hS h7 ht (fun hr => br_f xs_10 ?_) (fun hr => br_t rfl (nm_r (nI_1 b) (ih (b + 1) ca (by omega) (ys_Ac ?_ hA) (by omega))))))
    · have hq : (S ||| 2 ^ a) ||| 2 ^ b < 128 := tb_o128 (tb_o128 hS ha) h7
      have eq : (((nI S ||| ((1 : Int32) <<< (nI a &&& 31))) ||| ((1 : Int32) <<< (nI b &&& 31))) &&& 127) = nI ((S ||| 2 ^ a) ||| 2 ^ b) := by
        rw [tb_bit a ha, tb_bit b h7, tb_or, tb_or, tb_127 _ hq]
      rw [eq]
      refine ⟨xs_in8 hq, nm_e (nm_r (nI_1 b) (ih (b + 1) _ (by omega) ?_ (by omega)))⟩
      rw [nI_clamp (by omega)]
      refine ys_Ac ?_ (ys_Au hA)
      intro s _
      constructor
      · intro g
        rcases g with (g | ⟨b', g1, g2, g3, g4⟩) | g
        · exact Or.inl g
        · exact Or.inr ⟨b', g1, by omega, g3, g4⟩
        · exact Or.inr ⟨b, hab, by omega, hr, g⟩
      · intro g
        rcases g with g | ⟨b', g1, g2, g3, g4⟩
        · exact Or.inl (Or.inl g)
        · by_cases e : b' = b
          · rw [e] at g4; exact Or.inr g4
          · exact Or.inl (Or.inr ⟨b', g1, by omega, g3, g4⟩)
    · intro s _
      constructor
      · intro g
        rcases g with g | ⟨b', g1, g2, g3, g4⟩
        · exact Or.inl g
        · exact Or.inr ⟨b', g1, by omega, g3, g4⟩
      · intro g
        rcases g with g | ⟨b', g1, g2, g3, g4⟩
        · exact Or.inl g
        · by_cases e : b' = b
          · exact absurd (e ▸ g3) hr
          · exact Or.inr ⟨b', g1, by omega, g3, g4⟩
/-- what fill adds by first members below a -/
def ys_X (w : Nat) (B L H : Nat → Nat) (P S t a s : Nat) : Prop :=
  ∃ a', a' < a ∧ tp_R B L H P S t a' ∧ (s = S ||| 2 ^ a' ∨ (w = 2 ∧ ∃ b, a' < b ∧ b < 7 ∧ tp_R B L H P S t b ∧ s = (S ||| 2 ^ a') ||| 2 ^ b))
theorem ys_fo {post : SY → Prop} {w P S t : Nat} {B L H : Nat → Nat} {X : Nat → Prop} (hw : w = 1 ∨ w = 2) (h : ys_H P he) (hC : ys_C P B L H pr lo hi) (hS : S < 128) (ht : t < 128)
    (hp : ∀ ca', ys_A (fun s => X s ∨ ys_X w B L H P S t 7 s) ca' → post (nI w, yo, yd, he, de, pr, lo, hi, ca')) :
    ∀ d a ca, a + d = 7 → ys_A (fun s => X s ∨ ys_X w B L H P S t a s) ca → wY_fill_2 post (nI S) (nI t) (nI w) yo yd (d + 1) (nI a) he de pr lo hi ca := by
  intro d
  induction d with
  | zero =>
    intro a ca ha hA
    have e : a = 7 := by omega
    subst e
    exact br_t xs_77 (hp ca hA)
  | succ d ih =>
    intro a ca ha hA
    have h7 : a < 7 := by omega
    refine br_f (xs_7 h7) (ys_ready h hC hS h7 ht (fun hr => br_f xs_10 ?_) (fun hr => br_t rfl (nm_r (nI_1 a) (ih (a + 1) ca (by omega) (ys_Ac ?_ hA)))))
    · have hq : S ||| 2 ^ a < 128 := tb_o128 hS h7
      have eq : ((nI S ||| ((1 : Int32) <<< (nI a &&& 31))) &&& 127) = nI (S ||| 2 ^ a) := by
        rw [tb_bit a h7, tb_or, tb_127 _ hq]
      rw [eq]
      have hA1 : ys_A (fun s => (X s ∨ ys_X w B L H P S t a s) ∨ s = S ||| 2 ^ a) (upd ca (nI (S ||| 2 ^ a)).toNatClampNeg (vp_nar .boolean 1)) := by
        rw [nI_clamp (by omega)]
        exact ys_Au hA
      refine ⟨xs_in8 hq, nm_e (nm_r (nI_1 a) ?_)⟩
      rcases hw with hw | hw
      · by_cases e6 : a = 6
        · subst e6
          refine ⟨1, br_t xs_77 (nm_r (nI_1 6) (ih 7 _ (by omega) (ys_Ac ?_ hA1)))⟩
          intro s _
          constructor
          · intro g
            rcases g with (g | ⟨a', g1, g2⟩) | g
            · exact Or.inl g
            · exact Or.inr ⟨a', by omega, g2⟩
            · exact Or.inr ⟨6, by omega, hr, Or.inl g⟩
          · intro g
            rcases g with g | ⟨a', g1, g2, g3⟩
            · exact Or.inl (Or.inl g)
            · by_cases e : a' = 6
              · rcases g3 with g3 | g3
                · rw [e] at g3; exact Or.inr g3
                · omega
              · exact Or.inl (Or.inr ⟨a', by omega, g2, g3⟩)
        · refine ⟨1, br_f (xs_7 (by omega)) (br_f (by rw [hw]; decide) (nm_r (nI_1 a) (ih (a + 1) _ (by omega) (ys_Ac ?_ hA1))))⟩
          intro s _
          constructor
          · intro g
            rcases g with (g | ⟨a', g1, g2⟩) | g
            · exact Or.inl g
            · exact Or.inr ⟨a', by omega, g2⟩
            · exact Or.inr ⟨a, by omega, hr, Or.inl g⟩
          · intro g
            rcases g with g | ⟨a', g1, g2, g3⟩
            · exact Or.inl (Or.inl g)
            · by_cases e : a' = a
              · rcases g3 with g3 | g3
                · rw [e] at g3; exact Or.inr g3
                · omega
              · exact Or.inl (Or.inr ⟨a', by omega, g2, g3⟩)
      · refine ⟨7 - (a + 1) + 1, ys_fi (X := fun s => (X s ∨ ys_X w B L H P S t a s) ∨ s = S ||| 2 ^ a) hw h hC hS h7 ht (fun ca' hA' => ih (a + 1) ca' (by omega) (ys_Ac ?_ hA')) (7 - (a + 1)) (a + 1) _ (by omega) (ys_Ac ?_ hA1) (by omega)⟩
        · intro s _
          constructor
          · intro g
            rcases g with ((g | ⟨a', g1, g2⟩) | g) | g
            · exact Or.inl g
            · exact Or.inr ⟨a', by omega, g2⟩
            · exact Or.inr ⟨a, by omega, hr, Or.inl g⟩
            · exact Or.inr ⟨a, by omega, hr, Or.inr ⟨hw, g⟩⟩
          · intro g
            rcases g with g | ⟨a', g1, g2, g3⟩
            · exact Or.inl (Or.inl (Or.inl g))
            · by_cases e : a' = a
              · rw [e] at g3
                rcases g3 with g3 | g3
                · exact Or.inl (Or.inr g3)
                · exact Or.inr g3.2
              · exact Or.inl (Or.inl (Or.inr ⟨a', by omega, g2, g3⟩))
        · intro s _
          constructor
          · exact fun g => Or.inl g
          · intro g
            rcases g with g | ⟨b', g1, g2, g3⟩
            · exact g
            · omega
    · intro s _
      constructor
      · intro g
        rcases g with g | ⟨a', g1, g2⟩
        · exact Or.inl g
        · exact Or.inr ⟨a', by omega, g2⟩
      · intro g
        rcases g with g | ⟨a', g1, g2, g3⟩
        · exact Or.inl g
        · by_cases e : a' = a
          · exact absurd (e ▸ g2) hr
          · exact Or.inr ⟨a', by omega, g2, g3⟩
theorem ys_XS {w P S t s : Nat} {B L H : Nat → Nat} (hw : w = 1 ∨ w = 2) (hP : P < 128) : ys_X w B L H P S t 7 s ↔ tp_S w B L H P S t s := by
  constructor
  · intro ⟨a, _, hr, g⟩
    rcases g with g | ⟨h2, b, g1, g2, g3, g4⟩
    · refine ⟨a, a, Nat.le_refl _, fun _ => rfl, hr, hr, ?_⟩
      rw [g]
      apply tb_ext
      intro i
      rw [tp_o2, tb_o1]
      exact ⟨fun h => h.imp id Or.inl, fun h => h.imp id (fun h => h.elim id id)⟩
    · exact ⟨a, b, by omega, fun e => by omega, hr, g3, g4⟩
  · intro ⟨a, b, hle, h1, ra, rb, e⟩
    refine ⟨a, tb_lt7 hP ra.1, ra, ?_⟩
    by_cases eq : a = b
    · left
      rw [e, ← eq]
      apply tb_ext
      intro i
      rw [tp_o2, tb_o1]
      exact ⟨fun h => h.imp id (fun h => h.elim id id), fun h => h.imp id Or.inl⟩
    · right
      exact ⟨hw.elim (fun h => absurd (h1 h) eq) id, b, by omega, tb_lt7 hP rb.1, rb, e⟩
theorem ys_fill {post : SY → Prop} {w P S t : Nat} {B L H : Nat → Nat} {X : Nat → Prop} (hw : w = 1 ∨ w = 2) (hP : P < 128) (h : ys_H P he) (hC : ys_C P B L H pr lo hi) (hS : S < 128) (ht : t < 128) (hA : ys_A X ca)
    (hp : ∀ ca', ys_A (fun s => X s ∨ tp_S w B L H P S t s) ca' → post (nI w, yo, yd, he, de, pr, lo, hi, ca')) :
    wpY_fill post (nI w, yo, yd, he, de, pr, lo, hi, ca) (nI S) (nI t) := by
  refine ⟨8, ys_fo (X := X) hw h hC hS ht (fun ca' hA' => hp ca' (ys_Ac ?_ hA')) 7 0 ca rfl (ys_Ac ?_ hA)⟩
  · intro s _
    show X s ∨ ys_X w B L H P S t 7 s ↔ X s ∨ tp_S w B L H P S t s
    rw [ys_XS hw hP]
  · intro s _
    constructor
    · exact fun g => Or.inl g
    · intro g
      rcases g with g | ⟨a', g1, _⟩
      · exact g
      · omega
end
