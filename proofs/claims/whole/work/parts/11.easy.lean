/-! tasks, deadline, linked, unlink, remove, span, tightest, earliest, slotOf, shortSlotOf -/
section
variable {w c P : Nat} {D B : Nat → Nat} {dl bf td tb sf : Nat → Int32} {fm fc fp yw yo yd : Int32} {he de pr lo hi ca : Nat → Int32}
theorem i_vc_tasks {k : Nat} {u : SX} {v : SY} (I : i_Rel k u v) (hk : k + 3 ≤ 1538) : wpX_tasks (fun r => wpY_tasks (fun r' => r' = r ∧ i_Rel (k + 3) u v) v) u := by
  obtain ⟨w, c, P, D, B, dl, bf, td, tb, sf, yd, he, de, pr, lo, hi, ca, rfl, rfl, V⟩ := I
  unfold wpX_tasks
  dsimp only
  exact ys_tasks (zr_H V) (zr_P V) ⟨rfl, zr_mk V⟩
theorem xm_dead0 {post : Int32 → Prop} {x : Int32} (hP : P < 128) (hn : tp_N P x) (hp : post (-1)) : wpX_deadline post (fm, fc, nI P, dl, bf, td, tb, sf) x := by
  unfold wpX_deadline
  dsimp only
  exact xs_task0 hP hn (br_t rfl hp)
theorem xm_dead1 {post : Int32 → Prop} {i : Nat} (hP : P < 128) (hi : P.testBit i = true) (hp : post (dl i)) : wpX_deadline post (fm, fc, nI P, dl, bf, td, tb, sf) (nI i) := by
  have h7 := tb_lt7 hP hi
  unfold wpX_deadline
  dsimp only
  exact xs_task1 hP h7 hi (br_f xs_10 ⟨xs_in h7, by rw [nI_clamp (by omega)]; exact hp⟩)
theorem ym_dead0 {post : Int32 → Prop} {x : Int32} (h : ys_H P he) (hn : tp_N P x) (hp : post (-1)) : wpY_deadline post (yw, yo, yd, he, de, pr, lo, hi, ca) x := by
  unfold wpY_deadline
  dsimp only
  exact ys_there0 h hn (br_t rfl hp)
theorem ym_dead1 {post : Int32 → Prop} {i : Nat} (hP : P < 128) (h : ys_H P he) (hi' : P.testBit i = true) (hp : post (de i)) : wpY_deadline post (yw, yo, yd, he, de, pr, lo, hi, ca) (nI i) := by
  have h7 := tb_lt7 hP hi'
  unfold wpY_deadline
  dsimp only
  exact ys_there1 h h7 hi' (br_f xs_10 ⟨xs_in h7, by rw [nI_clamp (by omega)]; exact hp⟩)
theorem i_vc_deadline {k : Nat} {u : SX} {v : SY} (I : i_Rel k u v) (hk : k + 3 ≤ 1538) (v1 : Int32) : wpX_deadline (fun r => wpY_deadline (fun r' => r' = r ∧ i_Rel (k + 3) u v) v v1) u v1 := by
  obtain ⟨w, c, P, D, B, dl, bf, td, tb, sf, yd, he, de, pr, lo, hi, ca, rfl, rfl, V⟩ := I
  rcases tp_NT P v1 with hn | ⟨i, h7, rfl, hi'⟩
  · exact xm_dead0 (zr_P V) hn (ym_dead0 (zr_H V) hn ⟨rfl, zr_mk V⟩)
  · obtain ⟨v1, v2, v3, v4, v5⟩ := V.2.2.2.1 i hi'
    exact xm_dead1 (zr_P V) hi' (ym_dead1 (zr_P V) (zr_H V) hi' ⟨by rw [v3, v4], zr_mk V⟩)
/-! linked -/
def zl_no (P : Nat) (B : Nat → Nat) (x y : Int32) : Prop := tp_N P x ∨ (∃ i, P.testBit i = true ∧ x = nI i ∧ (tp_N P y ∨ ∃ j, P.testBit j = true ∧ y = nI j ∧ ¬ (B j).testBit i = true))
theorem zl_ca (P : Nat) (B : Nat → Nat) (x y : Int32) : zl_no P B x y ∨ ∃ i j, P.testBit i = true ∧ P.testBit j = true ∧ x = nI i ∧ y = nI j ∧ (B j).testBit i = true := by
  rcases tp_NT P x with hn | ⟨i, h7, e, hi⟩
  · exact Or.inl (Or.inl hn)
  · rcases tp_NT P y with hn | ⟨j, h7', e', hj⟩
    · exact Or.inl (Or.inr ⟨i, hi, e, Or.inl hn⟩)
    · by_cases hb : (B j).testBit i = true
      · exact Or.inr ⟨i, j, hi, hj, e, e', hb⟩
      · exact Or.inl (Or.inr ⟨i, hi, e, Or.inr ⟨j, hj, e', hb⟩⟩)
theorem xm_ln0 {post : Int32 → Prop} {x y : Int32} (V : zr_V w c P D B dl bf he de pr) (hn : zl_no P B x y) (hp : post 0) : wpX_linked post (fm, fc, nI P, dl, bf, td, tb, sf) x y := by
  have hP := zr_P V
  unfold wpX_linked
  dsimp only
  rcases hn with hn | ⟨i, hi, e, hn⟩
  · exact xs_task0 hP hn (br_t rfl hp)
  · subst e
    have hi7 := tb_lt7 hP hi
    rcases hn with hn | ⟨j, hj, e, hb⟩
    · exact xs_task1 hP hi7 hi (br_f xs_10 (xs_task0 hP hn (br_t rfl hp)))
    · subst e
      have hj7 := tb_lt7 hP hj
      refine xs_task1 hP hi7 hi (br_f xs_10 (xs_task1 hP hj7 hj (br_f xs_10 ⟨xs_in hj7, ?_⟩)))
      rw [nI_clamp (by omega), (zr_b V j hj7).1]
      exact xs_has0 (zr_B V j) hi7 hb (br_t rfl hp)
theorem xm_ln1 {post : Int32 → Prop} {i j : Nat} (V : zr_V w c P D B dl bf he de pr) (hi : P.testBit i = true) (hj : P.testBit j = true) (hb : (B j).testBit i = true) (hp : post 1) :
    wpX_linked post (fm, fc, nI P, dl, bf, td, tb, sf) (nI i) (nI j) := by
  have hP := zr_P V
  have hi7 := tb_lt7 hP hi
  have hj7 := tb_lt7 hP hj
  unfold wpX_linked
  dsimp only
  refine xs_task1 hP hi7 hi (br_f xs_10 (xs_task1 hP hj7 hj (br_f xs_10 ⟨xs_in hj7, ?_⟩)))
  rw [nI_clamp (by omega), (zr_b V j hj7).1]
  exact xs_has1 (zr_B V j) hi7 hb (br_f xs_10 hp)
theorem ym_ln0 {post : Int32 → Prop} {x y : Int32} (hP : P < 128) (h : ys_H P he) (hpr : ∀ k, P.testBit k = true → pr k = nI (B k) ∧ B k < 128) (hn : zl_no P B x y) (hp : post 0) : wpY_linked post (yw, yo, yd, he, de, pr, lo, hi, ca) x y := by
  unfold wpY_linked
  dsimp only
  rcases hn with hn | ⟨i, hi, e, hn⟩
  · exact ys_there0 h hn (br_t rfl hp)
  · subst e
    have hi7 := tb_lt7 hP hi
    rcases hn with hn | ⟨j, hj, e, hb⟩
    · exact ys_there1 h hi7 hi (br_f xs_10 (ys_there0 h hn (br_t rfl hp)))
    · subst e
      have hj7 := tb_lt7 hP hj
      refine ys_there1 h hi7 hi (br_f xs_10 (ys_there1 h hj7 hj (br_f xs_10 ⟨xs_in hj7, br_f ?_ hp⟩)))
      rw [nI_clamp (by omega), (hpr j hj).1, tb_has _ (hpr j hj).2 i hi7, if_neg hb]
      decide
theorem ym_ln1 {post : Int32 → Prop} {i j : Nat} (hP : P < 128) (h : ys_H P he) (hpr : ∀ k, P.testBit k = true → pr k = nI (B k) ∧ B k < 128) (hi' : P.testBit i = true) (hj : P.testBit j = true) (hb : (B j).testBit i = true) (hp : post 1) :
    wpY_linked post (yw, yo, yd, he, de, pr, lo, hi, ca) (nI i) (nI j) := by
  have hi7 := tb_lt7 hP hi'
  have hj7 := tb_lt7 hP hj
  unfold wpY_linked
  dsimp only
  refine ys_there1 h hi7 hi' (br_f xs_10 (ys_there1 h hj7 hj (br_f xs_10 ⟨xs_in hj7, br_t ?_ hp⟩)))
  rw [nI_clamp (by omega), (hpr j hj).1, tb_has _ (hpr j hj).2 i hi7, if_pos hb]
theorem i_vc_linked {k : Nat} {u : SX} {v : SY} (I : i_Rel k u v) (hk : k + 3 ≤ 1538) (v1 : Int32) (v2 : Int32) : wpX_linked (fun r => wpY_linked (fun r' => r' = r ∧ i_Rel (k + 3) u v) v v1 v2) u v1 v2 := by
  obtain ⟨w, c, P, D, B, dl, bf, td, tb, sf, yd, he, de, pr, lo, hi, ca, rfl, rfl, V⟩ := I
  rcases zl_ca P B v1 v2 with hn | ⟨i, j, hi', hj, rfl, rfl, hb⟩
  · exact xm_ln0 V hn (ym_ln0 (zr_P V) (zr_H V) (zr_p V) hn ⟨rfl, zr_mk V⟩)
  · exact xm_ln1 V hi' hj hb (ym_ln1 (zr_P V) (zr_H V) (zr_p V) hi' hj hb ⟨rfl, zr_mk V⟩)
/-! unlink -/
theorem ym_un {post : Int32 → SY → Prop} {i j : Nat} (hP : P < 128) (h : ys_H P he) (hpr : ∀ k, P.testBit k = true → pr k = nI (B k) ∧ B k < 128) (hi' : P.testBit i = true) (hj : P.testBit j = true) (hb : (B j).testBit i = true)
    (hp : post 1 (yw, yo, yd, he, de, upd pr j (nI (tb_df (B j) (2 ^ i))), lo, hi, ca)) : wpY_unlink post (yw, yo, yd, he, de, pr, lo, hi, ca) (nI i) (nI j) := by
  have hi7 := tb_lt7 hP hi'
  have hj7 := tb_lt7 hP hj
  unfold wpY_unlink
  dsimp only
  refine ym_ln1 hP h hpr hi' hj hb (br_f xs_10 ⟨xs_in hj7, xs_in hj7, nm_r (e' := upd pr j (nI (tb_df (B j) (2 ^ i)))) ?_ hp⟩)
  rw [nI_clamp (by omega), (hpr j hj).1, tb_bit i hi7, tb_dif]
theorem xm_un {post : Int32 → SX → Prop} {i j : Nat} (V : zr_V w c P D B dl bf he de pr) (hi : P.testBit i = true) (hj : P.testBit j = true) (hb : (B j).testBit i = true)
    (hp : post 1 (fm, fc, nI P, dl, upd bf j (nI (tb_df (B j) (2 ^ i))), td, tb, sf)) : wpX_unlink post (fm, fc, nI P, dl, bf, td, tb, sf) (nI i) (nI j) := by
  have hP := zr_P V
  have hi7 := tb_lt7 hP hi
  have hj7 := tb_lt7 hP hj
  unfold wpX_unlink
  dsimp only
  refine xm_ln1 V hi hj hb (br_f xs_10 ⟨xs_in hj7, xs_in hj7, nm_r (e' := upd bf j (nI (tb_df (B j) (2 ^ i)))) ?_ hp⟩)
  rw [nI_clamp (by omega), (zr_b V j hj7).1, tb_bit i hi7, tb_dif]
theorem i_vc_unlink {k : Nat} {u : SX} {v : SY} (I : i_Rel k u v) (hk : k + 3 ≤ 1538) (v1 : Int32) (v2 : Int32) : wpX_unlink (fun r u' => wpY_unlink (fun r' v' => r' = r ∧ i_Rel (k + 3) u' v') v v1 v2) u v1 v2 := by
  obtain ⟨w, c, P, D, B, dl, bf, td, tb, sf, yd, he, de, pr, lo, hi, ca, rfl, rfl, V⟩ := I
  rcases zl_ca P B v1 v2 with hn | ⟨i, j, hi', hj, rfl, rfl, hb⟩
  · unfold wpX_unlink
    dsimp only
    refine xm_ln0 V hn (br_t rfl ?_)
    unfold wpY_unlink
    dsimp only
    exact ym_ln0 (zr_P V) (zr_H V) (zr_p V) hn (br_t rfl ⟨rfl, zr_mk V⟩)
  · refine xm_un V hi' hj hb (ym_un (zr_P V) (zr_H V) (zr_p V) hi' hj hb ⟨rfl, ?_⟩)
    have hsub : ∀ q a, (tp_up B j (tb_df (B j) (2 ^ i)) q).testBit a = true → (B q).testBit a = true := by
      intro q a
      by_cases e : q = j
      · rw [e, tp_us]
        exact fun h => ((tb_dm _ _ _).mp h).1
      · rw [tp_un B _ e]
        exact id
    refine zr_mk (D := D) (B := tp_up B j (tb_df (B j) (2 ^ i))) ⟨V.1, V.2.1, V.2.2.1, ?_, ?_, fun q a h => V.2.2.2.2.2.1 q a (hsub q a h), ?_, zr_H V, ?_⟩
    · intro q hq
      obtain ⟨v1, v2, v3, v4, v5⟩ := V.2.2.2.1 q hq
      refine ⟨v1, v2, v3, v4, ?_⟩
      by_cases e : q = j
      · rw [e, pk_us, tp_us]
      · rw [pk_un e, tp_un B _ e]; exact v5
    · intro q hq
      by_cases e : q = j
      · rw [e, pk_us, tp_us]
      · rw [pk_un e, tp_un B _ e]; exact V.2.2.2.2.1 q hq
    · intro q hq
      have ne : q ≠ j := fun e => hq (by rw [e]; exact hj)
      rw [tp_un B _ ne]
      exact V.2.2.2.2.2.2.1 q hq
    · obtain ⟨s, hF⟩ := zr_E V
      exact ⟨s, tp_F_mono (fun _ h => h) (fun q _ a _ h => hsub q a h) (fun _ _ => Nat.le_refl _) (fun _ _ => Nat.le_refl _) hF⟩
/-! remove -/
theorem xm_rl {post : Int32 → SX → Prop} {k : Nat} (hk : k < 7)
    (hp : ∀ bf' : Nat → Int32, (∀ i, i < 7 → bf' i = bf i &&& (nI (2 ^ k) ^^^ (-1))) → post 1 (fm, fc, fp, dl, bf', td, tb, sf)) :
    ∀ d j, ∀ bf1 : Nat → Int32, j + d = 7 → (∀ i, i < j → bf1 i = bf i &&& (nI (2 ^ k) ^^^ (-1))) → (∀ i, j ≤ i → bf1 i = bf i) →
      wX_remove_33 post (nI k) fm fc fp (d + 1) (nI j) dl bf1 td tb sf := by
  intro d
  induction d with
  | zero =>
    intro j bf1 hj h1 h2
    have e : j = 7 := by omega
    subst e
    exact br_t xs_77 (hp bf1 h1)
  | succ d ih =>
    intro j bf1 hj h1 h2
    have h7 : j < 7 := by omega
    refine br_f (xs_7 h7) ⟨xs_in h7, xs_in h7, nm_e (nm_r (nI_1 j) (ih (j + 1) _ (by omega) ?_ ?_))⟩
    · rw [nI_clamp (by omega), tb_bit k hk]
      intro i hi'
      by_cases e : i = j
      · rw [e, pk_us, h2 j (Nat.le_refl _)]
      · rw [pk_un e]; exact h1 i (by omega)
    · rw [nI_clamp (by omega)]
      intro i hi'
      rw [pk_un (by omega)]
      exact h2 i (by omega)
theorem i_vc_remove {k : Nat} {u : SX} {v : SY} (I : i_Rel k u v) (hk : k + 3 ≤ 1538) (v1 : Int32) : wpX_remove (fun r u' => wpY_remove (fun r' v' => r' = r ∧ i_Rel (k + 3) u' v') v v1) u v1 := by
  obtain ⟨w, c, P, D, B, dl, bf, td, tb, sf, yd, he, de, pr, lo, hi, ca, rfl, rfl, V⟩ := I
  have hP := zr_P V
  rcases tp_NT P v1 with hn | ⟨i, h7, rfl, hi'⟩
  · unfold wpX_remove
    dsimp only
    refine xs_task0 hP hn (br_t rfl ?_)
    unfold wpY_remove
    dsimp only
    exact ys_there0 (zr_H V) hn (br_t rfl ⟨rfl, zr_mk V⟩)
  · unfold wpX_remove
    dsimp only
    refine xs_task1 hP h7 hi' (br_f xs_10 (nm_r (e' := nI (tb_df P (2 ^ i))) (by rw [tb_bit i h7, tb_dif]) ⟨xs_in h7, nm_e ⟨8, xm_rl h7 (fun bf' hbf => ?_) 7 0 _ rfl (fun i h => absurd h (Nat.not_lt_zero i)) (fun _ _ => rfl)⟩⟩))
    refine yl_rm h7 (zr_H V) hi' (fun he' pr' hH hpr => ⟨rfl, ?_⟩)
    rw [nI_clamp (by omega)] at hbf
    have hsub : ∀ q a, ((fun q => if q = i then 0 else tb_df (B q) (2 ^ i)) q).testBit a = true → (B q).testBit a = true ∧ a ≠ i := by
      intro q a
      dsimp only
      by_cases e : q = i
      · rw [if_pos e]
        exact fun h => absurd h (tb_n0 a)
      · rw [if_neg e]
        exact fun h => (tb_d1 _ _ _).mp h
    refine zr_mk (D := D) (B := fun q => if q = i then 0 else tb_df (B q) (2 ^ i)) ⟨V.1, V.2.1, Nat.lt_of_le_of_lt (tb_dle _ _) V.2.2.1, ?_, ?_, ?_, ?_, hH, ?_⟩
    · intro q hq
      obtain ⟨hq1, hq2⟩ := (tb_d1 _ _ _).mp hq
      obtain ⟨v1, v2, v3, v4, v5⟩ := V.2.2.2.1 q hq1
      refine ⟨v1, v2, v3, v4, ?_⟩
      rw [hpr q (tb_lt7 hP hq1), v5, tb_dif]
      dsimp only
      rw [if_neg hq2]
    · intro q hq
      rw [hbf q hq]
      dsimp only
      by_cases e : q = i
      · rw [e, pk_us, if_pos rfl, ← nI_0, tb_dif]
        congr 1
        exact tb_df0.mpr (fun a h => absurd h (tb_n0 a))
      · rw [pk_un e, if_neg e, V.2.2.2.2.1 q hq, tb_dif]
    · intro q a h
      have g := hsub q a h
      exact (tb_d1 _ _ _).mpr ⟨V.2.2.2.2.2.1 q a g.1, g.2⟩
    · intro q hq
      dsimp only
      by_cases e : q = i
      · rw [if_pos e]
      · rw [if_neg e]
        have h0 : B q = 0 := V.2.2.2.2.2.2.1 q (fun h => hq ((tb_d1 _ _ _).mpr ⟨h, e⟩))
        rw [h0]
        exact tb_df0.mpr (fun a h => absurd h (tb_n0 a))
    · obtain ⟨s, hF⟩ := zr_E V
      exact ⟨s, tp_F_mono (fun a h => ((tb_d1 _ _ _).mp h).1) (fun q _ a _ h => (hsub q a h).1) (fun _ _ => Nat.le_refl _) (fun _ _ => Nat.le_refl _) hF⟩
end
