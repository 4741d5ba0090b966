/-! add, probe, addBefore -/
section
variable {w c P n q : Nat} {D B B1 : Nat → Nat} {dl bf td tb sf : Nat → Int32} {fm fc fp yw yo yd y : Int32} {he de pr lo hi ca : Nat → Int32}
/-- the predecessors with a new task n that comes before y, if y is a task -/
def zn_B (P : Nat) (B : Nat → Nat) (n : Nat) (y : Int32) (B1 : Nat → Nat) : Prop := (y < 0 ∧ B1 = B) ∨ (∃ j, P.testBit j = true ∧ y = nI j ∧ B1 = tp_up B j (B j ||| 2 ^ n))
theorem zn_lf : ∀ P, P < 128 → tp_lf P 7 ≤ 7 ∧ (tp_lf P 7 < 7 → P.testBit (tp_lf P 7) = false) := by decide +kernel
theorem zn_cn : ∀ P, P < 128 → tp_cn P 7 ≤ 7 := by decide +kernel
theorem zn_in (V : zr_V w c P D B dl bf he de pr) (h : zn_B P B n y B1) : ∀ a i, (B1 a).testBit i = true → (P ||| 2 ^ n).testBit i = true := by
  intro a i hb
  rw [tb_o1]
  rcases h with ⟨_, e⟩ | ⟨j, hj, _, e⟩
  · rw [e] at hb
    exact Or.inl (V.2.2.2.2.2.1 a i hb)
  · rw [e] at hb
    by_cases ea : a = j
    · rw [ea, tp_us, tb_o1] at hb
      exact hb.imp (V.2.2.2.2.2.1 j i) id
    · rw [tp_un B _ ea] at hb
      exact Or.inl (V.2.2.2.2.2.1 a i hb)
theorem zn_0 (V : zr_V w c P D B dl bf he de pr) (h : zn_B P B n y B1) : ∀ a, ¬ (P ||| 2 ^ n).testBit a = true → B1 a = 0 := by
  intro a ha
  have hP : ¬ P.testBit a = true := fun g => ha ((tb_o1 _ _ _).mpr (Or.inl g))
  rcases h with ⟨_, e⟩ | ⟨j, hj, _, e⟩
  · rw [e]
    exact V.2.2.2.2.2.2.1 a hP
  · have ne : a ≠ j := fun g => hP (by rw [g]; exact hj)
    rw [e, tp_un B _ ne]
    exact V.2.2.2.2.2.2.1 a hP
theorem zn_128 (V : zr_V w c P D B dl bf he de pr) (hn : n < 7) (h : zn_B P B n y B1) (a : Nat) : B1 a < 128 := tb_sl (zn_in V h a) (tb_o128 (zr_P V) hn)
theorem zn_df (V : zr_V w c P D B dl bf he de pr) (hn : ¬ P.testBit n = true) (h : zn_B P B n y B1) (a : Nat) : tb_df (B1 a) (2 ^ n) = B a := by
  have no : ∀ a, ¬ (B a).testBit n = true := fun a g => hn (V.2.2.2.2.2.1 a n g)
  have k1 : ∀ a, tb_df (B a) (2 ^ n) = B a := by
    intro a
    apply tb_ext
    intro i
    rw [tb_d1]
    exact ⟨fun g => g.1, fun g => ⟨g, fun e => no a (e ▸ g)⟩⟩
  rcases h with ⟨_, e⟩ | ⟨j, hj, _, e⟩
  · rw [e]
    exact k1 a
  · rw [e]
    by_cases ea : a = j
    · rw [ea, tp_us]
      apply tb_ext
      intro i
      rw [tb_d1, tb_o1]
      constructor
      · intro g
        rcases g with ⟨g | g, g'⟩
        · exact g
        · exact absurd g g'
      · exact fun g => ⟨Or.inl g, fun e => no j (e ▸ g)⟩
    · rw [tp_un B _ ea]
      exact k1 a
theorem zn_Pd (hn : ¬ P.testBit n = true) : tb_df (P ||| 2 ^ n) (2 ^ n) = P := by
  apply tb_ext
  intro i
  rw [tb_d1, tb_o1]
  constructor
  · intro g
    rcases g with ⟨g | g, g'⟩
    · exact g
    · exact absurd g g'
  · exact fun g => ⟨Or.inl g, fun e => hn (e ▸ g)⟩
/-! X -/
theorem xn_49 {post : Int32 → SX → Prop} {D1 : Nat → Nat} (hw : w = 1 ∨ w = 2) (hP1 : P ||| 2 ^ n < 128) (hn : n < 7) (hC : xt_C (P ||| 2 ^ n) B1 D1 td tb) (hB : tp_C B1 (P ||| 2 ^ n))
    (hp1 : tp_E w B1 (fun _ => 0) D1 (P ||| 2 ^ n) → ∀ sf' : Nat → Int32, post (nI n) (nI w, nI c, nI P, dl, bf, td, tb, sf'))
    (hp0 : ¬ tp_E w B1 (fun _ => 0) D1 (P ||| 2 ^ n) → ∀ sf' : Nat → Int32, post (-3) (nI w, nI c, nI P, dl, bf, td, tb, sf')) :
    wX_numberForNew_49 post (nI n) (nI w) (nI c) (nI P) dl bf td tb sf := by
  unfold wX_numberForNew_49
  rw [tb_bit n hn, tb_or]
  refine xt_ts hw hP1 hC hB (fun x sf' hx => ?_)
  have hE := tp_TE (fun a ha => (hC a ha).2.1) hB hx
  have h100 := xt_100 (tp_Tx hx)
  by_cases h : x = 100
  · exact br_t (h100.mpr h) (hp0 (fun e => hE.mpr e h) _)
  · exact br_f (fun e => h (h100.mp e)) (hp1 (hE.mp h) _)
theorem xn_num {post : Int32 → SX → Prop} (V : zr_V w c P D B dl bf he de pr) (en : n = tp_lf P 7) (h8 : q ≤ 8) (hB : zn_B P B n y B1)
    (hpF : c ≤ n → post (-2) (nI w, nI c, nI P, dl, bf, td, tb, sf))
    (hp1 : n < c → tp_E w B1 (fun _ => 0) (tp_up D n q) (P ||| 2 ^ n) → ∀ td' tb' sf' : Nat → Int32, post (nI n) (nI w, nI c, nI P, dl, bf, td', tb', sf'))
    (hp0 : n < c → ¬ tp_E w B1 (fun _ => 0) (tp_up D n q) (P ||| 2 ^ n) → ∀ td' tb' sf' : Nat → Int32, post (-3) (nI w, nI c, nI P, dl, bf, td', tb', sf')) :
    wpX_numberForNew post (nI w, nI c, nI P, dl, bf, td, tb, sf) (nI q) y := by
  have hP := zr_P V
  have hc7 := V.2.1.2
  unfold wpX_numberForNew
  dsimp only
  refine xs_lf hP ?_
  rw [← en]
  rcases Nat.lt_or_ge n c with hnc | hnc
  · have hn7 : n < 7 := by omega
    have hnP : ¬ P.testBit n = true := by
      have := (zn_lf P hP).2 (by omega)
      rw [← en] at this
      rw [this]
      decide
    have ec : (nI n).toNatClampNeg = n := nI_clamp (by omega)
    refine br_t (nI_lt hnc (by omega)) (xs_start (fun td' tb' g1 g2 => ⟨xs_in hn7, ?_⟩))
    have hC0 := zr_x8 V g1 g2
    have hCa : ∀ tb1 : Nat → Int32, (∀ a, a < 7 → tb1 a = nI (B1 a)) → xt_C (P ||| 2 ^ n) B1 (tp_up D n q) (upd td' n (nI q)) tb1 := by
      intro tb1 h1 a ha
      have ha7 := tb_lt7 (tb_o128 hP hn7) ha
      by_cases e : a = n
      · rw [e, pk_us, tp_us]
        exact ⟨rfl, h8, h1 n hn7⟩
      · have haP : P.testBit a = true := ((tb_o1 _ _ _).mp ha).resolve_right e
        rw [pk_un e, tp_un D _ e]
        exact ⟨(hC0 a haP).1, (hC0 a haP).2.1, h1 a ha7⟩
    have hBc : tp_C B1 (P ||| 2 ^ n) := fun a _ i h => zn_in V hB a i h
    refine nm_r (e' := upd td' n (nI q)) (by dsimp only; rw [ec]) ?_
    rcases hB with ⟨hy, e⟩ | ⟨j, hj, hy, e⟩
    · refine xs_task0 hP (Or.inl hy) (br_t rfl (xn_49 V.1 (tb_o128 hP hn7) hn7 (hCa tb' ?_) hBc (fun hE sf' => hp1 hnc hE _ _ sf') (fun hE sf' => hp0 hnc hE _ _ sf')))
      intro a ha
      rw [e, g2 a ha]
      exact (zr_b V a ha).1
    · have hj7 := tb_lt7 hP hj
      have ej : (nI j).toNatClampNeg = j := nI_clamp (by omega)
      subst hy
      refine xs_task1 hP hj7 hj (br_f xs_10 ⟨xs_in hj7, xs_in hj7, nm_r (e' := upd tb' j (nI (B j ||| 2 ^ n))) ?_ (xn_49 V.1 (tb_o128 hP hn7) hn7 (hCa _ ?_) hBc (fun hE sf' => hp1 hnc hE _ _ sf') (fun hE sf' => hp0 hnc hE _ _ sf'))⟩)
      · dsimp only
        rw [ej, g2 j hj7, (zr_b V j hj7).1, tb_bit n hn7, tb_or]
      · intro a ha
        rw [e]
        by_cases ea : a = j
        · rw [ea, pk_us, tp_us]
        · rw [pk_un ea, tp_un B _ ea, g2 a ha]
          exact (zr_b V a ha).1
  · exact br_f (nI_nlt hnc (by have := (zn_lf P hP).1; omega)) (hpF hnc)
theorem xn_probe {post : Int32 → SX → Prop} (V : zr_V w c P D B dl bf he de pr) (en : n = tp_lf P 7) (h1 : 1 ≤ q) (h8 : q ≤ 8)
    (hpF : c ≤ n → post (-2) (nI w, nI c, nI P, dl, bf, td, tb, sf))
    (hp1 : n < c → tp_E w B (fun _ => 0) (tp_up D n q) (P ||| 2 ^ n) → ∀ td' tb' sf' : Nat → Int32, post (nI n) (nI w, nI c, nI P, dl, bf, td', tb', sf'))
    (hp0 : n < c → ¬ tp_E w B (fun _ => 0) (tp_up D n q) (P ||| 2 ^ n) → ∀ td' tb' sf' : Nat → Int32, post (-3) (nI w, nI c, nI P, dl, bf, td', tb', sf')) :
    wpX_probe post (nI w, nI c, nI P, dl, bf, td, tb, sf) (nI q) := by
  unfold wpX_probe
  dsimp only
  exact xd_1 h1 h8 (br_f xs_10 (xn_num (B1 := B) V en h8 (Or.inl ⟨by decide, rfl⟩) hpF hp1 hp0))
theorem xn_pb {post : Int32 → SX → Prop} {d : Int32} (h : zd_bad d) (hp : post (-1) (fm, fc, fp, dl, bf, td, tb, sf)) : wpX_probe post (fm, fc, fp, dl, bf, td, tb, sf) d := by
  unfold wpX_probe
  dsimp only
  exact xd_0 h (br_t rfl hp)
theorem xn_place {post : SX → Prop} (hn : n < 7) (hp : post (fm, fc, nI (P ||| 2 ^ n), upd dl n (nI q), bf, td, tb, sf)) : wpX_place post (fm, fc, nI P, dl, bf, td, tb, sf) (nI n) (nI q) :=
  nm_r (e' := nI (P ||| 2 ^ n)) (by rw [tb_bit n hn, tb_or]) ⟨xs_in hn, nm_r (e' := upd dl n (nI q)) (by rw [nI_clamp (by omega)]) hp⟩
/-! Y -/
theorem yn_127 {post : Int32 → SY → Prop} {D1 : Nat → Nat} (hw : w = 1 ∨ w = 2) (hP1 : P ||| 2 ^ n < 128) (hn : n < 7) (hH : ys_H (P ||| 2 ^ n) he) (hV : yf_V (P ||| 2 ^ n) B1 D1 de pr) (hB : tp_C B1 (P ||| 2 ^ n))
    (hp1 : tp_E w B1 (fun _ => 0) D1 (P ||| 2 ^ n) → ∀ (fd' : Int32) (lo' hi' ca' : Nat → Int32), post (nI n) (nI w, yo, fd', he, de, pr, lo', hi', ca'))
    (hp0 : ¬ tp_E w B1 (fun _ => 0) D1 (P ||| 2 ^ n) → ∀ (fd' : Int32) (he' pr' lo' hi' ca' : Nat → Int32), ys_H (tb_df (P ||| 2 ^ n) (2 ^ n)) he' → (∀ i, i < 7 → pr' i = pr i &&& (nI (2 ^ n) ^^^ (-1))) →
      post (-3) (nI w, yo, fd', he', de, pr', lo', hi', ca')) : wY_take_127 post (nI n) (nI w) yo yd he de pr lo hi ca := by
  unfold wY_take_127
  refine yf_good hw hP1 hH hV hB (fun r fd' lo' hi' ca' hr => ?_)
  rcases hr with ⟨er, hE, _⟩ | ⟨er, hE⟩
  · exact br_f (by rw [er]; decide) (hp1 hE _ _ _ _)
  · exact br_t er (yl_rm hn hH ((tb_o1 _ _ _).mpr (Or.inr rfl)) (fun he' pr' g1 g2 => hp0 hE _ he' pr' _ _ _ g1 g2))
theorem yn_l {post : Int32 → SY → Prop} {p0 p1 : Int32} (hH : ys_H P he) (hx : wY_take_10 post p0 p1 yw yo yd he de pr lo hi ca 1 (nI (tp_cn P 7)) (nI (tp_lf P 7)) (nI 0 + (-1))) :
    ∀ i, i ≤ 7 → wY_take_10 post p0 p1 yw yo yd he de pr lo hi ca (i + 1) (nI (tp_cn P (7 - i))) (nI (tp_lf P (7 - i))) (nI i + (-1)) := by
  intro i
  induction i with
  | zero => exact fun _ => hx
  | succ i ih =>
    intro hi7
    have ih' := ih (by omega)
    have h7 : i < 7 := by omega
    have e : 7 - i = (7 - (i + 1)) + 1 := by omega
    have e6 : 6 - (7 - (i + 1)) = i := by omega
    have ecn : tp_cn P (7 - i) = tp_cn P (7 - (i + 1)) + if P.testBit i = true then 1 else 0 := by
      rw [e]
      show tp_cn P (7 - (i + 1)) + (if P.testBit (6 - (7 - (i + 1))) = true then 1 else 0) = _
      rw [e6]
    have elf : tp_lf P (7 - i) = if P.testBit i = true then tp_lf P (7 - (i + 1)) else i := by
      rw [e]
      show (if P.testBit (6 - (7 - (i + 1))) = true then tp_lf P (7 - (i + 1)) else 6 - (7 - (i + 1))) = _
      rw [e6]
    rw [pk_m1]
    by_cases hb : P.testBit i = true
    · rw [if_pos hb] at ecn elf
      rw [ecn, elf] at ih'
      exact br_f (nI_pos (by omega)) ⟨xs_in h7, br_f (ys_h1 hH h7 hb) (nm_r (nI_1 _) ⟨xs_in h7, br_f (ys_h1 hH h7 hb) (nm_e ih')⟩)⟩
    · rw [if_neg hb] at ecn elf
      rw [ecn, elf] at ih'
      exact br_f (nI_pos (by omega)) ⟨xs_in h7, br_t (ys_h0 hH h7 hb) (nm_r (Int32.add_zero _) ⟨xs_in h7, br_t (ys_h0 hH h7 hb) (nm_e ih')⟩)⟩
theorem yn_take {post : Int32 → SY → Prop} (V : zr_V w c P D B dl bf he de pr) (en : n = tp_lf P 7) (h1 : 1 ≤ q) (h8 : q ≤ 8) (hB : zn_B P B n y B1)
    (hpF : c ≤ n → post (-2) (nI w, nI c, yd, he, de, pr, lo, hi, ca))
    (hp1 : n < c → tp_E w B1 (fun _ => 0) (tp_up D n q) (P ||| 2 ^ n) → ∀ (fd' : Int32) (he' pr' lo' hi' ca' : Nat → Int32), ys_H (P ||| 2 ^ n) he' → (∀ a, (P ||| 2 ^ n).testBit a = true → pr' a = nI (B1 a)) →
      post (nI n) (nI w, nI c, fd', he', upd de n (nI q), pr', lo', hi', ca'))
    (hp0 : n < c → ¬ tp_E w B1 (fun _ => 0) (tp_up D n q) (P ||| 2 ^ n) → ∀ (fd' : Int32) (he' pr' lo' hi' ca' : Nat → Int32), ys_H P he' → (∀ a, P.testBit a = true → pr' a = nI (B a)) →
      post (-3) (nI w, nI c, fd', he', upd de n (nI q), pr', lo', hi', ca')) :
    wpY_take post (nI w, nI c, yd, he, de, pr, lo, hi, ca) (nI q) y := by
  have hP := zr_P V
  have hc7 := V.2.1.2
  have hcl := tp_cl P hP c (by omega) V.2.2.1
  have hcn := zn_cn P hP
  rw [← en] at hcl
  refine ⟨8, yn_l (P := P) (zr_H V) ?_ 7 (by omega)⟩
  rw [← en]
  refine br_t (by decide) ?_
  rcases Nat.lt_or_ge n c with hnc | hnc
  · have hn7 : n < 7 := by omega
    have hnP : ¬ P.testBit n = true := by
      have := (zn_lf P hP).2 (by omega)
      rw [← en] at this
      rw [this]
      decide
    have ec : (nI n).toNatClampNeg = n := nI_clamp (by omega)
    refine br_f (nI_ge (by omega) (by omega)) (br_t (nI_lt (b := 7) hn7 (by decide)) ⟨xs_in hn7, nm_e ⟨xs_in hn7, nm_r (e' := upd de n (nI q)) (by rw [ec]) ⟨xs_in hn7, nm_r (e' := upd pr n 0) (by rw [ec]) ?_⟩⟩⟩)
    have hH1 := yl_Hu hn7 (zr_H V)
    have hBc : tp_C B1 (P ||| 2 ^ n) := fun a _ i h => zn_in V hB a i h
    have hP1 := tb_o128 hP hn7
    have go : ∀ pr1 : Nat → Int32, (∀ a, (P ||| 2 ^ n).testBit a = true → pr1 a = nI (B1 a)) →
        wY_take_127 post (nI n) (nI w) (nI c) yd (upd he (nI n).toNatClampNeg (vp_nar .boolean 1)) (upd de n (nI q)) pr1 lo hi ca := by
      intro pr1 hpr
      refine yn_127 (D1 := tp_up D n q) V.1 hP1 hn7 hH1 ?_ hBc (fun hE fd' lo' hi' ca' => hp1 hnc hE _ _ _ _ _ _ hH1 hpr) (fun hE fd' he' pr' lo' hi' ca' g1 g2 => hp0 hnc hE _ _ _ _ _ _ (by rw [zn_Pd hnP] at g1; exact g1) ?_)
      · intro a ha
        by_cases e : a = n
        · rw [e, pk_us, tp_us]
          rw [e] at ha
          exact ⟨h1, h8, rfl, hpr n ha, zn_128 V hn7 hB n⟩
        · have haP : P.testBit a = true := ((tb_o1 _ _ _).mp ha).resolve_right e
          obtain ⟨v1, v2, v3, v4, v5⟩ := zr_y V a haP
          rw [pk_un e, tp_un D _ e]
          exact ⟨v1, v2, v3, hpr a ha, zn_128 V hn7 hB a⟩
      · intro a ha
        rw [g2 a (tb_lt7 hP ha), hpr a ((tb_o1 _ _ _).mpr (Or.inl ha)), tb_dif, zn_df V hnP hB]
    have hpr0 : ∀ a, (P ||| 2 ^ n).testBit a = true → upd pr n 0 a = nI (B a) := by
      intro a ha
      by_cases e : a = n
      · rw [e, pk_us, V.2.2.2.2.2.2.1 n hnP]
        rfl
      · rw [pk_un e]
        exact (zr_p V a (((tb_o1 _ _ _).mp ha).resolve_right e)).1
    rcases hB with ⟨hy, e⟩ | ⟨j, hj, hy, e⟩
    · refine br_t hy (go _ ?_)
      rw [e]
      exact hpr0
    · have hj7 := tb_lt7 hP hj
      have ej : (nI j).toNatClampNeg = j := nI_clamp (by omega)
      have hjn : j ≠ n := fun g => hnP (g ▸ hj)
      subst hy
      refine br_f (nI_pos (by omega)) (br_f (xs_7 hj7) ⟨xs_in hj7, xs_in hj7, nm_r (e' := upd (upd pr n 0) j (nI (B j ||| 2 ^ n))) ?_ (go _ ?_)⟩)
      · rw [ej, pk_un hjn, (zr_p V j hj).1, tb_bit n hn7, tb_or]
      · intro a ha
        rw [e]
        by_cases ea : a = j
        · rw [ea, pk_us, tp_us]
        · rw [pk_un ea, tp_un B _ ea]
          exact hpr0 a ha
  · exact br_t (nI_le (hcl.mpr hnc) (by omega)) (hpF hnc)
/-! the relation behind a new task, and behind a refused one -/
theorem zn_new {bf' he' pr' : Nat → Int32} (V : zr_V w c P D B dl bf he de pr) (hnc : n < c) (h1 : 1 ≤ q) (h8 : q ≤ 8) (hB : zn_B P B n y B1)
    (hE : tp_E w B1 (fun _ => 0) (tp_up D n q) (P ||| 2 ^ n)) (hH : ys_H (P ||| 2 ^ n) he') (hpr : ∀ a, (P ||| 2 ^ n).testBit a = true → pr' a = nI (B1 a)) (hbf : ∀ a, a < 7 → bf' a = nI (B1 a)) :
    zr_V w c (P ||| 2 ^ n) (tp_up D n q) B1 (upd dl n (nI q)) bf' he' (upd de n (nI q)) pr' := by
  refine ⟨V.1, V.2.1, tp_lc P (zr_P V) c (by have := V.2.1.2; omega) V.2.2.1 n hnc, ?_, hbf, zn_in V hB, zn_0 V hB, hH, hE⟩
  intro a ha
  by_cases e : a = n
  · rw [e, pk_us, pk_us, tp_us]
    rw [e] at ha
    exact ⟨h1, h8, rfl, rfl, hpr n ha⟩
  · obtain ⟨v1, v2, v3, v4, v5⟩ := V.2.2.2.1 a (((tb_o1 _ _ _).mp ha).resolve_right e)
    rw [pk_un e, pk_un e, tp_un D _ e]
    exact ⟨v1, v2, v3, v4, hpr a ha⟩
theorem zn_old {he' pr' : Nat → Int32} (V : zr_V w c P D B dl bf he de pr) (hnP : ¬ P.testBit n = true) (hH : ys_H P he') (hpr : ∀ a, P.testBit a = true → pr' a = nI (B a)) :
    zr_V w c P D B dl bf he' (upd de n (nI q)) pr' := by
  refine ⟨V.1, V.2.1, V.2.2.1, ?_, V.2.2.2.2.1, V.2.2.2.2.2.1, V.2.2.2.2.2.2.1, hH, zr_E V⟩
  intro a ha
  have ne : a ≠ n := fun e => hnP (by rw [← e]; exact ha)
  obtain ⟨v1, v2, v3, v4, v5⟩ := V.2.2.2.1 a ha
  rw [pk_un ne]
  exact ⟨v1, v2, v3, v4, hpr a ha⟩
theorem zn_no (V : zr_V w c P D B dl bf he de pr) (h : tp_lf P 7 < c) : ¬ P.testBit (tp_lf P 7) = true := by
  rw [(zn_lf P (zr_P V)).2 (by have := V.2.1.2; omega)]
  decide
theorem yn_ab {post : Int32 → SY → Prop} {d : Int32} (h : zd_bad d) (hp : post (-1) (yw, yo, yd, he, de, pr, lo, hi, ca)) : wpY_add post (yw, yo, yd, he, de, pr, lo, hi, ca) d := by
  by_cases g : d < 1
  · exact br_t g hp
  · exact br_f g (br_f (fun h' => absurd (h.resolve_left g) (Int32.not_lt.mpr h')) hp)
theorem yn_add {post : Int32 → SY → Prop} (V : zr_V w c P D B dl bf he de pr) (en : n = tp_lf P 7) (h1 : 1 ≤ q) (h8 : q ≤ 8)
    (hpF : c ≤ n → post (-2) (nI w, nI c, yd, he, de, pr, lo, hi, ca))
    (hp1 : n < c → tp_E w B (fun _ => 0) (tp_up D n q) (P ||| 2 ^ n) → ∀ (fd' : Int32) (he' pr' lo' hi' ca' : Nat → Int32), ys_H (P ||| 2 ^ n) he' → (∀ a, (P ||| 2 ^ n).testBit a = true → pr' a = nI (B a)) →
      post (nI n) (nI w, nI c, fd', he', upd de n (nI q), pr', lo', hi', ca'))
    (hp0 : n < c → ¬ tp_E w B (fun _ => 0) (tp_up D n q) (P ||| 2 ^ n) → ∀ (fd' : Int32) (he' pr' lo' hi' ca' : Nat → Int32), ys_H P he' → (∀ a, P.testBit a = true → pr' a = nI (B a)) →
      post (-3) (nI w, nI c, fd', he', upd de n (nI q), pr', lo', hi', ca')) :
    wpY_add post (nI w, nI c, yd, he, de, pr, lo, hi, ca) (nI q) := by
  unfold wpY_add
  dsimp only
  exact br_f (zd_1 h1 h8) (br_t (zd_l h8) (yn_take (B1 := B) V en h1 h8 (Or.inl ⟨by decide, rfl⟩) hpF hp1 hp0))
end
theorem i_vc_add {k : Nat} {u : SX} {v : SY} (I : i_Rel k u v) (hk : k + 3 ≤ 1538) (v1 : Int32) : wpX_add (fun r u' => wpY_add (fun r' v' => r' = r ∧ i_Rel (k + 3) u' v') v v1) u v1 := by
  obtain ⟨w, c, P, D, B, dl, bf, td, tb, sf, yd, he, de, pr, lo, hi, ca, rfl, rfl, V⟩ := I
  unfold wpX_add
  dsimp only
  rcases zd_ca v1 with hb | ⟨q, h1, h8, rfl⟩
  · exact xn_pb hb (br_t (by decide) (yn_ab hb ⟨rfl, zr_mk V⟩))
  · refine xn_probe V rfl h1 h8 (fun hF => br_t (by decide) (yn_add V rfl h1 h8 (fun _ => ⟨rfl, zr_mk V⟩) (fun h => by omega) (fun h => by omega))) (fun hc hE td' tb' sf' => ?_) (fun hc hE td' tb' sf' => ?_)
    · have hn7 : tp_lf P 7 < 7 := by have := V.2.1.2; omega
      refine br_f (nI_pos (by omega)) (xn_place hn7 (yn_add V rfl h1 h8 (fun h => by omega) (fun _ _ fd' he' pr' lo' hi' ca' g1 g2 => ⟨rfl, ?_⟩) (fun _ h => absurd hE h)))
      exact zr_mk (zn_new (y := -1) V hc h1 h8 (Or.inl ⟨by decide, rfl⟩) hE g1 g2 V.2.2.2.2.1)
    · exact br_t (by decide) (yn_add V rfl h1 h8 (fun h => by omega) (fun _ h => absurd h hE) (fun _ _ fd' he' pr' lo' hi' ca' g1 g2 => ⟨rfl, zr_mk (zn_old V (zn_no V hc) g1 g2)⟩))
theorem i_vc_probe {k : Nat} {u : SX} {v : SY} (I : i_Rel k u v) (hk : k + 3 ≤ 1538) (v1 : Int32) : wpX_probe (fun r u' => wpY_probe (fun r' v' => r' = r ∧ i_Rel (k + 3) u' v') v v1) u v1 := by
  obtain ⟨w, c, P, D, B, dl, bf, td, tb, sf, yd, he, de, pr, lo, hi, ca, rfl, rfl, V⟩ := I
  rcases zd_ca v1 with hb | ⟨q, h1, h8, rfl⟩
  · refine xn_pb hb ?_
    unfold wpY_probe
    dsimp only
    exact yn_ab hb (br_t (by decide) ⟨rfl, zr_mk V⟩)
  · refine xn_probe V rfl h1 h8 (fun hF => ?_) (fun hc hE td' tb' sf' => ?_) (fun hc hE td' tb' sf' => ?_)
    · unfold wpY_probe
      dsimp only
      exact yn_add V rfl h1 h8 (fun _ => br_t (by decide) ⟨rfl, zr_mk V⟩) (fun h => by omega) (fun h => by omega)
    · have hn7 : tp_lf P 7 < 7 := by have := V.2.1.2; omega
      have hnP := zn_no V hc
      unfold wpY_probe
      dsimp only
      refine yn_add V rfl h1 h8 (fun h => by omega) (fun _ _ fd' he' pr' lo' hi' ca' g1 g2 => br_f (nI_pos (by omega)) ?_) (fun _ h => absurd hE h)
      refine yl_rm hn7 g1 ((tb_o1 _ _ _).mpr (Or.inr rfl)) (fun he2 pr2 f1 f2 => ⟨rfl, zr_mk (zn_old V hnP (by rw [zn_Pd hnP] at f1; exact f1) ?_)⟩)
      intro a ha
      show pr2 a = nI (B a)
      rw [show pr2 a = pr' a &&& (nI (2 ^ tp_lf P 7) ^^^ (-1)) from f2 a (tb_lt7 (zr_P V) ha), g2 a ((tb_o1 _ _ _).mpr (Or.inl ha)), tb_dif, zn_df (y := -1) V hnP (Or.inl ⟨by decide, rfl⟩)]
    · unfold wpY_probe
      dsimp only
      exact yn_add V rfl h1 h8 (fun h => by omega) (fun _ h => absurd h hE) (fun _ _ fd' he' pr' lo' hi' ca' g1 g2 => br_t (by decide) ⟨rfl, zr_mk (zn_old V (zn_no V hc) g1 g2)⟩)
theorem i_vc_addBefore {k : Nat} {u : SX} {v : SY} (I : i_Rel k u v) (hk : k + 3 ≤ 1538) (v1 : Int32) (v2 : Int32) : wpX_addBefore (fun r u' => wpY_addBefore (fun r' v' => r' = r ∧ i_Rel (k + 3) u' v') v v1 v2) u v1 v2 := by
  obtain ⟨w, c, P, D, B, dl, bf, td, tb, sf, yd, he, de, pr, lo, hi, ca, rfl, rfl, V⟩ := I
  have hP := zr_P V
  unfold wpX_addBefore
  dsimp only
  rcases zd_ca v1 with hb | ⟨q, h1, h8, rfl⟩
  · refine xd_0 hb (br_t rfl ?_)
    by_cases g : v1 < 1
    · exact br_t g ⟨rfl, zr_mk V⟩
    · exact br_f g (br_t (hb.resolve_left g) ⟨rfl, zr_mk V⟩)
  · rcases tp_NT P v2 with hn | ⟨j, hj7, rfl, hj⟩
    · refine xd_1 h1 h8 (br_f xs_10 (xs_task0 hP hn (br_t rfl ?_)))
      exact br_f (zd_1 h1 h8) (br_f (zd_8 h8) (ys_there0 (zr_H V) hn (br_t rfl ⟨rfl, zr_mk V⟩)))
    · have hB : zn_B P B (tp_lf P 7) (nI j) (tp_up B j (B j ||| 2 ^ tp_lf P 7)) := Or.inr ⟨j, hj, rfl, rfl⟩
      refine xd_1 h1 h8 (br_f xs_10 (xs_task1 hP hj7 hj (br_f xs_10 (xn_num V rfl h8 hB (fun hF => ?_) (fun hc hE td' tb' sf' => ?_) (fun hc hE td' tb' sf' => ?_)))))
      · exact br_t (by decide) (br_f (zd_1 h1 h8) (br_f (zd_8 h8) (ys_there1 (zr_H V) hj7 hj (br_f xs_10 (yn_take V rfl h1 h8 hB (fun _ => ⟨rfl, zr_mk V⟩) (fun h => by omega) (fun h => by omega))))))
      · have hn7 : tp_lf P 7 < 7 := by have := V.2.1.2; omega
        have ej : (nI j).toNatClampNeg = j := nI_clamp (by omega)
        have eu : upd bf (nI j).toNatClampNeg (bf (nI j).toNatClampNeg ||| ((1 : Int32) <<< (nI (tp_lf P 7) &&& 31))) = upd bf j (nI (B j ||| 2 ^ tp_lf P 7)) := by
          rw [ej, (zr_b V j hj7).1, tb_bit _ hn7, tb_or]
        refine br_f (nI_pos (by omega)) (xn_place hn7 ⟨xs_in hj7, xs_in hj7, nm_r eu (br_f (zd_1 h1 h8) (br_f (zd_8 h8) (ys_there1 (zr_H V) hj7 hj (br_f xs_10 (yn_take V rfl h1 h8 hB (fun h => by omega) (fun _ _ fd' he' pr' lo' hi' ca' g1 g2 => ⟨rfl, zr_mk (zn_new V hc h1 h8 hB hE g1 g2 ?_)⟩) (fun _ h => absurd hE h))))))⟩)
        intro a ha
        by_cases e : a = j
        · rw [e, pk_us, tp_us]
        · rw [pk_un e, tp_un B _ e]; exact (zr_b V a ha).1
      · exact br_t (by decide) (br_f (zd_1 h1 h8) (br_f (zd_8 h8) (ys_there1 (zr_H V) hj7 hj (br_f xs_10 (yn_take V rfl h1 h8 hB (fun h => by omega) (fun _ h => absurd h hE) (fun _ _ fd' he' pr' lo' hi' ca' g1 g2 => ⟨rfl, zr_mk (zn_old V (zn_no V hc) g1 g2)⟩))))))
