/-! Y: settle, settleAll, tightest, leads, remove -/
section
variable {yw yo yd : Int32} {he de pr lo hi ca : Nat → Int32}
theorem yl_sl {post : Int32 → SY → Prop} {w P k d : Nat} {B L H : Nat → Nat} (hw : w = 1 ∨ w = 2) (hP : P < 128) (hk : P.testBit k = true) (h : ys_H P he) (hB : tp_C B P)
    (h1 : 1 ≤ d) (hdH : d ≤ H k) (h8 : H k ≤ 8) (hno : ∀ s, s + 1 < d → ¬ tp_E w B (tp_up L k s) (tp_up H k (s + 1)) P) (hyes : tp_E w B (tp_up L k (d - 1)) (tp_up H k d) P)
    (hp : ∀ (fd' : Int32) (lo' hi' ca' : Nat → Int32), ys_C P B (tp_up L k (d - 1)) (tp_up H k d) pr lo' hi' → post (nI (d - 1)) (nI w, yo, fd', he, de, pr, lo', hi', ca')) :
    ∀ m s, ∀ (fd : Int32) (lo hi ca : Nat → Int32), s + m = d - 1 →
      (∀ i, P.testBit i = true → pr i = nI (B i) ∧ B i < 128 ∧ (i ≠ k → lo i = nI (L i) ∧ hi i = nI (H i - 1) ∧ 1 ≤ H i ∧ H i ≤ 8 ∧ L i ≤ 8)) →
      wY_settle_9 post (nI k) (nI (H k - 1)) (m + 1) (nI s) (nI w) yo fd he de pr lo hi ca := by
  have hk7 := tb_lt7 hP hk
  intro m
  induction m with
  | zero =>
    intro s fd lo hi ca hs hc
    have e : s = d - 1 := by omega
    have ed : s + 1 = d := by omega
    have hC : ys_C P B (tp_up L k s) (tp_up H k (s + 1)) pr (upd lo (nI k).toNatClampNeg (nI s)) (upd hi (nI k).toNatClampNeg (nI s)) := by
      rw [nI_clamp (by omega)]
      intro i hi'
      obtain ⟨c1, c2, c3⟩ := hc i hi'
      by_cases e : i = k
      · rw [e, pk_us, pk_us, tp_us, tp_us]
        rw [e] at c1 c2
        exact ⟨c1, rfl, rfl, by omega, by omega, by omega, c2⟩
      · rw [pk_un e, pk_un e, tp_un L _ e, tp_un H _ e]
        obtain ⟨d1, d2, d3, d4, d5⟩ := c3 e
        exact ⟨c1, d1, d2, d3, d4, d5, c2⟩
    refine br_f (nI_nlt (by omega) (by omega)) (br_f (nI_ge (b := 8) (by omega) (by decide)) ⟨xs_in hk7, nm_e ⟨xs_in hk7, nm_e (yf_fits hw hP h hC hB (fun r fd' ca' hr => ?_))⟩⟩)
    rw [ed, e] at hC
    rw [ed, e] at hr
    rcases hr with ⟨er, _⟩ | ⟨_, hn⟩
    · rw [e]
      exact br_f (by rw [er]; decide) (hp fd' _ _ ca' hC)
    · exact absurd hyes hn
  | succ m ih =>
    intro s fd lo hi ca hs hc
    have hC : ys_C P B (tp_up L k s) (tp_up H k (s + 1)) pr (upd lo (nI k).toNatClampNeg (nI s)) (upd hi (nI k).toNatClampNeg (nI s)) := by
      rw [nI_clamp (by omega)]
      intro i hi'
      obtain ⟨c1, c2, c3⟩ := hc i hi'
      by_cases e : i = k
      · rw [e, pk_us, pk_us, tp_us, tp_us]
        rw [e] at c1 c2
        exact ⟨c1, rfl, rfl, by omega, by omega, by omega, c2⟩
      · rw [pk_un e, pk_un e, tp_un L _ e, tp_un H _ e]
        obtain ⟨d1, d2, d3, d4, d5⟩ := c3 e
        exact ⟨c1, d1, d2, d3, d4, d5, c2⟩
    refine br_f (nI_nlt (by omega) (by omega)) (br_f (nI_ge (b := 8) (by omega) (by decide)) ⟨xs_in hk7, nm_e ⟨xs_in hk7, nm_e (yf_fits hw hP h hC hB (fun r fd' ca' hr => ?_))⟩⟩)
    rcases hr with ⟨_, hE, _⟩ | ⟨er, _⟩
    · exact absurd hE (hno s (by omega))
    · refine br_t er (nm_r (nI_1 s) (ih (s + 1) fd' _ _ ca' (by omega) ?_))
      rw [nI_clamp (by omega)]
      intro i hi'
      obtain ⟨c1, c2, c3⟩ := hc i hi'
      refine ⟨c1, c2, fun e => ?_⟩
      rw [pk_un e, pk_un e]
      exact c3 e
theorem yl_settle {post : Int32 → SY → Prop} {w P k d : Nat} {B L H : Nat → Nat} (hw : w = 1 ∨ w = 2) (hP : P < 128) (hk : P.testBit k = true) (h : ys_H P he) (hB : tp_C B P)
    (hE : tp_E w B (fun _ => 0) H P) (hd : tp_D w B H P k d) (hL : ∀ s, tp_F w B (fun _ => 0) H P s → ∀ j, P.testBit j = true → L j ≤ s j) (hC : ys_C P B L H pr lo hi)
    (hp : ∀ (fd' : Int32) (lo' hi' ca' : Nat → Int32), ys_C P B (tp_up L k (d - 1)) (tp_up H k d) pr lo' hi' → post (nI (d - 1)) (nI w, yo, fd', he, de, pr, lo', hi', ca')) :
    wpY_settle post (nI w, yo, yd, he, de, pr, lo, hi, ca) (nI k) := by
  have hk7 := tb_lt7 hP hk
  have hs := tp_set hk hE hd hL
  obtain ⟨c1, c2, c3, c4, c5, c6, c7⟩ := hC k hk
  refine ⟨xs_in hk7, nm_r (e' := nI (H k - 1)) (by rw [nI_clamp (by omega)]; exact c3) ⟨d - 1 + 1, yl_sl hw hP hk h hB (tp_D_pos hk hd) (tp_D_le hE hd) c5 hs.1 hs.2 hp (d - 1) 0 yd lo hi ca (by omega) ?_⟩⟩
  intro i hi'
  obtain ⟨d1, d2, d3, d4, d5, d6, d7⟩ := hC i hi'
  exact ⟨d1, d7, fun _ => ⟨d2, d3, d4, d5, d6⟩⟩
def yl_L (H : Nat → Nat) (k : Nat) : Nat → Nat := fun j => if j < k then H j - 1 else 0
theorem yl_al {post : Int32 → SY → Prop} {w P id : Nat} {B H0 : Nat → Nat} (hw : w = 1 ∨ w = 2) (hP : P < 128) (hid : P.testBit id = true) (h : ys_H P he) (hB : tp_C B P)
    (hE : tp_E w B (fun _ => 0) H0 P) (h8 : ∀ i, P.testBit i = true → H0 i ≤ 8)
    (hp : ∀ (H : Nat → Nat) (fd' : Int32) (lo' hi' ca' : Nat → Int32), tp_P w B P H0 (id + 1) H → post (nI (H id - 1)) (nI w, yo, fd', he, de, pr, lo', hi', ca')) :
    ∀ n k, ∀ (H : Nat → Nat) (fd : Int32) (lo hi ca : Nat → Int32) (x : Int32), k + n = id + 1 → tp_P w B P H0 k H → ys_C P B (yl_L H k) H pr lo hi → (k = id + 1 → x = nI (H id - 1)) →
      wY_settleAll_4 post (nI id) (n + 1) x (nI k) (nI w) yo fd he de pr lo hi ca := by
  have hid7 := tb_lt7 hP hid
  intro n
  induction n with
  | zero =>
    intro k H fd lo hi ca x hk hH hC hx
    have e : k = id + 1 := by omega
    subst e
    rw [hx rfl]
    exact br_t (nI_lt (by omega) (by omega)) (hp H fd lo hi ca hH)
  | succ n ih =>
    intro k H fd lo hi ca x hk hH hC hx
    have hk7 : k < 7 := by omega
    have hn : ¬ nI id < nI k := nI_nlt (by omega) (by omega)
    by_cases hb : P.testBit k = true
    · have hI := tp_P_i hE h8 hH
      obtain ⟨d, hd⟩ := tp_D_ex (j := k) hI.1
      refine br_f hn (br_f (xs_7 hk7) ⟨xs_in hk7, br_f (ys_h1 h hk7 hb) (yl_settle (L := yl_L H k) hw hP hb h hB hI.1 hd ?_ hC (fun fd' lo' hi' ca' hC' => ?_))⟩)
      · intro s hF j hj
        unfold yl_L
        by_cases hjk : j < k
        · rw [if_pos hjk]
          have := hI.2.2.1 s hF j hj hjk
          omega
        · rw [if_neg hjk]
          exact Nat.zero_le _
      · refine nm_r (nI_1 k) (ih (k + 1) (tp_up H k d) fd' lo' hi' ca' _ (by omega) ⟨H, hH, Or.inl ⟨hb, d, hd, rfl⟩⟩ ?_ ?_)
        · intro i hi'
          have g := hC' i hi'
          have e : tp_up (yl_L H k) k (d - 1) i = yl_L (tp_up H k d) (k + 1) i := by
            unfold yl_L
            by_cases e1 : i = k
            · rw [e1, tp_us, if_pos (Nat.lt_succ_self k), tp_us]
            · rw [tp_un _ _ e1]
              by_cases e2 : i < k
              · rw [if_pos e2, if_pos (by omega), tp_un H _ e1]
              · rw [if_neg e2, if_neg (by omega)]
          rw [e] at g
          exact g
        · intro e
          have e2 : id = k := by omega
          rw [e2, tp_us]
    · refine br_f hn (br_f (xs_7 hk7) ⟨xs_in hk7, br_t (ys_h0 h hk7 hb) (nm_r (nI_1 k) (ih (k + 1) H fd lo hi ca x (by omega) ⟨H, hH, Or.inr ⟨hb, rfl⟩⟩ ?_ ?_))⟩)
      · intro i hi'
        have g := hC i hi'
        have e : yl_L H k i = yl_L H (k + 1) i := by
          have ne : i ≠ k := fun e => hb (e ▸ hi')
          unfold yl_L
          by_cases e2 : i < k
          · rw [if_pos e2, if_pos (by omega)]
          · rw [if_neg e2, if_neg (by omega)]
        rw [e] at g
        exact g
      · intro e
        have e2 : id = k := by omega
        exact absurd (e2 ▸ hid) hb
theorem yl_all {post : Int32 → SY → Prop} {w P id : Nat} {B H0 : Nat → Nat} (hw : w = 1 ∨ w = 2) (hP : P < 128) (hid : P.testBit id = true) (h : ys_H P he) (hB : tp_C B P)
    (hE : tp_E w B (fun _ => 0) H0 P) (hC : ys_C P B (fun _ => 0) H0 pr lo hi)
    (hp : ∀ (H : Nat → Nat) (fd' : Int32) (lo' hi' ca' : Nat → Int32), tp_P w B P H0 (id + 1) H → post (nI (H id - 1)) (nI w, yo, fd', he, de, pr, lo', hi', ca')) :
    wpY_settleAll post (nI w, yo, yd, he, de, pr, lo, hi, ca) (nI id) := by
  refine ⟨id + 1 + 1, yl_al hw hP hid h hB hE (fun i hi' => (hC i hi').2.2.2.2.1) hp (id + 1) 0 H0 yd lo hi ca (-1) (by omega) rfl ?_ (fun e => by omega)⟩
  intro i hi'
  have g := hC i hi'
  have e : yl_L H0 0 i = 0 := if_neg (Nat.not_lt_zero i)
  rw [e]
  exact g
theorem yl_tl {post : Int32 → SY → Prop} {w P id d0 : Nat} {B D : Nat → Nat} (hw : w = 1 ∨ w = 2) (hP : P < 128) (hid : P.testBit id = true) (h : ys_H P he) (hB : tp_C B P)
    (hE : tp_E w B (fun _ => 0) D P) (hd : tp_D w B D P id d0) (hV : yf_V P B D de pr)
    (hp : ∀ (fd' : Int32) (de' lo' hi' ca' : Nat → Int32), (∀ i, i ≠ id → de' i = de i) → de' id = nI (D id) → post (nI d0) (nI w, yo, fd', he, de', pr, lo', hi', ca')) :
    ∀ i l, ∀ (fd : Int32) (de1 lo hi ca : Nat → Int32), i ≤ 8 → (i < d0 → l = d0) → (∀ i, i ≠ id → de1 i = de i) →
      wY_tightest_24 post (nI id) (nI (D id)) (i + 1) (nI l) (nI i) (nI w) yo fd he de1 pr lo hi ca := by
  have hid7 := tb_lt7 hP hid
  have ec : (nI id).toNatClampNeg = id := nI_clamp (by omega)
  have hd1 := tp_D_pos hid hd
  intro i
  induction i with
  | zero =>
    intro l fd de1 lo hi ca _ hl hde
    rw [hl (by omega)]
    refine br_t (by decide) ⟨xs_in hid7, nm_e (hp fd _ lo hi ca ?_ ?_)⟩
    · intro i hi'
      rw [ec, pk_un hi']
      exact hde i hi'
    · rw [ec, pk_us]
  | succ i ih =>
    intro l fd de1 lo hi ca hi8 hl hde
    have hV' : yf_V P B (tp_up D id (i + 1)) (upd de1 (nI id).toNatClampNeg (nI (i + 1))) pr := by
      rw [ec]
      intro q hq
      obtain ⟨v1, v2, v3, v4, v5⟩ := hV q hq
      by_cases e : q = id
      · rw [e, tp_us, pk_us]
        rw [e] at v4 v5
        exact ⟨by omega, hi8, rfl, v4, v5⟩
      · rw [tp_un D _ e, pk_un e, hde q e]
        exact ⟨v1, v2, v3, v4, v5⟩
    have hde' : ∀ q, q ≠ id → upd de1 (nI id).toNatClampNeg (nI (i + 1)) q = de q := by
      rw [ec]
      intro q hq
      rw [pk_un hq]
      exact hde q hq
    refine br_f (nI_nlt (b := 1) (by omega) (by omega)) ⟨xs_in hid7, nm_e (yf_good hw hP h hV' hB (fun r fd' lo' hi' ca' hr => ?_))⟩
    rcases hr with ⟨er, hE', _⟩ | ⟨er, hE'⟩
    · refine br_f (by rw [er]; decide) (nm_r (pk_m1 i) (ih (i + 1) fd' _ lo' hi' ca' (by omega) ?_ hde'))
      intro hlt
      rcases Nat.lt_or_ge (i + 1) d0 with hh | hh
      · exact absurd hE' (hd.2 (i + 1) hh)
      · omega
    · refine br_t er (nm_r (pk_m1 i) (ih l fd' _ lo' hi' ca' (by omega) ?_ hde'))
      intro hlt
      by_cases e : i + 1 = d0
      · rw [e] at hE'
        exact absurd hd.1 hE'
      · exact hl (by omega)
theorem yl_tight {post : Int32 → SY → Prop} {w P id d0 : Nat} {B D : Nat → Nat} (hw : w = 1 ∨ w = 2) (hP : P < 128) (hid : P.testBit id = true) (h : ys_H P he) (hB : tp_C B P)
    (hE : tp_E w B (fun _ => 0) D P) (hd : tp_D w B D P id d0) (hV : yf_V P B D de pr)
    (hp : ∀ (fd' : Int32) (de' lo' hi' ca' : Nat → Int32), (∀ i, i ≠ id → de' i = de i) → de' id = nI (D id) → post (nI d0) (nI w, yo, fd', he, de', pr, lo', hi', ca')) :
    wpY_tightest post (nI w, yo, yd, he, de, pr, lo, hi, ca) (nI id) := by
  have hid7 := tb_lt7 hP hid
  have hV0 := hV id hid
  have hle := tp_D_le hE hd
  unfold wpY_tightest
  dsimp only
  refine ys_there1 h hid7 hid (br_f xs_10 ⟨xs_in hid7, nm_r (e' := nI (D id)) (by rw [nI_clamp (by omega)]; exact hV0.2.2.1) ⟨9, yl_tl hw hP hid h hB hE hd hV hp 8 8 yd de lo hi ca (by omega) (fun hh => by omega) (fun _ _ => rfl)⟩⟩)
/-! leads -/
theorem yl_li {post : Int32 → Prop} {J : Int32 → Int32 → Prop} {P : Nat} {B : Nat → Nat} {i j r S0 : Nat} (hP : P < 128) (h : ys_H P he) (hpr : ∀ k, P.testBit k = true → pr k = nI (B k) ∧ B k < 128)
    (hJ : ∀ S, S < 128 → (∀ a, S0.testBit a = true → S.testBit a = true) → (∀ a, S.testBit a = true → ∃ n, tp_Q B n j a) →
      (∀ k, P.testBit k = true → ∀ c, (B k).testBit c = true → S0.testBit c = true → S.testBit k = true) → J (nI S) (nI (r + 1))) :
    ∀ d k S, k + d = 7 → S < 128 → (∀ a, S0.testBit a = true → S.testBit a = true) → (∀ a, S.testBit a = true → ∃ n, tp_Q B n j a) →
      (∀ k', k' < k → P.testBit k' = true → ∀ c, (B k').testBit c = true → S0.testBit c = true → S.testBit k' = true) →
      wY_leads_17 post J (nI i) (nI r) yw yo yd he de pr lo hi ca (d + 1) (nI S) (nI k) := by
  intro d
  induction d with
  | zero =>
    intro k S hk hS h1 h2 h3
    have e : k = 7 := by omega
    subst e
    exact br_t xs_77 (nm_r (nI_1 r) (hJ S hS h1 h2 (fun k' hk' => h3 k' (tb_lt7 hP hk') hk')))
  | succ d ih =>
    intro k S hk hS h1 h2 h3
    have hk7 : k < 7 := by omega
    by_cases hb : P.testBit k = true
    · obtain ⟨ep, lp⟩ := hpr k hb
      have ea : (pr (nI k).toNatClampNeg &&& nI S) = 0 ↔ B k &&& S = 0 := by
        rw [nI_clamp (by omega), ep, nx_and]
        exact tb_nz (Nat.lt_of_le_of_lt Nat.and_le_left lp)
      by_cases hz : B k &&& S = 0
      · refine br_f (xs_7 hk7) ⟨xs_in hk7, br_f (ys_h1 h hk7 hb) ⟨xs_in hk7, br_t (ea.mpr hz) (nm_r (nI_1 k) (ih (k + 1) S (by omega) hS h1 h2 ?_))⟩⟩
        intro k' hk' hp' c hc hs
        by_cases e : k' = k
        · rw [e] at hc
          have : (B k &&& S).testBit c = true := by rw [Nat.testBit_and, hc, h1 c hs]; rfl
          rw [hz] at this
          exact absurd this (tb_n0 c)
        · exact h3 k' (by omega) hp' c hc hs
      · obtain ⟨c, hc⟩ := tb_ne hz
        rw [Nat.testBit_and, Bool.and_eq_true] at hc
        refine br_f (xs_7 hk7) ⟨xs_in hk7, br_f (ys_h1 h hk7 hb) ⟨xs_in hk7, br_f (fun e => hz (ea.mp e)) (nm_r (e' := nI (S ||| 2 ^ k)) (by rw [tb_bit k hk7, tb_or]) (nm_r (nI_1 k) (ih (k + 1) (S ||| 2 ^ k) (by omega) (tb_o128 hS hk7) ?_ ?_ ?_)))⟩⟩
        · exact fun a ha => (tb_o1 _ _ _).mpr (Or.inl (h1 a ha))
        · intro a ha
          rcases (tb_o1 _ _ _).mp ha with g | g
          · exact h2 a g
          · obtain ⟨n, hn⟩ := h2 c hc.2
            rw [g]
            exact ⟨n + 1, c, hn, hc.1⟩
        · intro k' hk' hp' c' hc' hs
          by_cases e : k' = k
          · exact (tb_o1 _ _ _).mpr (Or.inr e)
          · exact (tb_o1 _ _ _).mpr (Or.inl (h3 k' (by omega) hp' c' hc' hs))
    · refine br_f (xs_7 hk7) ⟨xs_in hk7, br_t (ys_h0 h hk7 hb) (nm_r (nI_1 k) (ih (k + 1) S (by omega) hS h1 h2 ?_))⟩
      intro k' hk' hp' c hc hs
      by_cases e : k' = k
      · exact absurd (e ▸ hp') hb
      · exact h3 k' (by omega) hp' c hc hs
theorem yl_lo {post : Int32 → Prop} {P : Nat} {B : Nat → Nat} {i j : Nat} (hP : P < 128) (hi7 : i < 7) (h : ys_H P he) (hB : tp_C B P) (hpr : ∀ k, P.testBit k = true → pr k = nI (B k) ∧ B k < 128)
    (hp1 : ∀ S : Nat, S.testBit i = true → (∀ a, S.testBit a = true → ∃ n, tp_Q B n j a) → post 1)
    (hp0 : ∀ S : Nat, ¬ S.testBit i = true → (∀ n a, n ≤ 7 → P.testBit a = true → tp_Q B n j a → S.testBit a = true) → post 0) :
    ∀ d r S, r + d = 7 → S < 128 → (∀ a, S.testBit a = true → ∃ n, tp_Q B n j a) → (∀ n a, n ≤ r → P.testBit a = true → tp_Q B n j a → S.testBit a = true) →
      wY_leads_7 post (nI i) yw yo yd he de pr lo hi ca (d + 1) (nI S) (nI r) := by
  intro d
  induction d with
  | zero =>
    intro r S hr hS h1 h2
    have e : r = 7 := by omega
    subst e
    by_cases hb : S.testBit i = true
    · exact br_t xs_77 (br_t (by rw [tb_has S hS i hi7, if_pos hb]) (hp1 S hb h1))
    · exact br_t xs_77 (br_f (by rw [tb_has S hS i hi7, if_neg hb]; decide) (hp0 S hb h2))
  | succ d ih =>
    intro r S hr hS h1 h2
    refine br_f (xs_7 (by omega)) ⟨8, yl_li (S0 := S) (j := j) hP h hpr ?_ 7 0 S rfl hS (fun _ h => h) h1 (fun k' hk' => absurd hk' (Nat.not_lt_zero _))⟩
    intro S' hS' g1 g2 g3
    refine ih (r + 1) S' (by omega) hS' g2 ?_
    intro n a hn ha hq
    cases n with
    | zero => exact g1 a (h2 0 a (Nat.zero_le _) ha hq)
    | succ n =>
      obtain ⟨c, hc, hca⟩ := hq
      exact g3 a ha c hca (h2 n c (by omega) (hB a ha c hca) hc)
theorem yl_leads {post : Int32 → Prop} {w P i j : Nat} {B H : Nat → Nat} {hx : Nat → Int32} (hP : P < 128) (hi : P.testBit i = true) (hj : P.testBit j = true) (hij : i ≠ j) (h : ys_H P he) (hB : tp_C B P)
    (hE : tp_E w B (fun _ => 0) H P) (h8 : ∀ i, P.testBit i = true → H i ≤ 8) (hpr : ∀ k, P.testBit k = true → pr k = nI (B k) ∧ B k < 128)
    (hp1 : tp_K B j i → post 1) (hp0 : ¬ tp_K B j i → post 0) : wpY_leads post (yw, yo, yd, he, de, pr, lo, hx, ca) (nI j) (nI i) := by
  have hi7 := tb_lt7 hP hi
  have hj7 := tb_lt7 hP hj
  refine nm_r (tb_bit j hj7) ⟨8, yl_lo (j := j) hP hi7 h hB hpr ?_ ?_ 7 0 (2 ^ j) rfl ?_ ?_ ?_⟩
  · intro S hb h1
    obtain ⟨n, hn⟩ := h1 i hb
    cases n with
    | zero => exact absurd (Eq.symm hn) hij
    | succ n => exact hp1 ⟨n, hn⟩
  · intro S hb h2
    refine hp0 (fun hk => hb ?_)
    obtain ⟨n, hn, hq⟩ := tp_K7 hB hE h8 hi hk
    exact h2 (n + 1) i (by omega) hi hq
  · have := tb_o128 (S := 0) (by omega) hj7
    rw [Nat.zero_or] at this
    exact this
  · intro a ha
    exact ⟨0, (tb_pm j a).mp ha⟩
  · intro n a hn _ hq
    have e : n = 0 := by omega
    rw [e] at hq
    exact (tb_pm j a).mpr hq
/-! remove -/
theorem yl_rl {post : Int32 → SY → Prop} {k : Nat} (hk : k < 7)
    (hp : ∀ pr' : Nat → Int32, (∀ i, i < 7 → pr' i = pr i &&& (nI (2 ^ k) ^^^ (-1))) → post 1 (yw, yo, yd, he, de, pr', lo, hi, ca)) :
    ∀ d j, ∀ pr1 : Nat → Int32, j + d = 7 → (∀ i, i < j → pr1 i = pr i &&& (nI (2 ^ k) ^^^ (-1))) → (∀ i, j ≤ i → pr1 i = pr i) →
      wY_remove_19 post (nI k) yw yo yd (d + 1) (nI j) he de pr1 lo hi ca := by
  intro d
  induction d with
  | zero =>
    intro j pr1 hj h1 h2
    have e : j = 7 := by omega
    subst e
    exact br_t xs_77 (hp pr1 h1)
  | succ d ih =>
    intro j pr1 hj h1 h2
    have h7 : j < 7 := by omega
    refine br_f (xs_7 h7) ⟨xs_in h7, xs_in h7, nm_e (nm_r (nI_1 j) (ih (j + 1) _ (by omega) ?_ ?_))⟩
    · rw [nI_clamp (by omega), tb_bit k hk]
      intro i hi'
      by_cases e : i = j
      · rw [e, pk_us, h2 j (Nat.le_refl _)]
      · rw [pk_un e]; exact h1 i (by omega)
    · rw [nI_clamp (by omega)]
      intro i hi'
      rw [pk_un (by omega)]
      exact h2 i (by omega)
theorem yl_Hd {P k : Nat} (hk : k < 7) (h : ys_H P he) : ys_H (tb_df P (2 ^ k)) (upd he (nI k).toNatClampNeg (vp_nar .boolean 0)) := by
  rw [nI_clamp (by omega)]
  intro i hi'
  by_cases e : i = k
  · rw [e, pk_us, if_neg (by rw [tb_d1]; exact fun h => h.2 rfl)]
    rfl
  · rw [pk_un e, h i hi']
    by_cases hb : P.testBit i = true
    · rw [if_pos hb, if_pos ((tb_d1 _ _ _).mpr ⟨hb, e⟩)]
    · rw [if_neg hb, if_neg (fun g => hb ((tb_d1 _ _ _).mp g).1)]
theorem yl_Hu {P k : Nat} (hk : k < 7) (h : ys_H P he) : ys_H (P ||| 2 ^ k) (upd he (nI k).toNatClampNeg (vp_nar .boolean 1)) := by
  rw [nI_clamp (by omega)]
  intro i hi'
  by_cases e : i = k
  · rw [e, pk_us, if_pos ((tb_o1 _ _ _).mpr (Or.inr rfl))]
    rfl
  · rw [pk_un e, h i hi']
    by_cases hb : P.testBit i = true
    · rw [if_pos hb, if_pos ((tb_o1 _ _ _).mpr (Or.inl hb))]
    · rw [if_neg hb, if_neg (fun g => ((tb_o1 _ _ _).mp g).elim hb e)]
theorem yl_rm {post : Int32 → SY → Prop} {P k : Nat} (hk : k < 7) (h : ys_H P he) (hb : P.testBit k = true)
    (hp : ∀ he' pr' : Nat → Int32, ys_H (tb_df P (2 ^ k)) he' → (∀ i, i < 7 → pr' i = pr i &&& (nI (2 ^ k) ^^^ (-1))) → post 1 (yw, yo, yd, he', de, pr', lo, hi, ca)) :
    wpY_remove post (yw, yo, yd, he, de, pr, lo, hi, ca) (nI k) := by
  unfold wpY_remove
  dsimp only
  exact ys_there1 h hk hb (br_f xs_10 ⟨xs_in hk, nm_e ⟨8, yl_rl hk (fun pr' h' => hp _ pr' (yl_Hd hk h) h') 7 0 pr rfl (fun i h => absurd h (Nat.not_lt_zero i)) (fun _ _ => rfl)⟩⟩)
end
