/-! setDeadline, link, couldPrecede -/
section
variable {w c P : Nat} {D B : Nat → Nat} {dl bf td tb sf : Nat → Int32} {fm fc fp yw yo yd : Int32} {he de pr lo hi ca : Nat → Int32}
def zd_bad (d : Int32) : Prop := d < 1 ∨ 8 < d
theorem zd_ca (d : Int32) : zd_bad d ∨ ∃ q, 1 ≤ q ∧ q ≤ 8 ∧ d = nI q := by
  by_cases h1 : d < 1
  · exact Or.inl (Or.inl h1)
  · by_cases h2 : 8 < d
    · exact Or.inl (Or.inr h2)
    · have g1 : 1 ≤ d := Int32.not_lt.mp h1
      have g2 : d ≤ nI 8 := Int32.not_lt.mp h2
      obtain ⟨n, n1, n2, hn⟩ := zi_ex d (m := 8) (by omega) (by omega)
      rcases hn with ⟨_, _, e⟩ | ⟨_, h, _⟩ | ⟨h, _⟩
      · exact Or.inr ⟨n, n1, n2, e⟩
      · exact absurd g2 h
      · exact absurd g1 h
theorem xd_0 {post : Int32 → Prop} {d : Int32} (h : zd_bad d) (hp : post 0) : wpX_isDeadline post d := by
  by_cases h1 : d < 1
  · exact br_t h1 hp
  · exact br_f h1 (br_t (h.resolve_left h1) hp)
theorem zd_1 {q : Nat} (h1 : 1 ≤ q) (h8 : q ≤ 8) : ¬ nI q < 1 := nI_nlt (b := 1) h1 (by omega)
theorem zd_8 {q : Nat} (h8 : q ≤ 8) : ¬ 8 < nI q := nI_nlt (a := 8) h8 (by decide)
theorem zd_l {q : Nat} (h8 : q ≤ 8) : nI q ≤ 8 := nI_le (b := 8) h8 (by decide)
theorem xd_1 {post : Int32 → Prop} {q : Nat} (h1 : 1 ≤ q) (h8 : q ≤ 8) (hp : post 1) : wpX_isDeadline post (nI q) := br_f (zd_1 h1 h8) (br_f (zd_8 h8) hp)
theorem zk_upC {td1 : Nat → Int32} {i q : Nat} (h8 : q ≤ 8) (h : xt_C P B D td1 tb) : xt_C P B (tp_up D i q) (upd td1 i (nI q)) tb := by
  intro a ha
  obtain ⟨c1, c2, c3⟩ := h a ha
  by_cases e : a = i
  · rw [e, pk_us, tp_us]
    rw [e] at c3
    exact ⟨rfl, h8, c3⟩
  · rw [pk_un e, tp_un D _ e]
    exact ⟨c1, c2, c3⟩
theorem xk_set {post : Int32 → SX → Prop} {i q : Nat} (V : zr_V w c P D B dl bf he de pr) (hi' : P.testBit i = true) (h1 : 1 ≤ q) (h8 : q ≤ 8)
    (hp1 : tp_E w B (fun _ => 0) (tp_up D i q) P → ∀ td' tb' sf' : Nat → Int32, post 0 (nI w, nI c, nI P, upd dl i (nI q), bf, td', tb', sf'))
    (hp0 : ¬ tp_E w B (fun _ => 0) (tp_up D i q) P → ∀ td' tb' sf' : Nat → Int32, post (-3) (nI w, nI c, nI P, dl, bf, td', tb', sf')) :
    wpX_setDeadline post (nI w, nI c, nI P, dl, bf, td, tb, sf) (nI i) (nI q) := by
  have hP := zr_P V
  have h7 := tb_lt7 hP hi'
  have ec : (nI i).toNatClampNeg = i := nI_clamp (by omega)
  unfold wpX_setDeadline
  dsimp only
  refine xs_task1 hP h7 hi' (br_f xs_10 (xd_1 h1 h8 (br_f xs_10 (xs_start (fun td' tb' g1 g2 => ⟨xs_in h7, ?_⟩)))))
  rw [ec]
  have hC := zk_upC (i := i) h8 (zr_x8 V g1 g2)
  refine nm_e (xt_ts V.1 hP hC (zr_C V) (fun x sf' hx => ?_))
  have hE := tp_TE (fun a ha => (hC a ha).2.1) (zr_C V) hx
  have h100 := xt_100 (tp_Tx hx)
  by_cases h : x = 100
  · exact br_t (h100.mpr h) (hp0 (fun e => hE.mpr e h) _ _ _)
  · exact br_f (fun e => h (h100.mp e)) ⟨xs_in h7, nm_e (hp1 (hE.mp h) _ _ _)⟩
theorem zk_upV {i q : Nat} (h1 : 1 ≤ q) (h8 : q ≤ 8) (h : yf_V P B D de pr) : yf_V P B (tp_up D i q) (upd de i (nI q)) pr := by
  intro a ha
  obtain ⟨v1, v2, v3, v4, v5⟩ := h a ha
  by_cases e : a = i
  · rw [e, pk_us, tp_us]
    rw [e] at v4 v5
    exact ⟨h1, h8, rfl, v4, v5⟩
  · rw [pk_un e, tp_un D _ e]
    exact ⟨v1, v2, v3, v4, v5⟩
theorem yk_set {post : Int32 → SY → Prop} {i q : Nat} (V : zr_V w c P D B dl bf he de pr) (hi' : P.testBit i = true) (h1 : 1 ≤ q) (h8 : q ≤ 8)
    (hp1 : tp_E w B (fun _ => 0) (tp_up D i q) P → ∀ (fd' : Int32) (lo' hi' ca' : Nat → Int32), post 0 (nI w, yo, fd', he, upd de i (nI q), pr, lo', hi', ca'))
    (hp0 : ¬ tp_E w B (fun _ => 0) (tp_up D i q) P → ∀ (fd' : Int32) (lo' hi' ca' : Nat → Int32), post (-3) (nI w, yo, fd', he, upd (upd de i (nI q)) i (de i), pr, lo', hi', ca')) :
    wpY_setDeadline post (nI w, yo, yd, he, de, pr, lo, hi, ca) (nI i) (nI q) := by
  have hP := zr_P V
  have h7 := tb_lt7 hP hi'
  have ec : (nI i).toNatClampNeg = i := nI_clamp (by omega)
  unfold wpY_setDeadline
  dsimp only
  rw [ec]
  refine ys_there1 (zr_H V) h7 hi' (br_f xs_10 (br_f (zd_1 h1 h8) (br_t (zd_l h8) ⟨xs_in h7, nm_e ⟨xs_in h7, nm_e (yf_good V.1 hP (zr_H V) (zk_upV h1 h8 (zr_y V)) (zr_C V) (fun r fd' lo' hi'' ca' hr => ?_))⟩⟩)))
  rcases hr with ⟨er, hE, _⟩ | ⟨er, hE⟩
  · exact br_f (by rw [er]; decide) (hp1 hE _ _ _ _)
  · exact br_t er ⟨xs_in h7, nm_e (hp0 hE _ _ _ _)⟩
theorem i_vc_setDeadline {k : Nat} {u : SX} {v : SY} (I : i_Rel k u v) (hk : k + 3 ≤ 1538) (v1 : Int32) (v2 : Int32) : wpX_setDeadline (fun r u' => wpY_setDeadline (fun r' v' => r' = r ∧ i_Rel (k + 3) u' v') v v1 v2) u v1 v2 := by
  obtain ⟨w, c, P, D, B, dl, bf, td, tb, sf, yd, he, de, pr, lo, hi, ca, rfl, rfl, V⟩ := I
  have hP := zr_P V
  rcases tp_NT P v1 with hn | ⟨i, h7, rfl, hi'⟩
  · unfold wpX_setDeadline
    dsimp only
    refine xs_task0 hP hn (br_t rfl ?_)
    unfold wpY_setDeadline
    dsimp only
    exact ys_there0 (zr_H V) hn (br_t rfl ⟨rfl, zr_mk V⟩)
  · rcases zd_ca v2 with hb | ⟨q, h1, h8, rfl⟩
    · unfold wpX_setDeadline
      dsimp only
      refine xs_task1 hP h7 hi' (br_f xs_10 (xd_0 hb (br_t rfl ?_)))
      unfold wpY_setDeadline
      dsimp only
      refine ys_there1 (zr_H V) h7 hi' (br_f xs_10 ?_)
      by_cases g : v2 < 1
      · exact br_t g ⟨rfl, zr_mk V⟩
      · exact br_f g (br_f (fun h => absurd (hb.resolve_left g) (Int32.not_lt.mpr h)) ⟨rfl, zr_mk V⟩)
    · refine xk_set V hi' h1 h8 (fun hE td' tb' sf' => yk_set V hi' h1 h8 (fun _ fd' lo' hi'' ca' => ⟨rfl, ?_⟩) (fun hn => absurd hE hn))
        (fun hE td' tb' sf' => yk_set V hi' h1 h8 (fun h => absurd h hE) (fun _ fd' lo' hi'' ca' => ⟨rfl, ?_⟩))
      · refine zr_mk (D := tp_up D i q) ⟨V.1, V.2.1, V.2.2.1, ?_, V.2.2.2.2.1, V.2.2.2.2.2.1, V.2.2.2.2.2.2.1, zr_H V, hE⟩
        intro a ha
        obtain ⟨v1, v2, v3, v4, v5⟩ := V.2.2.2.1 a ha
        by_cases e : a = i
        · rw [e, pk_us, pk_us, tp_us]
          rw [e] at v5
          exact ⟨h1, h8, rfl, rfl, v5⟩
        · rw [pk_un e, pk_un e, tp_un D _ e]
          exact ⟨v1, v2, v3, v4, v5⟩
      · refine zr_mk (zq_de (i := i) V (fun a ha => by rw [pk_un ha, pk_un ha]) ?_)
        rw [pk_us]
        exact (V.2.2.2.1 i hi').2.2.2.1
/-! link -/
theorem zk_in {i j : Nat} (V : zr_V w c P D B dl bf he de pr) (hi' : P.testBit i = true) : ∀ q a, (tp_up B j (B j ||| 2 ^ i) q).testBit a = true → P.testBit a = true := by
  intro q a h
  by_cases e : q = j
  · rw [e, tp_us] at h
    rcases (tb_o1 _ _ _).mp h with g | g
    · exact V.2.2.2.2.2.1 j a g
    · rw [g]; exact hi'
  · rw [tp_un B _ e] at h
    exact V.2.2.2.2.2.1 q a h
theorem xk_bad {post : Int32 → SX → Prop} {x y : Int32} (hP : P < 128) (h : tp_N P x ∨ tp_N P y ∨ x = y) (hp : post (-1) (fm, fc, nI P, dl, bf, td, tb, sf)) : wpX_answerToLink post (fm, fc, nI P, dl, bf, td, tb, sf) x y := by
  unfold wpX_answerToLink
  dsimp only
  rcases tp_NT P x with hn | ⟨i, h7, rfl, hi'⟩
  · exact xs_task0 hP hn (br_t rfl hp)
  · rcases tp_NT P y with hn | ⟨j, h7', rfl, hj⟩
    · exact xs_task1 hP h7 hi' (br_f xs_10 (xs_task0 hP hn (br_t rfl hp)))
    · by_cases e : nI i = nI j
      · exact xs_task1 hP h7 hi' (br_f xs_10 (xs_task1 hP h7' hj (br_f xs_10 (br_t e hp))))
      · have no : ∀ k, k < 7 → P.testBit k = true → ¬ tp_N P (nI k) := by
          intro k hk hb hN
          rcases hN with h | h | ⟨k', hk', e', hb'⟩
          · exact nI_pos (by omega) h
          · exact xs_7 hk h
          · have : k = k' := (nI_eq (by omega) (by omega)).mp e'
            exact hb' (this ▸ hb)
        rcases h with h | h | h
        · exact absurd h (no i h7 hi')
        · exact absurd h (no j h7' hj)
        · exact absurd h e
theorem xk_atl {post : Int32 → SX → Prop} {i j : Nat} (V : zr_V w c P D B dl bf he de pr) (hi' : P.testBit i = true) (hj : P.testBit j = true) (hij : i ≠ j)
    (hp1 : (B j).testBit i = true → post 0 (nI w, nI c, nI P, dl, bf, td, tb, sf))
    (hp2 : ¬ (B j).testBit i = true → tp_K B j i → post (-4) (nI w, nI c, nI P, dl, bf, td, tb, sf))
    (hp3 : ¬ (B j).testBit i = true → ¬ tp_K B j i → tp_E w (tp_up B j (B j ||| 2 ^ i)) (fun _ => 0) D P → ∀ td' tb' sf' : Nat → Int32, post 0 (nI w, nI c, nI P, dl, bf, td', tb', sf'))
    (hp4 : ¬ (B j).testBit i = true → ¬ tp_K B j i → ¬ tp_E w (tp_up B j (B j ||| 2 ^ i)) (fun _ => 0) D P → ∀ td' tb' sf' : Nat → Int32, post (-3) (nI w, nI c, nI P, dl, bf, td', tb', sf')) :
    wpX_answerToLink post (nI w, nI c, nI P, dl, bf, td, tb, sf) (nI i) (nI j) := by
  have hP := zr_P V
  have h7 := tb_lt7 hP hi'
  have h7' := tb_lt7 hP hj
  have ec : (nI j).toNatClampNeg = j := nI_clamp (by omega)
  have hne : ¬ nI i = nI j := fun e => hij ((nI_eq (by omega) (by omega)).mp e)
  unfold wpX_answerToLink
  dsimp only
  refine xs_task1 hP h7 hi' (br_f xs_10 (xs_task1 hP h7' hj (br_f xs_10 (br_f hne ⟨xs_in h7', ?_⟩))))
  rw [ec, (zr_b V j h7').1]
  by_cases hb : (B j).testBit i = true
  · exact xs_has1 (zr_B V j) h7 hb (br_f xs_10 (hp1 hb))
  · refine xs_has0 (zr_B V j) h7 hb (br_t rfl (xl_ab (B := B) hP hi' (zr_C V) (zr_E V) (zr_8 V) (zr_b V) (fun S hS hK => ?_)))
    by_cases hk : S.testBit j = true
    · exact xs_has1 hS h7' hk (br_f xs_10 (hp2 hb ((hK j).mp hk)))
    · have hk' : ¬ tp_K B j i := fun h => hk ((hK j).mpr h)
      refine xs_has0 hS h7' hk (br_t rfl (xs_start (fun td' tb' g1 g2 => ⟨xs_in h7', xs_in h7', ?_⟩)))
      have hC0 := zr_x8 V g1 g2
      have hC : xt_C P (tp_up B j (B j ||| 2 ^ i)) D td' (upd tb' j (nI (B j ||| 2 ^ i))) := by
        intro a ha
        obtain ⟨c1, c2, c3⟩ := hC0 a ha
        refine ⟨c1, c2, ?_⟩
        by_cases e : a = j
        · rw [e, pk_us, tp_us]
        · rw [pk_un e, tp_un B _ e]; exact c3
      have hB : tp_C (tp_up B j (B j ||| 2 ^ i)) P := fun q _ a h => zk_in V hi' q a h
      refine nm_r (e' := upd tb' j (nI (B j ||| 2 ^ i))) (by dsimp only; rw [(hC0 j hj).2.2, tb_bit i h7, tb_or]) (xt_ts V.1 hP hC hB (fun x sf' hx => ?_))
      have hE := tp_TE (fun a ha => (hC a ha).2.1) hB hx
      have h100 := xt_100 (tp_Tx hx)
      by_cases h : x = 100
      · exact br_t (h100.mpr h) (hp4 hb hk' (fun e => hE.mpr e h) _ _ _)
      · exact br_f (fun e => h (h100.mp e)) (hp3 hb hk' (hE.mp h) _ _ _)
theorem yk_bad {post : Int32 → SY → Prop} {x y : Int32} (hP : P < 128) (hH : ys_H P he) (h : tp_N P x ∨ tp_N P y ∨ x = y) (hp : post (-1) (yw, yo, yd, he, de, pr, lo, hi, ca)) : wpY_link post (yw, yo, yd, he, de, pr, lo, hi, ca) x y := by
  unfold wpY_link
  dsimp only
  rcases tp_NT P x with hn | ⟨i, h7, rfl, hi'⟩
  · exact ys_there0 hH hn (br_t rfl hp)
  · rcases tp_NT P y with hn | ⟨j, h7', rfl, hj⟩
    · exact ys_there1 hH h7 hi' (br_f xs_10 (ys_there0 hH hn (br_t rfl hp)))
    · by_cases e : nI i = nI j
      · exact ys_there1 hH h7 hi' (br_f xs_10 (ys_there1 hH h7' hj (br_f xs_10 (br_t e hp))))
      · have no : ∀ k, k < 7 → P.testBit k = true → ¬ tp_N P (nI k) := by
          intro k hk hb hN
          rcases hN with h | h | ⟨k', hk', e', hb'⟩
          · exact nI_pos (by omega) h
          · exact xs_7 hk h
          · have : k = k' := (nI_eq (by omega) (by omega)).mp e'
            exact hb' (this ▸ hb)
        rcases h with h | h | h
        · exact absurd h (no i h7 hi')
        · exact absurd h (no j h7' hj)
        · exact absurd h e
theorem yk_link {post : Int32 → SY → Prop} {i j : Nat} (V : zr_V w c P D B dl bf he de pr) (hi' : P.testBit i = true) (hj : P.testBit j = true) (hij : i ≠ j)
    (hp1 : (B j).testBit i = true → post 0 (nI w, yo, yd, he, de, pr, lo, hi, ca))
    (hp2 : ¬ (B j).testBit i = true → tp_K B j i → post (-4) (nI w, yo, yd, he, de, pr, lo, hi, ca))
    (hp3 : ¬ (B j).testBit i = true → ¬ tp_K B j i → tp_E w (tp_up B j (B j ||| 2 ^ i)) (fun _ => 0) D P → ∀ (fd' : Int32) (lo' hi' ca' : Nat → Int32), post 0 (nI w, yo, fd', he, de, upd pr j (nI (B j ||| 2 ^ i)), lo', hi', ca'))
    (hp4 : ¬ (B j).testBit i = true → ¬ tp_K B j i → ¬ tp_E w (tp_up B j (B j ||| 2 ^ i)) (fun _ => 0) D P → ∀ (fd' : Int32) (lo' hi' ca' : Nat → Int32), post (-3) (nI w, yo, fd', he, de, upd (upd pr j (nI (B j ||| 2 ^ i))) j (nI (B j)), lo', hi', ca')) :
    wpY_link post (nI w, yo, yd, he, de, pr, lo, hi, ca) (nI i) (nI j) := by
  have hP := zr_P V
  have h7 := tb_lt7 hP hi'
  have h7' := tb_lt7 hP hj
  have ec : (nI j).toNatClampNeg = j := nI_clamp (by omega)
  have hne : ¬ nI i = nI j := fun e => hij ((nI_eq (by omega) (by omega)).mp e)
  unfold wpY_link
  dsimp only
  refine ys_there1 (zr_H V) h7 hi' (br_f xs_10 (ys_there1 (zr_H V) h7' hj (br_f xs_10 (br_f hne ?_))))
  by_cases hb : (B j).testBit i = true
  · exact ym_ln1 hP (zr_H V) (zr_p V) hi' hj hb (br_f xs_10 (hp1 hb))
  · refine ym_ln0 hP (zr_H V) (zr_p V) (Or.inr ⟨i, hi', rfl, Or.inr ⟨j, hj, rfl, hb⟩⟩) (br_t rfl (yl_leads (B := B) hP hi' hj hij (zr_H V) (zr_C V) (zr_E V) (zr_8 V) (zr_p V) (fun hk => br_f xs_10 (hp2 hb hk)) (fun hk => br_t rfl ⟨xs_in h7', xs_in h7', ?_⟩)))
    rw [ec, (zr_p V j hj).1, tb_bit i h7, tb_or]
    have hV : yf_V P (tp_up B j (B j ||| 2 ^ i)) D de (upd pr j (nI (B j ||| 2 ^ i))) := by
      intro a ha
      obtain ⟨v1, v2, v3, v4, v5⟩ := zr_y V a ha
      by_cases e : a = j
      · rw [e, pk_us, tp_us]
        rw [e] at v1 v2 v3 v5
        exact ⟨v1, v2, v3, rfl, tb_o128 v5 h7⟩
      · rw [pk_un e, tp_un B _ e]
        exact ⟨v1, v2, v3, v4, v5⟩
    have hB : tp_C (tp_up B j (B j ||| 2 ^ i)) P := fun q _ a h => zk_in V hi' q a h
    have hd : tb_df (B j ||| 2 ^ i) (2 ^ i) = B j := by
      apply tb_ext
      intro a
      rw [tb_d1, tb_o1]
      constructor
      · intro h
        rcases h with ⟨h | h, g⟩
        · exact h
        · exact absurd h g
      · intro h
        exact ⟨Or.inl h, fun e => hb (e ▸ h)⟩
    refine nm_e (yf_good V.1 hP (zr_H V) hV hB (fun r fd' lo' hi'' ca' hr => ?_))
    rcases hr with ⟨er, hE, _⟩ | ⟨er, hE⟩
    · exact br_f (by rw [er]; decide) (hp3 hb hk hE _ _ _ _)
    · refine br_t er ⟨xs_in h7', xs_in h7', ?_⟩
      dsimp only
      rw [pk_us, tb_dif, hd]
      exact nm_e (hp4 hb hk hE _ _ _ _)
theorem zk_B {pr' bf' : Nat → Int32} (V : zr_V w c P D B dl bf he de pr) (h1 : ∀ a, P.testBit a = true → pr' a = nI (B a)) (h2 : ∀ a, a < 7 → bf' a = nI (B a)) : zr_V w c P D B dl bf' he de pr' := by
  refine ⟨V.1, V.2.1, V.2.2.1, ?_, h2, V.2.2.2.2.2⟩
  intro a ha
  obtain ⟨v1, v2, v3, v4, v5⟩ := V.2.2.2.1 a ha
  exact ⟨v1, v2, v3, v4, h1 a ha⟩
theorem zk_or {i j : Nat} (hb : (B j).testBit i = true) : B j ||| 2 ^ i = B j := by
  apply tb_ext
  intro a
  rw [tb_o1]
  exact ⟨fun h => h.elim id (fun e => e ▸ hb), Or.inl⟩
theorem zk_new {i j : Nat} (V : zr_V w c P D B dl bf he de pr) (hi' : P.testBit i = true) (hj : P.testBit j = true) (hE : tp_E w (tp_up B j (B j ||| 2 ^ i)) (fun _ => 0) D P) :
    zr_V w c P D (tp_up B j (B j ||| 2 ^ i)) dl (upd bf j (nI (B j ||| 2 ^ i))) he de (upd pr j (nI (B j ||| 2 ^ i))) := by
  refine ⟨V.1, V.2.1, V.2.2.1, ?_, ?_, zk_in V hi', ?_, zr_H V, hE⟩
  · intro a ha
    obtain ⟨v1, v2, v3, v4, v5⟩ := V.2.2.2.1 a ha
    refine ⟨v1, v2, v3, v4, ?_⟩
    by_cases e : a = j
    · rw [e, pk_us, tp_us]
    · rw [pk_un e, tp_un B _ e]; exact v5
  · intro a ha
    by_cases e : a = j
    · rw [e, pk_us, tp_us]
    · rw [pk_un e, tp_un B _ e]; exact V.2.2.2.2.1 a ha
  · intro a ha
    have ne : a ≠ j := fun e => ha (by rw [e]; exact hj)
    rw [tp_un B _ ne]
    exact V.2.2.2.2.2.2.1 a ha
theorem zk_back {i j : Nat} {x : Int32} (V : zr_V w c P D B dl bf he de pr) (hx : x = nI (B j)) : ∀ a, P.testBit a = true → upd (upd pr j (nI (B j ||| 2 ^ i))) j x a = nI (B a) := by
  intro a ha
  by_cases e : a = j
  · rw [e, pk_us]; exact hx
  · rw [pk_un e, pk_un e]
    exact (zr_p V a ha).1
theorem i_vc_link {k : Nat} {u : SX} {v : SY} (I : i_Rel k u v) (hk : k + 3 ≤ 1538) (v1 : Int32) (v2 : Int32) : wpX_link (fun r u' => wpY_link (fun r' v' => r' = r ∧ i_Rel (k + 3) u' v') v v1 v2) u v1 v2 := by
  obtain ⟨w, c, P, D, B, dl, bf, td, tb, sf, yd, he, de, pr, lo, hi, ca, rfl, rfl, V⟩ := I
  have hP := zr_P V
  unfold wpX_link
  dsimp only
  have bad : (tp_N P v1 ∨ tp_N P v2 ∨ v1 = v2) → _ := fun h => xk_bad (fm := nI w) (fc := nI c) (dl := dl) (bf := bf) (td := td) (tb := tb) (sf := sf) hP h (post := fun r_1 u => match u with
    | (f_machines_2, f_capacity_3, f_present_4, a_deadlines_5, a_before_6, a_trialDeadlines_7, a_trialBefore_8, a_slotsFor_9) => (((r_1 = 0 → (vp_in v2 7 ∧ (vp_in v2 7 ∧ ∀ a_before_13 : Nat → Int32, a_before_13 = upd a_before_6 v2.toNatClampNeg ((a_before_6 v2.toNatClampNeg) ||| ((1 : Int32) <<< (v1 &&& 31))) → (wpY_link (fun r' v' => r' = r_1 ∧ i_Rel (k + 3) (f_machines_2, f_capacity_3, f_present_4, a_deadlines_5, a_before_13, a_trialDeadlines_7, a_trialBefore_8, a_slotsFor_9) v') (nI w, nI c, yd, he, de, pr, lo, hi, ca) v1 v2)))) ∧ (¬ r_1 = 0 → (wpY_link (fun r' v' => r' = r_1 ∧ i_Rel (k + 3) (f_machines_2, f_capacity_3, f_present_4, a_deadlines_5, a_before_6, a_trialDeadlines_7, a_trialBefore_8, a_slotsFor_9) v') (nI w, nI c, yd, he, de, pr, lo, hi, ca) v1 v2)))))
    (br_f (by decide) (yk_bad hP (zr_H V) h ⟨rfl, zr_mk V⟩))
  rcases tp_NT P v1 with hn | ⟨i, h7, rfl, hi'⟩
  · exact bad (Or.inl hn)
  · rcases tp_NT P v2 with hn | ⟨j, h7', rfl, hj⟩
    · exact bad (Or.inr (Or.inl hn))
    · by_cases e : i = j
      · exact bad (Or.inr (Or.inr (by rw [e])))
      · have ec : (nI j).toNatClampNeg = j := nI_clamp (by omega)
        have eu : upd bf (nI j).toNatClampNeg (bf (nI j).toNatClampNeg ||| ((1 : Int32) <<< (nI i &&& 31))) = upd bf j (nI (B j ||| 2 ^ i)) := by
          rw [ec, (zr_b V j h7').1, tb_bit i h7, tb_or]
        refine xk_atl V hi' hj e (fun hb => ?_) (fun hb hK => ?_) (fun hb hK hE td' tb' sf' => ?_) (fun hb hK hE td' tb' sf' => ?_)
        · refine br_t rfl ⟨xs_in h7', xs_in h7', nm_r eu (yk_link V hi' hj e (fun _ => ⟨rfl, zr_mk (zk_B V (fun a ha => (zr_p V a ha).1) ?_)⟩) (fun h => absurd hb h) (fun h => absurd hb h) (fun h => absurd hb h))⟩
          intro a ha
          by_cases e' : a = j
          · rw [e', pk_us, zk_or hb]
          · rw [pk_un e']; exact (zr_b V a ha).1
        · exact br_f (by decide) (yk_link V hi' hj e (fun h => absurd h hb) (fun _ _ => ⟨rfl, zr_mk V⟩) (fun _ h => absurd hK h) (fun _ h => absurd hK h))
        · exact br_t rfl ⟨xs_in h7', xs_in h7', nm_r eu (yk_link V hi' hj e (fun h => absurd h hb) (fun _ h => absurd h hK) (fun _ _ _ fd' lo' hi'' ca' => ⟨rfl, zr_mk (zk_new V hi' hj hE)⟩) (fun _ _ h => absurd hE h))⟩
        · exact br_f (by decide) (yk_link V hi' hj e (fun h => absurd h hb) (fun _ h => absurd h hK) (fun _ _ h => absurd h hE) (fun _ _ _ fd' lo' hi'' ca' => ⟨rfl, zr_mk (zk_B V (zk_back V rfl) V.2.2.2.2.1)⟩))
theorem yk_cp1 {post : Int32 → SY → Prop} (hp : post 1 (yw, yo, yd, he, de, pr, lo, hi, ca)) : wY_couldPrecede_31 post 0 yw yo yd he de pr lo hi ca := br_t rfl hp
theorem yk_cp0 {post : Int32 → SY → Prop} {x : Int32} (hx : ¬ x = 0) (hp : post 0 (yw, yo, yd, he, de, pr, lo, hi, ca)) : wY_couldPrecede_31 post x yw yo yd he de pr lo hi ca := br_f hx hp
theorem yk_cpb {post : Int32 → SY → Prop} {x y : Int32} (V : zr_V w c P D B dl bf he de pr) (h : tp_N P x ∨ tp_N P y ∨ x = y) (hp : post 0 (nI w, yo, yd, he, de, pr, lo, hi, ca)) : wpY_couldPrecede post (nI w, yo, yd, he, de, pr, lo, hi, ca) x y := by
  unfold wpY_couldPrecede
  dsimp only
  rcases zl_ca P B x y with hn | ⟨i, j, hi', hj, rfl, rfl, hb⟩
  · exact ym_ln0 (zr_P V) (zr_H V) (zr_p V) hn (yk_bad (zr_P V) (zr_H V) h (br_f (by decide) (yk_cp0 (by decide) hp)))
  · exact ym_ln1 (zr_P V) (zr_H V) (zr_p V) hi' hj hb (yk_bad (zr_P V) (zr_H V) h (br_f (by decide) (yk_cp0 (by decide) hp)))
theorem i_vc_couldPrecede {k : Nat} {u : SX} {v : SY} (I : i_Rel k u v) (hk : k + 3 ≤ 1538) (v1 : Int32) (v2 : Int32) : wpX_couldPrecede (fun r u' => wpY_couldPrecede (fun r' v' => r' = r ∧ i_Rel (k + 3) u' v') v v1 v2) u v1 v2 := by
  obtain ⟨w, c, P, D, B, dl, bf, td, tb, sf, yd, he, de, pr, lo, hi, ca, rfl, rfl, V⟩ := I
  have hP := zr_P V
  unfold wpX_couldPrecede
  dsimp only
  by_cases hbad : tp_N P v1 ∨ tp_N P v2 ∨ v1 = v2
  · exact xk_bad hP hbad (br_f (by decide) (yk_cpb V hbad ⟨rfl, zr_mk V⟩))
  · rcases tp_NT P v1 with hn | ⟨i, h7, rfl, hi'⟩
    · exact absurd (Or.inl hn) hbad
    · rcases tp_NT P v2 with hn | ⟨j, h7', rfl, hj⟩
      · exact absurd (Or.inr (Or.inl hn)) hbad
      · have e : i ≠ j := fun e => hbad (Or.inr (Or.inr (by rw [e])))
        have hno : ¬ (B j).testBit i = true → zl_no P B (nI i) (nI j) := fun hb => Or.inr ⟨i, hi', rfl, Or.inr ⟨j, hj, rfl, hb⟩⟩
        refine xk_atl V hi' hj e (fun hb => br_t rfl ?_) (fun hb hK => br_f (by decide) ?_) (fun hb hK hE td' tb' sf' => br_t rfl ?_) (fun hb hK hE td' tb' sf' => br_f (by decide) ?_)
        · unfold wpY_couldPrecede
          dsimp only
          exact ym_ln1 hP (zr_H V) (zr_p V) hi' hj hb (yk_link V hi' hj e (fun _ => br_t rfl (br_f xs_10 (yk_cp1 ⟨rfl, zr_mk V⟩))) (fun h => absurd hb h) (fun h => absurd hb h) (fun h => absurd hb h))
        · unfold wpY_couldPrecede
          dsimp only
          exact ym_ln0 hP (zr_H V) (zr_p V) (hno hb) (yk_link V hi' hj e (fun h => absurd h hb) (fun _ _ => br_f (by decide) (yk_cp0 (by decide) ⟨rfl, zr_mk V⟩)) (fun _ h => absurd hK h) (fun _ h => absurd hK h))
        · unfold wpY_couldPrecede
          dsimp only
          refine ym_ln0 hP (zr_H V) (zr_p V) (hno hb) (yk_link V hi' hj e (fun h => absurd h hb) (fun _ h => absurd h hK) (fun _ _ _ fd' lo' hi'' ca' => br_t rfl (br_t rfl ?_)) (fun _ _ h => absurd hE h))
          have V' := zk_new V hi' hj hE
          refine ym_un hP (zr_H V) (zr_p V') hi' hj (by rw [tp_us, tb_o1]; exact Or.inr rfl) (yk_cp1 ⟨rfl, zr_mk (zk_B V (zk_back V ?_) V.2.2.2.2.1)⟩)
          rw [tp_us]
          congr 1
          apply tb_ext
          intro a
          rw [tb_d1, tb_o1]
          constructor
          · intro h
            rcases h with ⟨h | h, g⟩
            · exact h
            · exact absurd h g
          · intro h
            exact ⟨Or.inl h, fun e => hb (e ▸ h)⟩
        · unfold wpY_couldPrecede
          dsimp only
          exact ym_ln0 hP (zr_H V) (zr_p V) (hno hb) (yk_link V hi' hj e (fun h => absurd h hb) (fun _ h => absurd h hK) (fun _ _ h => absurd h hE) (fun _ _ _ fd' lo' hi'' ca' => br_f (by decide) (yk_cp0 (by decide) ⟨rfl, zr_mk (zk_B V (zk_back V rfl) V.2.2.2.2.1)⟩)))
end
