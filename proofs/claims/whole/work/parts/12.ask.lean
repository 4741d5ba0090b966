/-! span, tightest, earliest, slotOf, shortSlotOf -/
section
variable {w c P : Nat} {D B : Nat → Nat} {dl bf td tb sf : Nat → Int32} {fm fc fp yw yo yd : Int32} {he de pr lo hi ca : Nat → Int32}
theorem zq_Tu {x y : Nat} (h : tp_T w B D P x) (g : tp_T w B D P y) : x = y := by
  rcases h with h | h
  · rcases g with g | g
    · omega
    · exact absurd g.2.1 (h.2 y)
  · rcases g with g | g
    · exact absurd h.2.1 (g.2 x)
    · have h1 := h.2.2 y g.2.1
      have h2 := g.2.2 x h.2.1
      omega
theorem xq_span {post : Int32 → SX → Prop} (V : zr_V w c P D B dl bf he de pr) (hp : ∀ x (td' tb' sf' : Nat → Int32), tp_T w B D P x → post (nI x) (nI w, nI c, nI P, dl, bf, td', tb', sf')) :
    wpX_span post (nI w, nI c, nI P, dl, bf, td, tb, sf) := by
  unfold wpX_span
  dsimp only
  refine xs_start (fun td' tb' h1 h2 => ?_)
  exact xt_ts V.1 (zr_P V) (zr_x8 V h1 h2) (zr_C V) (fun x sf' hx => hp x td' tb' sf' hx)
theorem yq_span {post : Int32 → SY → Prop} (V : zr_V w c P D B dl bf he de pr) (hp : ∀ x (lo' hi' ca' : Nat → Int32), tp_T w B D P x → post (nI x) (nI w, yo, nI x, he, de, pr, lo', hi', ca')) :
    wpY_span post (nI w, yo, yd, he, de, pr, lo, hi, ca) := by
  unfold wpY_span
  dsimp only
  refine yf_good V.1 (zr_P V) (zr_H V) (zr_y V) (zr_C V) (fun r fd' lo' hi' ca' hr => ?_)
  rcases hr with ⟨_, _, x, hx, e, g1, g2⟩ | ⟨_, hn⟩
  · subst e
    exact hp x lo' hi' ca' (Or.inr ⟨hx, g1, g2⟩)
  · exact absurd (zr_E V) hn
theorem i_vc_span {k : Nat} {u : SX} {v : SY} (I : i_Rel k u v) (hk : k + 3 ≤ 1538) : wpX_span (fun r u' => wpY_span (fun r' v' => r' = r ∧ i_Rel (k + 3) u' v') v) u := by
  obtain ⟨w, c, P, D, B, dl, bf, td, tb, sf, yd, he, de, pr, lo, hi, ca, rfl, rfl, V⟩ := I
  exact xq_span V (fun x td' tb' sf' hx => yq_span V (fun y lo' hi' ca' hy => ⟨by rw [zq_Tu hx hy], zr_mk V⟩))
/-! tightest, earliest -/
theorem xq_t0 {post : Int32 → SX → Prop} {x : Int32} (hP : P < 128) (hn : tp_N P x) (hp : post (-1) (fm, fc, nI P, dl, bf, td, tb, sf)) : wpX_tightest post (fm, fc, nI P, dl, bf, td, tb, sf) x := by
  unfold wpX_tightest
  dsimp only
  exact xs_task0 hP hn (br_t rfl hp)
theorem xq_t1 {post : Int32 → SX → Prop} {i : Nat} (V : zr_V w c P D B dl bf he de pr) (hi' : P.testBit i = true)
    (hp : ∀ d (td' tb' sf' : Nat → Int32), tp_D w B D P i d → post (nI d) (nI w, nI c, nI P, dl, bf, td', tb', sf')) : wpX_tightest post (nI w, nI c, nI P, dl, bf, td, tb, sf) (nI i) := by
  have hP := zr_P V
  unfold wpX_tightest
  dsimp only
  refine xs_task1 hP (tb_lt7 hP hi') hi' (br_f xs_10 (xs_start (fun td' tb' h1 h2 => ?_)))
  exact xt_tt V.1 hP hi' (zr_C V) (zr_E V) (zr_x8 V h1 h2) (fun d td'' sf' hd _ => hp d td'' tb' sf' hd)
theorem zq_de {de' : Nat → Int32} {i : Nat} (V : zr_V w c P D B dl bf he de pr) (h1 : ∀ q, q ≠ i → de' q = de q) (h2 : de' i = nI (D i)) : zr_V w c P D B dl bf he de' pr := by
  refine ⟨V.1, V.2.1, V.2.2.1, ?_, V.2.2.2.2⟩
  intro q hq
  obtain ⟨v1, v2, v3, v4, v5⟩ := V.2.2.2.1 q hq
  refine ⟨v1, v2, v3, ?_, v5⟩
  by_cases e : q = i
  · rw [e]; exact h2
  · rw [h1 q e]; exact v4
theorem i_vc_tightest {k : Nat} {u : SX} {v : SY} (I : i_Rel k u v) (hk : k + 3 ≤ 1538) (v1 : Int32) : wpX_tightest (fun r u' => wpY_tightest (fun r' v' => r' = r ∧ i_Rel (k + 3) u' v') v v1) u v1 := by
  obtain ⟨w, c, P, D, B, dl, bf, td, tb, sf, yd, he, de, pr, lo, hi, ca, rfl, rfl, V⟩ := I
  rcases tp_NT P v1 with hn | ⟨i, h7, rfl, hi'⟩
  · refine xq_t0 (zr_P V) hn ?_
    unfold wpY_tightest
    dsimp only
    exact ys_there0 (zr_H V) hn (br_t rfl ⟨rfl, zr_mk V⟩)
  · exact xq_t1 V hi' (fun d td' tb' sf' hd => yl_tight V.1 (zr_P V) hi' (zr_H V) (zr_C V) (zr_E V) hd (zr_y V) (fun fd' de' lo' hi'' ca' h1 h2 => ⟨rfl, zr_mk (zq_de V h1 h2)⟩))
theorem i_vc_earliest {k : Nat} {u : SX} {v : SY} (I : i_Rel k u v) (hk : k + 3 ≤ 1538) (v1 : Int32) : wpX_earliest (fun r u' => wpY_earliest (fun r' v' => r' = r ∧ i_Rel (k + 3) u' v') v v1) u v1 := by
  obtain ⟨w, c, P, D, B, dl, bf, td, tb, sf, yd, he, de, pr, lo, hi, ca, rfl, rfl, V⟩ := I
  have hP := zr_P V
  rcases tp_NT P v1 with hn | ⟨i, h7, rfl, hi'⟩
  · unfold wpX_earliest
    dsimp only
    refine xs_task0 hP hn (br_t rfl ?_)
    unfold wpY_earliest
    dsimp only
    exact ys_there0 (zr_H V) hn (br_t rfl ⟨rfl, zr_mk V⟩)
  · unfold wpX_earliest
    dsimp only
    refine xs_task1 hP h7 hi' (br_f xs_10 (xq_t1 V hi' (fun d td' tb' sf' hd => ?_)))
    unfold wpY_earliest
    dsimp only
    refine ys_there1 (zr_H V) h7 hi' (br_f xs_10 (ys_ask (fun lo' hi'' h1 h2 => ?_)))
    refine yl_settle (L := fun _ => 0) V.1 hP hi' (zr_H V) (zr_C V) (zr_E V) hd (fun _ _ _ _ => Nat.zero_le _) (yf_C8 (zr_y V) (yf_aC (s := 8) hP (by omega) (by omega) (zr_y V) h1 h2)) (fun fd' lo2 hi2 ca' _ => ⟨?_, zr_mk V⟩)
    exact (xl_s1 (tp_D_pos hi' hd)).symm
/-! slotOf, shortSlotOf -/
theorem xq_f0 {post : Int32 → SX → Prop} {x s : Int32} (hP : P < 128) (hn : tp_N P x) (hp : post (-1) (fm, fc, nI P, dl, bf, td, tb, sf)) : wpX_firstSlot post (fm, fc, nI P, dl, bf, td, tb, sf) x s := by
  unfold wpX_firstSlot
  dsimp only
  exact xs_task0 hP hn (br_t rfl hp)
theorem xq_f1 {post : Int32 → SX → Prop} {i s : Nat} (V : zr_V w c P D B dl bf he de pr) (hi' : P.testBit i = true) (hs : s ≤ 8) (hE : tp_E w B (fun _ => 0) (fun q => min (D q) s) P)
    (hp : ∀ (H : Nat → Nat) (td' tb' sf' : Nat → Int32), tp_P w B P (fun q => min (D q) s) (i + 1) H → post (nI (H i - 1)) (nI w, nI c, nI P, dl, bf, td', tb', sf')) :
    wpX_firstSlot post (nI w, nI c, nI P, dl, bf, td, tb, sf) (nI i) (nI s) := by
  have hP := zr_P V
  unfold wpX_firstSlot
  dsimp only
  refine xs_task1 hP (tb_lt7 hP hi') hi' (br_f xs_10 (xs_start (fun td' tb' h1 h2 => ?_)))
  refine ⟨i + 1 + 1, xl_fsl V.1 hP hi' (zr_C V) hE (fun q hq => ?_) (fun H td'' sf' hH => hp H td'' tb' sf' hH) (i + 1) 0 _ td' sf (-1) (by omega) rfl (zr_x V hs h1 h2) (fun e => by omega)⟩
  have := zr_8 V q hq
  show min (D q) s ≤ 8
  omega
theorem yq_all {post : Int32 → SY → Prop} {i s : Nat} (V : zr_V w c P D B dl bf he de pr) (hi' : P.testBit i = true) (h1 : 1 ≤ s) (hs : s ≤ 8) (hE : tp_E w B (fun _ => 0) (fun q => min (D q) s) P)
    (hp : ∀ (H : Nat → Nat) (fd' : Int32) (lo' hi' ca' : Nat → Int32), tp_P w B P (fun q => min (D q) s) (i + 1) H → post (nI (H i - 1)) (nI w, yo, fd', he, de, pr, lo', hi', ca')) :
    wpY_ask (fun u => wpY_settleAll post u (nI i)) (nI w, yo, yd, he, de, pr, lo, hi, ca) (nI s) := by
  refine ys_ask (fun lo' hi'' g1 g2 => ?_)
  exact yl_all V.1 (zr_P V) hi' (zr_H V) (zr_C V) hE (yf_aC (zr_P V) h1 hs (zr_y V) g1 g2) hp
theorem zq_8 (V : zr_V w c P D B dl bf he de pr) : tp_E w B (fun _ => 0) (fun q => min (D q) 8) P := by
  obtain ⟨s, hF⟩ := zr_E V
  refine ⟨s, fun i hi' => ⟨Nat.zero_le _, ?_⟩, hF.2⟩
  have h1 := (hF.1 i hi').2
  have h2 := zr_8 V i hi'
  show s i < min (D i) 8
  omega
theorem zq_x {x i : Nat} (V : zr_V w c P D B dl bf he de pr) (hi' : P.testBit i = true) (hx : tp_T w B D P x) : 1 ≤ x ∧ x ≤ 8 ∧ tp_E w B (fun _ => 0) (fun q => min (D q) x) P := by
  rcases hx with ⟨_, hno⟩ | ⟨h8, hg, _⟩
  · exact absurd (tp_E_G (t := 8) (zr_8 V) (zr_C V) (zr_E V)) (hno 8)
  · have h0 : x ≠ 0 := by
      intro e
      rw [e] at hg
      refine tp_G_0 ?_ hg
      intro e2
      rw [e2] at hi'
      exact tb_n0 i hi'
    obtain ⟨s, hF, ht, _⟩ := hg
    refine ⟨by omega, h8, s, fun q hq => ⟨Nat.zero_le _, ?_⟩, hF.2⟩
    have h1 := (hF.1 q hq).2
    have h2 := ht q hq
    show s q < min (D q) x
    omega
theorem i_vc_slotOf {k : Nat} {u : SX} {v : SY} (I : i_Rel k u v) (hk : k + 3 ≤ 1538) (v1 : Int32) : wpX_slotOf (fun r u' => wpY_slotOf (fun r' v' => r' = r ∧ i_Rel (k + 3) u' v') v v1) u v1 := by
  obtain ⟨w, c, P, D, B, dl, bf, td, tb, sf, yd, he, de, pr, lo, hi, ca, rfl, rfl, V⟩ := I
  have hP := zr_P V
  rcases tp_NT P v1 with hn | ⟨i, h7, rfl, hi'⟩
  · unfold wpX_slotOf
    dsimp only
    refine xq_f0 hP hn ?_
    unfold wpY_slotOf
    dsimp only
    exact ys_there0 (zr_H V) hn (br_t rfl ⟨rfl, zr_mk V⟩)
  · unfold wpX_slotOf
    dsimp only
    refine xq_f1 (s := 8) V hi' (by omega) (zq_8 V) (fun H td' tb' sf' hH => ?_)
    unfold wpY_slotOf
    dsimp only
    refine ys_there1 (zr_H V) h7 hi' (br_f xs_10 ?_)
    refine yq_all (s := 8) V hi' (by omega) (by omega) (zq_8 V) (fun H' fd' lo' hi'' ca' hH' => ⟨?_, zr_mk V⟩)
    rw [tp_P_u hH hH']
theorem i_vc_shortSlotOf {k : Nat} {u : SX} {v : SY} (I : i_Rel k u v) (hk : k + 3 ≤ 1538) (v1 : Int32) : wpX_shortSlotOf (fun r u' => wpY_shortSlotOf (fun r' v' => r' = r ∧ i_Rel (k + 3) u' v') v v1) u v1 := by
  obtain ⟨w, c, P, D, B, dl, bf, td, tb, sf, yd, he, de, pr, lo, hi, ca, rfl, rfl, V⟩ := I
  have hP := zr_P V
  unfold wpX_shortSlotOf
  dsimp only
  refine xq_span V (fun x td' tb' sf' hx => ?_)
  rcases tp_NT P v1 with hn | ⟨i, h7, rfl, hi'⟩
  · refine xq_f0 hP hn ?_
    unfold wpY_shortSlotOf
    dsimp only
    exact ys_there0 (zr_H V) hn (br_t rfl ⟨rfl, zr_mk V⟩)
  · obtain ⟨x1, x8, xE⟩ := zq_x V hi' hx
    refine xq_f1 (s := x) V hi' x8 xE (fun H td' tb' sf' hH => ?_)
    unfold wpY_shortSlotOf
    dsimp only
    refine ys_there1 (zr_H V) h7 hi' (br_f xs_10 (yq_span V (fun y lo' hi'' ca' hy => ?_)))
    rw [← zq_Tu hx hy]
    refine yq_all (s := x) V hi' x1 x8 xE (fun H' fd' lo' hi'' ca' hH' => ⟨?_, zr_mk V⟩)
    rw [tp_P_u hH hH']
end
