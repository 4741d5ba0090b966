/-! the relation; the constructors; what it gives to each side -/
def zr_V (w c P : Nat) (D B : Nat → Nat) (dl bf he de pr : Nat → Int32) : Prop :=
  (w = 1 ∨ w = 2) ∧ (1 ≤ c ∧ c ≤ 7) ∧ P < 2 ^ c ∧
  (∀ i, P.testBit i = true → 1 ≤ D i ∧ D i ≤ 8 ∧ dl i = nI (D i) ∧ de i = nI (D i) ∧ pr i = nI (B i)) ∧
  (∀ i, i < 7 → bf i = nI (B i)) ∧ (∀ j i, (B j).testBit i = true → P.testBit i = true) ∧ (∀ j, ¬ P.testBit j = true → B j = 0) ∧
  ys_H P he ∧ tp_E w B (fun _ => 0) D P
/-- one plan (w machines, room for c, tasks P with deadlines D and predecessors B) stands in both states, and it has a good timetable -/
def i_Rel (_ : Nat) (u : SX) (v : SY) : Prop := ∃ (w c P : Nat) (D B : Nat → Nat) (dl bf td tb sf : Nat → Int32) (yd : Int32) (he de pr lo hi ca : Nat → Int32),
  u = (nI w, nI c, nI P, dl, bf, td, tb, sf) ∧ v = (nI w, nI c, yd, he, de, pr, lo, hi, ca) ∧ zr_V w c P D B dl bf he de pr
theorem i_up {k : Nat} {u : SX} {v : SY} (h : i_Rel k u v) : i_Rel (k + 3) u v := h
section
variable {w c P : Nat} {D B : Nat → Nat} {dl bf td tb sf : Nat → Int32} {yd : Int32} {he de pr lo hi ca : Nat → Int32}
theorem zr_mk {k : Nat} (V : zr_V w c P D B dl bf he de pr) : i_Rel k (nI w, nI c, nI P, dl, bf, td, tb, sf) (nI w, nI c, yd, he, de, pr, lo, hi, ca) :=
  ⟨w, c, P, D, B, dl, bf, td, tb, sf, yd, he, de, pr, lo, hi, ca, rfl, rfl, V⟩
theorem zr_c7 {c P : Nat} (hc : c ≤ 7) (h : P < 2 ^ c) : P < 128 := Nat.lt_of_lt_of_le h (show 2 ^ c ≤ 2 ^ 7 from Nat.pow_le_pow_right (by decide) hc)
theorem zr_P (V : zr_V w c P D B dl bf he de pr) : P < 128 := zr_c7 V.2.1.2 V.2.2.1
theorem zr_C (V : zr_V w c P D B dl bf he de pr) : tp_C B P := fun j _ i h => V.2.2.2.2.2.1 j i h
theorem zr_B (V : zr_V w c P D B dl bf he de pr) (j : Nat) : B j < 128 := tb_sl (V.2.2.2.2.2.1 j) (zr_P V)
theorem zr_8 (V : zr_V w c P D B dl bf he de pr) : ∀ i, P.testBit i = true → D i ≤ 8 := fun i hi => (V.2.2.2.1 i hi).2.1
theorem zr_E (V : zr_V w c P D B dl bf he de pr) : tp_E w B (fun _ => 0) D P := V.2.2.2.2.2.2.2.2
theorem zr_H (V : zr_V w c P D B dl bf he de pr) : ys_H P he := V.2.2.2.2.2.2.2.1
theorem zr_y (V : zr_V w c P D B dl bf he de pr) : yf_V P B D de pr := fun i hi => ⟨(V.2.2.2.1 i hi).1, (V.2.2.2.1 i hi).2.1, (V.2.2.2.1 i hi).2.2.2.1, (V.2.2.2.1 i hi).2.2.2.2, zr_B V i⟩
theorem zr_b (V : zr_V w c P D B dl bf he de pr) : ∀ k, k < 7 → bf k = nI (B k) ∧ B k < 128 := fun k hk => ⟨V.2.2.2.2.1 k hk, zr_B V k⟩
theorem zr_p (V : zr_V w c P D B dl bf he de pr) : ∀ k, P.testBit k = true → pr k = nI (B k) ∧ B k < 128 := fun k hk => ⟨(V.2.2.2.1 k hk).2.2.2.2, zr_B V k⟩
theorem zr_x {s : Nat} {td' tb' : Nat → Int32} (V : zr_V w c P D B dl bf he de pr) (hs : s ≤ 8) (h1 : ∀ i, i < 7 → td' i = if nI s ≤ dl i then nI s else dl i) (h2 : ∀ i, i < 7 → tb' i = bf i) :
    xt_C P B (fun i => min (D i) s) td' tb' := by
  intro i hi'
  have h7 := tb_lt7 (zr_P V) hi'
  obtain ⟨v1, v2, v3, v4, v5⟩ := V.2.2.2.1 i hi'
  refine ⟨?_, (show min (D i) s ≤ 8 by omega), ?_⟩
  · rw [h1 i h7, v3]
    exact yf_xd (D i) (by omega) s (by omega)
  · rw [h2 i h7]
    exact V.2.2.2.2.1 i h7
theorem zr_x8 {td' tb' : Nat → Int32} (V : zr_V w c P D B dl bf he de pr) (h1 : ∀ i, i < 7 → td' i = if (8 : Int32) ≤ dl i then 8 else dl i) (h2 : ∀ i, i < 7 → tb' i = bf i) :
    xt_C P B D td' tb' := by
  intro i hi'
  have g := zr_x (s := 8) V (by omega) h1 h2 i hi'
  have e : min (D i) 8 = D i := by
    have := zr_8 V i hi'
    omega
  dsimp only at g
  rw [e] at g
  exact g
end
/-! the constructors -/
def zi_I (x : Int32) (m n : Nat) : Prop := (1 ≤ x ∧ x ≤ nI m ∧ x = nI n) ∨ (1 ≤ x ∧ ¬ x ≤ nI m ∧ n = m) ∨ (¬ 1 ≤ x ∧ n = 1)
theorem zi_ex (x : Int32) {m : Nat} (hm : 1 ≤ m) (hm2 : m < 128) : ∃ n, 1 ≤ n ∧ n ≤ m ∧ zi_I x m n := by
  by_cases h1 : 1 ≤ x
  · by_cases h2 : x ≤ nI m
    · have h0 : ¬ x < 0 := by
        rw [Int32.lt_iff_toInt_lt]
        rw [Int32.le_iff_toInt_le] at h1
        have e0 : (0 : Int32).toInt = 0 := by decide
        have e1 : (1 : Int32).toInt = 1 := by decide
        omega
      obtain ⟨j, hj, e⟩ := nI_of h0
      have g1 : 1 ≤ j := by
        rw [e] at h1
        exact (nI_leI (a := 1) (by omega) hj).mp h1
      have g2 : j ≤ m := by
        rw [e] at h2
        exact (nI_leI hj (by omega)).mp h2
      exact ⟨j, g1, g2, Or.inl ⟨h1, h2, e⟩⟩
    · exact ⟨m, hm, Nat.le_refl _, Or.inr (Or.inl ⟨h1, h2, rfl⟩)⟩
  · exact ⟨1, Nat.le_refl _, hm, Or.inr (Or.inr ⟨h1, rfl⟩)⟩
theorem zi_x {post : Int32 → Prop} {x : Int32} {m n : Nat} (h : zi_I x m n) (hp : post (nI n)) : wpX_clamp post x (nI m) := by
  rcases h with ⟨h1, h2, e⟩ | ⟨h1, h2, e⟩ | ⟨h1, e⟩
  · exact br_t h1 (br_t h2 (by rw [e]; exact hp))
  · exact br_t h1 (br_f h2 (by rw [← e]; exact hp))
  · rw [e] at hp
    exact br_f h1 hp
theorem zi_y7 {post : SY → Prop} {x : Int32} {n m : Nat} (h : zi_I x 7 n) (hp : post (nI m, nI n, 0, (fun _ => 0), (fun _ => 0), (fun _ => 0), (fun _ => 0), (fun _ => 0), (fun _ => 0))) :
    wY_init_73 post x (nI m) 0 0 0 (fun _ => 0) (fun _ => 0) (fun _ => 0) (fun _ => 0) (fun _ => 0) (fun _ => 0) := by
  rcases h with ⟨h1, h2, e⟩ | ⟨h1, h2, e⟩ | ⟨h1, e⟩
  · exact br_t h1 (br_t h2 (by rw [e]; exact hp))
  · rw [e] at hp
    exact br_t h1 (br_f h2 hp)
  · rw [e] at hp
    exact br_f h1 hp
theorem zi_y {post : SY → Prop} {x y : Int32} {n m : Nat} (g : zi_I x 2 m) (h : zi_I y 7 n) (hp : post (nI m, nI n, 0, (fun _ => 0), (fun _ => 0), (fun _ => 0), (fun _ => 0), (fun _ => 0), (fun _ => 0))) :
    wpY_init post x y := by
  rcases g with ⟨h1, h2, e⟩ | ⟨h1, h2, e⟩ | ⟨h1, e⟩
  · subst e
    exact br_t h1 (br_t h2 (zi_y7 h hp))
  · rw [e] at hp
    exact br_t h1 (br_f h2 (zi_y7 (m := 2) h hp))
  · rw [e] at hp
    exact br_f h1 (zi_y7 (m := 1) h hp)
theorem i_vc0 (k0 : Int32) (k1 : Int32) : wpX_init (fun u => wpY_init (fun v => i_Rel 2 u v) k0 k1) k0 k1 := by
  obtain ⟨m, m1, m2, hm⟩ := zi_ex k0 (m := 2) (by omega) (by omega)
  obtain ⟨n, n1, n2, hn⟩ := zi_ex k1 (m := 7) (by omega) (by omega)
  unfold wpX_init
  refine zi_x hm (zi_x hn (zi_y hm hn ?_))
  refine zr_mk (P := 0) (D := fun _ => 0) (B := fun _ => 0) ⟨by omega, ⟨n1, n2⟩, Nat.two_pow_pos n, fun i hi => absurd hi (tb_n0 i), fun _ _ => rfl, fun j i h => absurd h (tb_n0 i), fun _ _ => rfl, ?_, ?_⟩
  · intro i _
    rw [if_neg (tb_n0 i)]
  · exact tp_G_E (tp_G_e m 0 _ _ _)
