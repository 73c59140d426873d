/-! the reference's methods, each against the same pure picture -/
theorem bp_yPair {post : Int32 → Prop} {c : Int32} {a b s w : Nat → Int32} {q : Nat} (hq : q < 144) (h1 : bp_p a b q = true → post 1) (h0 : bp_p a b q = false → post 0) : wpY_pair post (c, a, b, s, w) (nI q) := by
  unfold bp_p at h1 h0
  unfold wpY_pair
  dsimp only
  have il : vp_in (nI (q / 12)) 24 := vp_in_nI (by omega) (by omega)
  have ir : vp_in (nI (12 + q % 12)) 24 := vp_in_nI (by omega) (by omega)
  refine ⟨bp_12, nm_r (bp_qd (by omega)) ⟨bp_12, nm_r (bp_qm2 (by omega)) ?_⟩⟩
  rw [nI_clamp (n := q / 12) (by omega), nI_clamp (n := 12 + q % 12) (by omega)]
  exact ⟨il, br_c (fun z => h0 (decide_eq_false (fun h => h.1 z))) (fun z => ⟨ir, br_c (fun z2 => h0 (decide_eq_false (fun h => h.2.1 z2))) (fun z2 => ⟨il, ir, br_c (fun z3 => h1 (decide_eq_true ⟨z, z2, z3⟩)) (fun z3 => h0 (decide_eq_false (fun h => z3 h.2.2)))⟩)⟩)⟩
theorem bp_yVal {post : Int32 → Prop} {c : Int32} {a b s w : Nat → Int32} {q : Nat} (hq : q < 144) (h : post (bp_v s w q)) : wpY_value post (c, a, b, s, w) (nI q) := by
  unfold bp_v at h
  unfold wpY_value
  dsimp only
  rw [bp_qm2 (q := q) (by omega), bp_qd (q := q) (by omega), nI_clamp (n := q / 12) (by omega), nI_clamp (n := 12 + q % 12) (by omega)]
  exact ⟨bp_12, vp_in_nI (by omega) (by omega), bp_12, vp_in_nI (by omega) (by omega), h⟩
theorem bp_yBef {post : Int32 → Prop} {c : Int32} {a b s w : Nat → Int32} {q : Nat} (hq : q < 144) (h : post (nI (bp_g a b s w q))) : wpY_before post (c, a, b, s, w) (nI q) := by
  unfold wpY_before
  dsimp only
  refine bp_yVal hq ?_
  refine loop_0 (fun n o x => wY_before_11 post (nI q) (bp_v s w q) c a b s w n x (nI o)) (fun o x => x = nI (bp_cnt (bp_f a b s w q) o)) 144 0 rfl ?_ ?_
  · intro n x hx
    exact br_t bp_ge144 (by rw [hx]; exact h)
  · intro n o x ho hx nx
    refine br_f (bp_lt144 ho) (bp_yPair ho (fun hp => br_f bp_10 (bp_yVal ho ?_)) (fun hp => br_t rfl ?_))
    · have e1 : bp_b s w o q = true → x + 1 = nI (bp_cnt (bp_f a b s w q) (o + 1)) := by
        intro hb
        have e : bp_f a b s w q o = true := by unfold bp_f; rw [hp, hb]; rfl
        rw [bp_c1 e, hx, nI_1]
      have e0 : bp_b s w o q = false → x = nI (bp_cnt (bp_f a b s w q) (o + 1)) := by
        intro hb
        have e : bp_f a b s w q o = false := by unfold bp_f; rw [hp, hb]; rfl
        rw [bp_c0 e, hx]
      unfold bp_b at e1 e0
      refine br_c (fun z => nm_e (nm_r (nI_1 o) (nx _ (e1 (decide_eq_true (Or.inl z)))))) (fun z => br_c (fun z2 => pk_le q o (fun z3 => nm_r (nI_1 o) (nx _ (e0 (decide_eq_false ?_)))) (fun z3 => nm_e (nm_r (nI_1 o) (nx _ (e1 (decide_eq_true (Or.inr ⟨z2, z3⟩))))))) (fun z2 => nm_r (nI_1 o) (nx _ (e0 (decide_eq_false ?_)))))
      · rintro (t | t)
        · exact z t
        · omega
      · rintro (t | t)
        · exact z t
        · exact z2 t.1
    · have e : bp_f a b s w q o = false := by unfold bp_f; rw [hp]; rfl
      exact nm_r (nI_1 o) (nx _ (by rw [bp_c0 e, hx]))
theorem bp_yRank {post : Int32 → Prop} {c : Int32} {a b s w : Nat → Int32} (x : Int32) (h1 : ∀ q, q < 144 → bp_r a b s w x q → (∀ o, o < q → ¬ bp_r a b s w x o) → post (nI q)) (h0 : (∀ q, q < 144 → ¬ bp_r a b s w x q) → post (-1)) : wpY_ranked post (c, a, b, s, w) x := by
  refine loop_0 (σ := Unit) (fun n q _ => wY_ranked_2 post x c a b s w n (nI q)) (fun q _ => ∀ o, o < q → ¬ bp_r a b s w x o) 144 () lt_0 ?_ ?_
  · intro n _ hx
    exact br_t bp_ge144 (h0 hx)
  · intro n q _ hq hx nx
    refine br_f (bp_lt144 hq) (bp_yPair hq (fun hp => br_f bp_10 (bp_yBef hq (br_c (fun e => ?_) (fun e => ?_)))) (fun hp => br_t rfl ?_))
    · exact h1 q hq ⟨hp, e⟩ hx
    · exact nm_r (nI_1 q) (nx () (lt_s hx (fun h => e h.2)))
    · exact nm_r (nI_1 q) (nx () (lt_s hx (fun h => by rw [h.1] at hp; cases hp)))
theorem bp_yPairs {post : Int32 → Prop} {c : Int32} {a b s w : Nat → Int32} (h : post (nI (bp_cnt (bp_p a b) 144))) : wpY_pairs post (c, a, b, s, w) := by
  refine loop_0 (fun n o x => wY_pairs_4 post c a b s w n x (nI o)) (fun o x => x = nI (bp_cnt (bp_p a b) o)) 144 0 rfl ?_ ?_
  · intro n x hx
    exact br_t bp_ge144 (by rw [hx]; exact h)
  · intro n o x ho hx nx
    refine br_f (bp_lt144 ho) (bp_yPair ho (fun hp => br_f bp_10 ?_) (fun hp => br_t rfl ?_))
    · exact nm_e (nm_r (nI_1 o) (nx _ (by rw [bp_c1 hp, hx, nI_1])))
    · exact nm_r (nI_1 o) (nx _ (by rw [bp_c0 hp, hx]))
theorem bp_yLeast {post : Int32 → Prop} {c : Int32} {a b s w : Nat → Int32} (y : Int32) (h : post (nI (bp_cnt (bp_h a b s w y) 144))) : wpY_atLeast post (c, a, b, s, w) y := by
  refine loop_0 (fun n o x => wY_atLeast_4 post y c a b s w n x (nI o)) (fun o x => x = nI (bp_cnt (bp_h a b s w y) o)) 144 0 rfl ?_ ?_
  · intro n x hx
    exact br_t bp_ge144 (by rw [hx]; exact h)
  · intro n o x ho hx nx
    refine br_f (bp_lt144 ho) (bp_yPair ho (fun hp => br_f bp_10 (bp_yVal ho (br_c (fun z => ?_) (fun z => ?_)))) (fun hp => br_t rfl ?_))
    · have e : bp_h a b s w y o = false := by unfold bp_h; rw [hp, decide_eq_false (fun t => t z)]; rfl
      exact nm_r (nI_1 o) (nx _ (by rw [bp_c0 e, hx]))
    · have e : bp_h a b s w y o = true := by unfold bp_h; rw [hp, decide_eq_true z]; rfl
      exact nm_e (nm_r (nI_1 o) (nx _ (by rw [bp_c1 e, hx, nI_1])))
    · have e : bp_h a b s w y o = false := by unfold bp_h; rw [hp]; rfl
      exact nm_r (nI_1 o) (nx _ (by rw [bp_c0 e, hx]))
theorem bp_L01 {L : Nat} (h : L < 2) : nI L = 0 ∨ (¬ nI L = 0 ∧ nI L = 1) := by
  rcases (by omega : L = 0 ∨ L = 1) with rfl | rfl
  · exact Or.inl nI_0
  · exact Or.inr (by decide +kernel)
theorem bp_01L {x : Int32} (h : x = 0 ∨ x = 1) : ∃ L : Nat, L < 2 ∧ x = nI L := by
  rcases h with rfl | rfl
  · exact ⟨0, by omega, nI_0.symm⟩
  · exact ⟨1, by omega, by decide +kernel⟩
/-- the reference's 'list == 0 || list == 1' in one -/
theorem bp_yList {x : Int32} {A B : Prop} (h1 : ∀ L : Nat, L < 2 → x = nI L → A) (h0 : (∀ L : Nat, L < 2 → ¬ x = nI L) → B) : (x = 0 → A) ∧ (¬ x = 0 → ((x = 1 → A) ∧ (¬ x = 1 → B))) := by
  refine br_c (fun z => ?_) (fun z => br_c (fun z2 => ?_) (fun z2 => ?_))
  · obtain ⟨L, hL, e⟩ := bp_01L (Or.inl z)
    exact h1 L hL e
  · obtain ⟨L, hL, e⟩ := bp_01L (Or.inr z2)
    exact h1 L hL e
  · refine h0 (fun L hL e => ?_)
    subst e
    rcases bp_L01 hL with t | t
    · exact z t
    · exact z2 t.2
theorem bp_yEnt {post : Int32 → Prop} {c : Int32} {a b s w : Nat → Int32} (x y : Int32) (h1 : bp_E a x y → post 1) (h0 : ¬ bp_E a x y → post 0) : wpY_entry post (c, a, b, s, w) x y := by
  unfold wpY_entry
  dsimp only
  refine bp_yList (fun L hL e => ?_) (fun z => h0 ?_)
  · subst e
    refine br_c (fun z3 => h0 ?_) (fun z3 => br_c (fun z4 => h0 ?_) (fun z4 => ?_))
    · rintro ⟨L, i, hL, hi, e, rfl, hu⟩
      exact nI_pos (by omega) z3
    · rintro ⟨L, i, hL, hi, e, rfl, hu⟩
      exact bp_lt12 hi z4
    · obtain ⟨i, hi, rfl⟩ := bp_ix bp_i12 (by omega) z3 z4
      rw [bp_sr, nI_clamp (n := 12 * L + i) (by omega)]
      refine ⟨vp_in_nI (by omega) (by omega), br_c (fun t => h0 ?_) (fun t => h1 ⟨L, i, hL, hi, rfl, rfl, t⟩)⟩
      rintro ⟨L2, i2, hL2, hi2, e1, e2, hu⟩
      rw [nI_eq (by omega) (by omega)] at e1 e2
      subst e1 e2
      exact hu t
  · rintro ⟨L, i, hL, hi, e, _, hu⟩
    exact z L hL e
theorem bp_yBits {post : Int32 → Prop} {c : Int32} {a b s w : Nat → Int32} (y : Int32) (h : post (bp_bits (fun i => bp_E a y (nI i)) 12)) : wpY_entries post (c, a, b, s, w) y := by
  refine loop_0 (fun n k x => wY_entries_4 post y c a b s w n x (nI k)) (fun i x => x = bp_bits (fun i => bp_E a y (nI i)) i) 12 0 rfl ?_ ?_
  · intro n x hx
    exact br_t bp_ge12 (by rw [hx]; exact h)
  · intro n i x hi hx nx
    refine br_f (bp_lt12 hi) (bp_yEnt _ _ (fun hE => br_f bp_10 (nm_e (nm_r (nI_1 i) (nx _ ?_)))) (fun hE => br_t rfl (nm_r (bp_or0 x) (nm_r (nI_1 i) (nx _ ?_)))))
    · rw [bp_bits1 (P := fun i => bp_E a y (nI i)) hE, hx]
    · rw [bp_bits0 (P := fun i => bp_E a y (nI i)) hE, hx]
theorem bp_yShow {post : Int32 → Prop} {v : SY} {q : Nat} (hq : q < 144) (h : post (nI (16 * (q / 12) + q % 12))) : wpY_shown post v (nI q) := by
  obtain ⟨c, a, b, s, w⟩ := v
  unfold wpY_shown
  dsimp only
  refine br_t (nI_pos' (by omega)) ⟨bp_12, bp_12, ?_⟩
  rw [bp_qm (q := q) (by omega), bp_qd (q := q) (by omega), bp_sh]
  exact h
theorem bp_yShow0 {post : Int32 → Prop} {v : SY} (h : post (-1)) : wpY_shown post v (-1) := by
  obtain ⟨c, a, b, s, w⟩ := v
  exact br_f (by decide +kernel) h
