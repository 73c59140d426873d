/-! the class's methods, each against the pure picture, with a general post -/
theorem bp_xPair {post : Int32 → Prop} {c : Int32} {a b s w : Nat → Int32} {l r : Nat} (hl : l < 12) (hr : r < 12) (h1 : bp_p a b (12 * l + r) = true → post 1) (h0 : bp_p a b (12 * l + r) = false → post 0) : wpX_isPair post (c, a, b, s, w) (nI l) (nI r) := by
  unfold bp_p at h1 h0
  rw [bp_d hr, bp_m hr] at h1 h0
  unfold wpX_isPair wpX_slotOf
  dsimp only
  rw [bp_s0, bp_s1, nI_clamp (n := l) (by omega), nI_clamp (n := 12 + r) (by omega)]
  have il : vp_in (nI l) 24 := vp_in_nI (by omega) (by omega)
  have ir : vp_in (nI (12 + r)) 24 := vp_in_nI (by omega) (by omega)
  exact ⟨il, br_c (fun z => h0 (decide_eq_false (fun h => h.1 z))) (fun z => ⟨ir, br_c (fun z2 => h0 (decide_eq_false (fun h => h.2.1 z2))) (fun z2 => ⟨il, ir, br_c (fun z3 => h1 (decide_eq_true ⟨z, z2, z3⟩)) (fun z3 => h0 (decide_eq_false (fun h => z3 h.2.2)))⟩)⟩)⟩
theorem bp_xVal {post : Int32 → Prop} {c : Int32} {a b s w : Nat → Int32} {l r : Nat} (hl : l < 12) (hr : r < 12) (h : post (bp_v s w (12 * l + r))) : wpX_valueOf post (c, a, b, s, w) (nI l) (nI r) := by
  unfold bp_v at h
  rw [bp_d hr, bp_m hr] at h
  unfold wpX_valueOf wpX_slotOf
  dsimp only
  rw [bp_s0, bp_s1, nI_clamp (n := l) (by omega), nI_clamp (n := 12 + r) (by omega)]
  exact ⟨vp_in_nI (by omega) (by omega), vp_in_nI (by omega) (by omega), h⟩
theorem bp_xBef {post : Int32 → Prop} {c : Int32} {a b s w : Nat → Int32} {l r l2 r2 : Nat} (hl : l < 12) (hr : r < 12) (hl2 : l2 < 12) (hr2 : r2 < 12) (h1 : bp_b s w (12 * l + r) (12 * l2 + r2) = true → post 1) (h0 : bp_b s w (12 * l + r) (12 * l2 + r2) = false → post 0) : wpX_goesBefore post (c, a, b, s, w) (nI l) (nI r) (nI l2) (nI r2) := by
  unfold bp_b at h1 h0
  unfold wpX_goesBefore
  dsimp only
  refine bp_xVal hl hr (bp_xVal hl2 hr2 ?_)
  refine br_c (fun e => ?_) (fun e => ?_)
  · have hn : ¬ bp_v s w (12 * l2 + r2) < bp_v s w (12 * l + r) := by rw [e]; exact Int32.lt_irrefl
    refine pk_eq l l2 (fun z => pk_le r2 r (fun y => h0 (decide_eq_false ?_)) (fun y => h1 (decide_eq_true (Or.inr ⟨e, by omega⟩)))) (fun z => pk_le l2 l (fun y => h0 (decide_eq_false ?_)) (fun y => h1 (decide_eq_true (Or.inr ⟨e, by omega⟩))))
    · rintro (h | h)
      · exact hn h
      · omega
    · rintro (h | h)
      · exact hn h
      · omega
  · refine br_c (fun z => h0 (decide_eq_false ?_)) (fun z => h1 (decide_eq_true (Or.inl (Int32.not_le.mp z))))
    rintro (h | h)
    · exact Int32.not_lt.mpr z h
    · exact e h.1
theorem bp_xPlace {post : Int32 → Prop} {c : Int32} {a b s w : Nat → Int32} {l r : Nat} (hl : l < 12) (hr : r < 12) (h : post (nI (bp_g a b s w (12 * l + r)))) : wpX_placeOf post (c, a, b, s, w) (nI l) (nI r) := by
  refine bp_nest (fun n k x => wX_placeOf_5 post (nI l) (nI r) c a b s w n x (nI k)) (fun n k m j x => wX_placeOf_15 post (wX_placeOf_5 post (nI l) (nI r) c a b s w n) (nI l) (nI r) (nI k) c a b s w m x (nI j)) (fun q x => x = nI (bp_cnt (bp_f a b s w (12 * l + r)) q)) 0 rfl ?_ ?_ ?_ ?_
  · intro n x hx
    exact br_t bp_ge12 (by rw [hx]; exact h)
  · intro n k x hk hm
    exact br_f (bp_lt12 hk) hm
  · intro n k m x hk hw
    exact br_t bp_ge12 (nm_r (nI_1 k) hw)
  · intro n k m j x hk hj hx nx
    refine br_f (bp_lt12 hj) (bp_xPair hk hj (fun hp => br_f bp_10 (bp_xBef hk hj hl hr (fun hb => br_f bp_10 ?_) (fun hb => br_t rfl ?_))) (fun hp => br_t rfl ?_))
    · refine nm_e (nm_r (nI_1 j) (nx _ ?_))
      have e : bp_f a b s w (12 * l + r) (12 * k + j) = true := by unfold bp_f; rw [hp, hb]; rfl
      rw [bp_c1 e, hx, nI_1]
    · refine nm_r (nI_1 j) (nx _ ?_)
      have e : bp_f a b s w (12 * l + r) (12 * k + j) = false := by unfold bp_f; rw [hp, hb]; rfl
      rw [bp_c0 e, hx]
    · refine nm_r (nI_1 j) (nx _ ?_)
      have e : bp_f a b s w (12 * l + r) (12 * k + j) = false := by unfold bp_f; rw [hp]; rfl
      rw [bp_c0 e, hx]
theorem bp_xAt {post : Int32 → Prop} {c : Int32} {a b s w : Nat → Int32} (x : Int32) (h1 : ∀ q, q < 144 → bp_r a b s w x q → (∀ o, o < q → ¬ bp_r a b s w x o) → post (nI (16 * (q / 12) + q % 12))) (h0 : (∀ q, q < 144 → ¬ bp_r a b s w x q) → post (-1)) : wpX_pairAt post (c, a, b, s, w) x := by
  refine bp_nest (σ := Unit) (fun n k _ => wX_pairAt_2 post x c a b s w n (nI k)) (fun n k m j _ => wX_pairAt_10 post (wX_pairAt_2 post x c a b s w n) x (nI k) c a b s w m (nI j)) (fun q _ => ∀ o, o < q → ¬ bp_r a b s w x o) () lt_0 ?_ ?_ ?_ ?_
  · intro n _ hx
    exact br_t bp_ge12 (h0 hx)
  · intro n k _ hk hm
    exact br_f (bp_lt12 hk) hm
  · intro n k m _ hk hw
    exact br_t bp_ge12 (nm_r (nI_1 k) hw)
  · intro n k m j _ hk hj hx nx
    refine br_f (bp_lt12 hj) (bp_xPair hk hj (fun hp => br_f bp_10 (bp_xPlace hk hj (br_c (fun e => ?_) (fun e => ?_)))) (fun hp => br_t rfl ?_))
    · have h := h1 (12 * k + j) (by omega) ⟨hp, e⟩ hx
      rw [bp_d hj, bp_m hj] at h
      rw [bp_sh]
      exact h
    · exact nm_r (nI_1 j) (nx () (lt_s hx (fun h => e h.2)))
    · exact nm_r (nI_1 j) (nx () (lt_s hx (fun h => by rw [h.1] at hp; cases hp)))
theorem bp_xPairs {post : Int32 → Prop} {c : Int32} {a b s w : Nat → Int32} (h : post (nI (bp_cnt (bp_p a b) 144))) : wpX_pairs post (c, a, b, s, w) := by
  refine bp_nest (fun n k x => wX_pairs_4 post c a b s w n x (nI k)) (fun n k m j x => wX_pairs_12 post (wX_pairs_4 post c a b s w n) (nI k) c a b s w m x (nI j)) (fun q x => x = nI (bp_cnt (bp_p a b) q)) 0 rfl ?_ ?_ ?_ ?_
  · intro n x hx
    exact br_t bp_ge12 (by rw [hx]; exact h)
  · intro n k x hk hm
    exact br_f (bp_lt12 hk) hm
  · intro n k m x hk hw
    exact br_t bp_ge12 (nm_r (nI_1 k) hw)
  · intro n k m j x hk hj hx nx
    refine br_f (bp_lt12 hj) (bp_xPair hk hj (fun hp => br_f bp_10 ?_) (fun hp => br_t rfl ?_))
    · exact nm_e (nm_r (nI_1 j) (nx _ (by rw [bp_c1 hp, hx, nI_1])))
    · exact nm_r (nI_1 j) (nx _ (by rw [bp_c0 hp, hx]))
def bp_h (a b s w : Nat → Int32) (y : Int32) : Nat → Bool := fun q => bp_p a b q && decide (¬ bp_v s w q < y)
theorem bp_xLeast {post : Int32 → Prop} {c : Int32} {a b s w : Nat → Int32} (y : Int32) (h : post (nI (bp_cnt (bp_h a b s w y) 144))) : wpX_atLeast post (c, a, b, s, w) y := by
  refine bp_nest (fun n k x => wX_atLeast_4 post y c a b s w n x (nI k)) (fun n k m j x => wX_atLeast_13 post (wX_atLeast_4 post y c a b s w n) y (nI k) c a b s w m x (nI j)) (fun q x => x = nI (bp_cnt (bp_h a b s w y) q)) 0 rfl ?_ ?_ ?_ ?_
  · intro n x hx
    exact br_t bp_ge12 (by rw [hx]; exact h)
  · intro n k x hk hm
    exact br_f (bp_lt12 hk) hm
  · intro n k m x hk hw
    exact br_t bp_ge12 (nm_r (nI_1 k) hw)
  · intro n k m j x hk hj hx nx
    refine br_f (bp_lt12 hj) (bp_xPair hk hj (fun hp => br_f bp_10 (bp_xVal hk hj (br_c (fun z => ?_) (fun z => ?_)))) (fun hp => br_t rfl ?_))
    · have e : bp_h a b s w y (12 * k + j) = false := by unfold bp_h; rw [hp, decide_eq_false (fun t => t z)]; rfl
      exact nm_r (nI_1 j) (nx _ (by rw [bp_c0 e, hx]))
    · have e : bp_h a b s w y (12 * k + j) = true := by unfold bp_h; rw [hp, decide_eq_true z]; rfl
      exact nm_e (nm_r (nI_1 j) (nx _ (by rw [bp_c1 e, hx, nI_1])))
    · have e : bp_h a b s w y (12 * k + j) = false := by unfold bp_h; rw [hp]; rfl
      exact nm_r (nI_1 j) (nx _ (by rw [bp_c0 e, hx]))
theorem bp_ix {x M : Int32} {n : Nat} (hM : M = nI n) (hn : n < 2 ^ 31) (h0 : ¬ x < 0) (h : ¬ M ≤ x) : ∃ j : Nat, j < n ∧ x = nI j := by
  rcases pk_ix x hn with z | z | z
  · exact absurd z h0
  · exact absurd (hM ▸ z) h
  · exact z
theorem bp_xEnt {post : Int32 → Prop} {c : Int32} {a b s w : Nat → Int32} (x y : Int32) (h1 : bp_E a x y → post 1) (h0 : ¬ bp_E a x y → post 0) : wpX_isEntry post (c, a, b, s, w) x y := by
  unfold wpX_isEntry wpX_isList wpX_slotOf
  dsimp only
  refine br_c (fun z => br_t rfl (h0 ?_)) (fun z => br_c (fun z2 => br_t rfl (h0 ?_)) (fun z2 => br_f bp_10 (br_c (fun z3 => h0 ?_) (fun z3 => br_c (fun z4 => h0 ?_) (fun z4 => ?_)))))
  · rintro ⟨L, i, hL, hi, rfl, rfl, hu⟩
    exact nI_pos (by omega) z
  · rintro ⟨L, i, hL, hi, rfl, rfl, hu⟩
    rw [bp_i2] at z2
    exact nI_ge hL (by omega) z2
  · rintro ⟨L, i, hL, hi, rfl, rfl, hu⟩
    exact nI_pos (by omega) z3
  · rintro ⟨L, i, hL, hi, rfl, rfl, hu⟩
    exact bp_lt12 hi z4
  · obtain ⟨L, hL, rfl⟩ := bp_ix bp_i2 (by omega) z z2
    obtain ⟨i, hi, rfl⟩ := bp_ix bp_i12 (by omega) z3 z4
    rw [bp_sl, nI_clamp (n := 12 * L + i) (by omega)]
    refine ⟨vp_in_nI (by omega) (by omega), br_c (fun t => h0 ?_) (fun t => h1 ⟨L, i, hL, hi, rfl, rfl, t⟩)⟩
    rintro ⟨L2, i2, hL2, hi2, e1, e2, hu⟩
    rw [nI_eq (by omega) (by omega)] at e1 e2
    subst e1 e2
    exact hu t
theorem bp_xFree {post : Int32 → Prop} {c : Int32} {a b s w : Nat → Int32} {L : Nat} (hL : L < 2) (h1 : ∀ i, i < 12 → a (12 * L + i) = 0 → (∀ j, j < i → ¬ a (12 * L + j) = 0) → post (nI i)) (h0 : (∀ j, j < 12 → ¬ a (12 * L + j) = 0) → post (-1)) : wpX_leastFree post (c, a, b, s, w) (nI L) := by
  refine loop_0 (σ := Unit) (fun n k _ => wX_leastFree_2 post (nI L) c a b s w n (nI k)) (fun i _ => ∀ j, j < i → ¬ a (12 * L + j) = 0) 12 () lt_0 ?_ ?_
  · intro n _ hx
    exact br_t bp_ge12 (h0 hx)
  · intro n i _ hi hx nx
    refine br_f (bp_lt12 hi) (bp_xEnt _ _ (fun hE => br_f bp_10 (nm_r (nI_1 i) (nx () (lt_s hx ?_)))) (fun hE => br_t rfl (h1 i hi ?_ hx)))
    · obtain ⟨L2, i2, hL2, hi2, e1, e2, hu⟩ := hE
      rw [nI_eq (by omega) (by omega)] at e1 e2
      subst e1 e2
      exact hu
    · exact Classical.byContradiction (fun t => hE ⟨L, i, hL, hi, rfl, rfl, t⟩)
theorem bp_xBits {post : Int32 → Prop} {c : Int32} {a b s w : Nat → Int32} (y : Int32) (h : post (bp_bits (fun i => bp_E a y (nI i)) 12)) : wpX_entries post (c, a, b, s, w) y := by
  refine loop_0 (fun n k x => wX_entries_4 post y c a b s w n x (nI k)) (fun i x => x = bp_bits (fun i => bp_E a y (nI i)) i) 12 0 rfl ?_ ?_
  · intro n x hx
    exact br_t bp_ge12 (by rw [hx]; exact h)
  · intro n i x hi hx nx
    refine br_f (bp_lt12 hi) (bp_xEnt _ _ (fun hE => br_f bp_10 (nm_e (nm_r (nI_1 i) (nx _ ?_)))) (fun hE => br_t rfl (nm_r (nI_1 i) (nx _ ?_))))
    · rw [bp_bits1 (P := fun i => bp_E a y (nI i)) hE, hx]
    · rw [bp_bits0 (P := fun i => bp_E a y (nI i)) hE, hx]
