/-! what is owed: both sides keep the same arrays and the same cursor -/
def i_Rel (_ : Nat) (u : SX) (v : SY) : Prop := u = v
theorem i_up {k : Nat} {u : SX} {v : SY} (h : i_Rel k u v) : i_Rel (k + 4) u v := h
theorem i_vc0 : wpX_init (fun u => wpY_init (fun v => i_Rel 0 u v)) := by
  unfold wpX_init wpY_init
  intro x ex y ey z ez t et
  subst ex ey ez et
  exact rfl
theorem bp_xList {post : Int32 → Prop} (x : Int32) (h1 : ∀ L : Nat, L < 2 → x = nI L → post 1) (h0 : (∀ L : Nat, L < 2 → ¬ x = nI L) → post 0) : wpX_isList post x := by
  unfold wpX_isList
  refine br_c (fun z => h0 ?_) (fun z => br_c (fun z2 => h0 ?_) (fun z2 => ?_))
  · intro L hL e
    subst e
    exact nI_pos (by omega) z
  · intro L hL e
    subst e
    rw [bp_i2] at z2
    exact nI_ge hL (by omega) z2
  · obtain ⟨L, hL, e⟩ := bp_ix bp_i2 (by omega) z z2
    exact h1 L hL e
theorem bp_87 (x : Int32) : 8 ≤ x ↔ 7 < x := by
  rw [Int32.le_iff_toInt_le, Int32.lt_iff_toInt_lt, show (8 : Int32).toInt = 8 from by decide +kernel, show (7 : Int32).toInt = 7 from by decide +kernel]
  omega
theorem bp_yFree {post : Int32 → SY → Prop} {c : Int32} {a b s w : Nat → Int32} {L : Nat} {x y : Int32} (hL : L < 2) (h1 : ∀ i, i < 12 → a (12 * L + i) = 0 → (∀ j, j < i → ¬ a (12 * L + j) = 0) → post (nI i) (0, upd a (12 * L + i) (vp_nar .boolean 1), upd b (12 * L + i) x, upd s (12 * L + i) y, w)) (h0 : (∀ j, j < 12 → ¬ a (12 * L + j) = 0) → post (-2) (c, a, b, s, w)) : ∃ n, wY_enter_35 post (nI L) x y c a b s w n 0 := by
  refine loop_0 (σ := Unit) (fun n k _ => wY_enter_35 post (nI L) x y c a b s w n (nI k)) (fun i _ => ∀ j, j < i → ¬ a (12 * L + j) = 0) 12 () lt_0 ?_ ?_
  · intro n _ hx
    exact br_t bp_ge12 (h0 hx)
  · intro n i _ hi hx nx
    refine br_f (bp_lt12 hi) ?_
    have hin : vp_in (nI (12 * L + i)) 24 := vp_in_nI (by omega) (by omega)
    rw [bp_sr, nI_clamp (n := 12 * L + i) (by omega)]
    refine ⟨hin, br_c (fun z => ⟨hin, nm_e ⟨hin, nm_e ⟨hin, nm_e (h1 i hi z hx)⟩⟩⟩) (fun z => nm_r (nI_1 i) (nx () (lt_s hx z)))⟩
theorem i_vc_enter {k : Nat} {u : SX} {v : SY} (I : i_Rel k u v) (hk : k + 4 ≤ 2048) (v1 : Int32) (v2 : Int32) (v3 : Int32) : wpX_enter (fun r u' => wpY_enter (fun r' v' => r' = r ∧ i_Rel (k + 4) u' v') v v1 v2 v3) u v1 v2 v3 := by
  cases I
  obtain ⟨c, a, b, s, w⟩ := u
  unfold wpX_enter wpY_enter
  dsimp only
  refine bp_xList v1 (fun L hL e => br_f bp_10 ?_) (fun z => br_t rfl (bp_yList (fun L hL e => absurd e (z L hL)) (fun _ => ⟨rfl, rfl⟩)))
  subst e
  unfold wpX_isKey
  refine br_c (fun z => br_t rfl (bp_yList (fun _ _ _ => br_t z ⟨rfl, rfl⟩) (fun t => absurd rfl (t L hL)))) (fun z => br_c (fun z2 => br_t rfl (bp_yList (fun _ _ _ => br_f z (br_t ((bp_87 v2).mp z2) ⟨rfl, rfl⟩)) (fun t => absurd rfl (t L hL)))) (fun z2 => br_f bp_10 ?_))
  have z2' : ¬ 7 < v2 := fun t => z2 ((bp_87 v2).mpr t)
  unfold wpX_isScore
  refine br_c (fun y => br_t rfl (bp_yList (fun _ _ _ => br_f z (br_f z2' (br_t y ⟨rfl, rfl⟩))) (fun t => absurd rfl (t L hL)))) (fun y => br_c (fun y2 => br_t rfl (bp_yList (fun _ _ _ => br_f z (br_f z2' (br_f y (br_f (Int32.not_le.mpr y2) ⟨rfl, rfl⟩)))) (fun t => absurd rfl (t L hL)))) (fun y2 => br_f bp_10 ?_))
  have y2' : v3 ≤ 1000 := Int32.not_lt.mp y2
  refine bp_xFree hL (fun i hi hz hf => br_f (bp_nm1 (by omega)) ?_) (fun hf => br_t rfl ?_)
  · unfold wpX_slotOf
    rw [bp_sl]
    dsimp only
    rw [nI_clamp (n := 12 * L + i) (by omega)]
    have hin : vp_in (nI (12 * L + i)) 24 := vp_in_nI (by omega) (by omega)
    refine ⟨hin, nm_e ⟨hin, nm_e ⟨hin, nm_e ?_⟩⟩⟩
    refine bp_yList (fun _ _ _ => br_f z (br_f z2' (br_f y (br_t y2' (bp_yFree hL (fun j hj hz2 hf2 => ?_) (fun hf2 => absurd hz (hf2 i hi))))))) (fun t => absurd rfl (t L hL))
    have e : j = i := by
      rcases Nat.lt_trichotomy j i with t | t | t
      · exact absurd hz2 (hf j t)
      · exact t
      · exact absurd hz (hf2 i t)
    subst e
    exact ⟨rfl, rfl⟩
  · exact bp_yList (fun _ _ _ => br_f z (br_f z2' (br_f y (br_t y2' (bp_yFree hL (fun j hj hz2 hf2 => absurd hz2 (hf j hj)) (fun hf2 => ⟨rfl, rfl⟩)))))) (fun t => absurd rfl (t L hL))
theorem i_vc_remove {k : Nat} {u : SX} {v : SY} (I : i_Rel k u v) (hk : k + 4 ≤ 2048) (v1 : Int32) (v2 : Int32) : wpX_remove (fun r u' => wpY_remove (fun r' v' => r' = r ∧ i_Rel (k + 4) u' v') v v1 v2) u v1 v2 := by
  cases I
  obtain ⟨c, a, b, s, w⟩ := u
  unfold wpX_remove wpY_remove
  dsimp only
  refine bp_xEnt _ _ (fun hE => br_f bp_10 ?_) (fun hE => br_t rfl (bp_yEnt _ _ (fun t => absurd t hE) (fun _ => br_t rfl ⟨rfl, rfl⟩)))
  have hE' := hE
  obtain ⟨L, i, hL, hi, rfl, rfl, hu⟩ := hE'
  have hin : vp_in (nI (12 * L + i)) 24 := vp_in_nI (by omega) (by omega)
  unfold wpX_slotOf
  rw [bp_sl, bp_sr]
  exact ⟨hin, nm_e (bp_yEnt _ _ (fun _ => br_f bp_10 ⟨hin, nm_e ⟨rfl, rfl⟩⟩) (fun t => absurd hE t))⟩
theorem i_vc_rescore {k : Nat} {u : SX} {v : SY} (I : i_Rel k u v) (hk : k + 4 ≤ 2048) (v1 : Int32) (v2 : Int32) (v3 : Int32) : wpX_rescore (fun r u' => wpY_rescore (fun r' v' => r' = r ∧ i_Rel (k + 4) u' v') v v1 v2 v3) u v1 v2 v3 := by
  cases I
  obtain ⟨c, a, b, s, w⟩ := u
  unfold wpX_rescore wpY_rescore
  dsimp only
  refine bp_xEnt _ _ (fun hE => br_f bp_10 ?_) (fun hE => br_t rfl (bp_yEnt _ _ (fun t => absurd t hE) (fun _ => br_t rfl ⟨rfl, rfl⟩)))
  have hE' := hE
  obtain ⟨L, i, hL, hi, rfl, rfl, hu⟩ := hE'
  have hin : vp_in (nI (12 * L + i)) 24 := vp_in_nI (by omega) (by omega)
  unfold wpX_isScore
  refine br_c (fun y => br_t rfl (bp_yEnt _ _ (fun _ => br_f bp_10 (br_t y ⟨rfl, rfl⟩)) (fun t => absurd hE t))) (fun y => br_c (fun y2 => br_t rfl (bp_yEnt _ _ (fun _ => br_f bp_10 (br_f y (br_f (Int32.not_le.mpr y2) ⟨rfl, rfl⟩))) (fun t => absurd hE t))) (fun y2 => br_f bp_10 ?_))
  unfold wpX_slotOf
  rw [bp_sl, bp_sr]
  exact ⟨hin, nm_e (bp_yEnt _ _ (fun _ => br_f bp_10 (br_f y (br_t (Int32.not_lt.mp y2) ⟨hin, nm_e ⟨rfl, rfl⟩⟩))) (fun t => absurd hE t))⟩
theorem i_vc_weigh {k : Nat} {u : SX} {v : SY} (I : i_Rel k u v) (hk : k + 4 ≤ 2048) (v1 : Int32) (v2 : Int32) : wpX_weigh (fun r u' => wpY_weigh (fun r' v' => r' = r ∧ i_Rel (k + 4) u' v') v v1 v2) u v1 v2 := by
  cases I
  obtain ⟨c, a, b, s, w⟩ := u
  unfold wpX_weigh wpY_weigh
  dsimp only
  refine bp_xList v1 (fun L hL e => br_f bp_10 ?_) (fun z => br_t rfl (bp_yList (fun L hL e => absurd e (z L hL)) (fun _ => ⟨rfl, rfl⟩)))
  subst e
  have hin : vp_in (nI L) 2 := vp_in_nI hL (by omega)
  exact br_c (fun z => bp_yList (fun _ _ _ => br_t z ⟨rfl, rfl⟩) (fun t => absurd rfl (t L hL))) (fun z => br_c (fun z2 => ⟨hin, nm_e (bp_yList (fun _ _ _ => br_f z (br_t z2 ⟨hin, nm_e ⟨rfl, rfl⟩⟩)) (fun t => absurd rfl (t L hL)))⟩) (fun z2 => bp_yList (fun _ _ _ => br_f z (br_f z2 ⟨rfl, rfl⟩)) (fun t => absurd rfl (t L hL))))
theorem i_vc_entries {k : Nat} {u : SX} {v : SY} (I : i_Rel k u v) (hk : k + 4 ≤ 2048) (v1 : Int32) : wpX_entries (fun r => wpY_entries (fun r' => r' = r ∧ i_Rel (k + 4) u v) v v1) u v1 := by
  cases I
  obtain ⟨c, a, b, s, w⟩ := u
  exact bp_xBits _ (bp_yBits _ ⟨rfl, rfl⟩)
theorem i_vc_score {k : Nat} {u : SX} {v : SY} (I : i_Rel k u v) (hk : k + 4 ≤ 2048) (v1 : Int32) (v2 : Int32) : wpX_score (fun r => wpY_score (fun r' => r' = r ∧ i_Rel (k + 4) u v) v v1 v2) u v1 v2 := by
  cases I
  obtain ⟨c, a, b, s, w⟩ := u
  unfold wpX_score wpY_score
  dsimp only
  refine bp_xEnt _ _ (fun hE => br_f bp_10 ?_) (fun hE => br_t rfl (bp_yEnt _ _ (fun t => absurd t hE) (fun _ => br_t rfl ⟨rfl, rfl⟩)))
  have hE' := hE
  obtain ⟨L, i, hL, hi, rfl, rfl, hu⟩ := hE'
  have hin : vp_in (nI (12 * L + i)) 24 := vp_in_nI (by omega) (by omega)
  unfold wpX_slotOf
  rw [bp_sl, bp_sr]
  exact ⟨hin, bp_yEnt _ _ (fun _ => br_f bp_10 ⟨hin, rfl, rfl⟩) (fun t => absurd hE t)⟩
theorem bp_same {a b s w : Nat → Int32} {x : Int32} {p q : Nat} (hp : bp_r a b s w x p) (hq : bp_r a b s w x q) (lp : ∀ o, o < p → ¬ bp_r a b s w x o) (lq : ∀ o, o < q → ¬ bp_r a b s w x o) : p = q := by
  rcases Nat.lt_trichotomy p q with t | t | t
  · exact absurd hp (lq p t)
  · exact t
  · exact absurd hq (lp q t)
theorem i_vc_next {k : Nat} {u : SX} {v : SY} (I : i_Rel k u v) (hk : k + 4 ≤ 2048) : wpX_next (fun r u' => wpY_next (fun r' v' => r' = r ∧ i_Rel (k + 4) u' v') v) u := by
  cases I
  obtain ⟨c, a, b, s, w⟩ := u
  unfold wpX_next wpY_next
  dsimp only
  refine bp_xAt c (fun q hq hr hl => br_f (bp_nm1 (by omega)) (nm_e (bp_yRank c (fun p hp hr2 hl2 => ?_) (fun hn => absurd hr (hn q hq))))) (fun hn => br_t rfl (bp_yRank c (fun p hp hr2 hl2 => absurd hr2 (hn p hp)) (fun _ => br_f (by decide +kernel) (bp_yShow0 ⟨rfl, rfl⟩))))
  cases bp_same hr2 hr hl2 hl
  exact br_t (nI_pos' (by omega)) (bp_yShow hq ⟨rfl, rfl⟩)
theorem i_vc_passed {k : Nat} {u : SX} {v : SY} (I : i_Rel k u v) (hk : k + 4 ≤ 2048) : wpX_passed (fun r => wpY_passed (fun r' => r' = r ∧ i_Rel (k + 4) u v) v) u := by
  cases I
  exact ⟨rfl, rfl⟩
theorem i_vc_lastValue {k : Nat} {u : SX} {v : SY} (I : i_Rel k u v) (hk : k + 4 ≤ 2048) : wpX_lastValue (fun r => wpY_lastValue (fun r' => r' = r ∧ i_Rel (k + 4) u v) v) u := by
  cases I
  obtain ⟨c, a, b, s, w⟩ := u
  unfold wpX_lastValue wpY_lastValue
  dsimp only
  refine bp_xAt (c - 1) (fun q hq hr hl => br_f (bp_nm1 (by omega)) ⟨bp_16, bp_16, ?_⟩) (fun hn => br_t rfl (bp_yRank (c - 1) (fun p hp hr2 hl2 => absurd hr2 (hn p hp)) (fun _ => br_f (by decide +kernel) ⟨rfl, rfl⟩)))
  rw [bp_hm (q := 16 * (q / 12) + q % 12) (by omega), bp_hd (q := 16 * (q / 12) + q % 12) (by omega)]
  rw [show (16 * (q / 12) + q % 12) / 16 = q / 12 from by omega, show (16 * (q / 12) + q % 12) % 16 = q % 12 from by omega]
  refine bp_xVal (by omega) (by omega) (bp_yRank (c - 1) (fun p hp hr2 hl2 => ?_) (fun hn => absurd hr (hn q hq)))
  cases bp_same hr2 hr hl2 hl
  refine br_t (nI_pos' (by omega)) (bp_yVal hq ⟨?_, rfl⟩)
  rw [Nat.div_add_mod]
theorem i_vc_rewind {k : Nat} {u : SX} {v : SY} (I : i_Rel k u v) (hk : k + 4 ≤ 2048) : wpX_rewind (fun u' => wpY_rewind (fun v' => i_Rel (k + 4) u' v') v) u := by
  cases I
  exact rfl
theorem i_vc_pairAt {k : Nat} {u : SX} {v : SY} (I : i_Rel k u v) (hk : k + 4 ≤ 2048) (v1 : Int32) : wpX_pairAt (fun r => wpY_pairAt (fun r' => r' = r ∧ i_Rel (k + 4) u v) v v1) u v1 := by
  cases I
  obtain ⟨c, a, b, s, w⟩ := u
  unfold wpY_pairAt
  dsimp only
  refine bp_xAt v1 (fun q hq hr hl => bp_yRank v1 (fun p hp hr2 hl2 => ?_) (fun hn => absurd hr (hn q hq))) (fun hn => bp_yRank v1 (fun p hp hr2 hl2 => absurd hr2 (hn p hp)) (fun _ => bp_yShow0 ⟨rfl, rfl⟩))
  cases bp_same hr2 hr hl2 hl
  exact bp_yShow hq ⟨rfl, rfl⟩
theorem i_vc_pairs {k : Nat} {u : SX} {v : SY} (I : i_Rel k u v) (hk : k + 4 ≤ 2048) : wpX_pairs (fun r => wpY_pairs (fun r' => r' = r ∧ i_Rel (k + 4) u v) v) u := by
  cases I
  obtain ⟨c, a, b, s, w⟩ := u
  exact bp_xPairs (bp_yPairs ⟨rfl, rfl⟩)
theorem i_vc_atLeast {k : Nat} {u : SX} {v : SY} (I : i_Rel k u v) (hk : k + 4 ≤ 2048) (v1 : Int32) : wpX_atLeast (fun r => wpY_atLeast (fun r' => r' = r ∧ i_Rel (k + 4) u v) v v1) u v1 := by
  cases I
  obtain ⟨c, a, b, s, w⟩ := u
  exact bp_xLeast _ (bp_yLeast _ ⟨rfl, rfl⟩)
theorem i_vc_bestPlace {k : Nat} {u : SX} {v : SY} (I : i_Rel k u v) (hk : k + 4 ≤ 2048) (v1 : Int32) (v2 : Int32) : wpX_bestPlace (fun r => wpY_bestPlace (fun r' => r' = r ∧ i_Rel (k + 4) u v) v v1 v2) u v1 v2 := by
  cases I
  obtain ⟨c, a, b, s, w⟩ := u
  unfold wpX_bestPlace
  dsimp only
  refine bp_xEnt _ _ (fun hE => br_f bp_10 ?_) (fun hE => br_t rfl (bp_yBest0 hE ⟨rfl, rfl⟩))
  have hE' := hE
  obtain ⟨L, i, hL, hi, rfl, rfl, hu⟩ := hE'
  exact bp_xBest hL hi (fun x hx => bp_yBest hL hi hE (fun y hy => ⟨bp_min_one hy hx, rfl⟩))
