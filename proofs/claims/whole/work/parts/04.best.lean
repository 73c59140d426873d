/-! bestPlace: both sides find the least place over the same pairs -/
def bp_M (a b : Nat → Int32) (L i : Nat) (q : Nat) : Prop := q < 144 ∧ bp_p a b q = true ∧ (if L = 0 then q / 12 else q % 12) = i
/-- the pair of entry i of list L with entry o of the other list -/
def bp_o (L i o : Nat) : Nat := if L = 0 then 12 * i + o else 12 * o + i
theorem bp_x45 {post : Int32 → Prop} {J : Int32 → Int32 → Prop} {x1 x2 x : Int32} {c : Int32} {a b s w : Nat → Int32} {o l r : Nat} (hl : l < 12) (hr : r < 12) (h0 : bp_p a b (12 * l + r) = false → J x (nI (o + 1))) (h1 : bp_p a b (12 * l + r) = true → x = -1 → J (nI (bp_g a b s w (12 * l + r))) (nI (o + 1))) (h2 : bp_p a b (12 * l + r) = true → ¬ x = -1 → x ≤ nI (bp_g a b s w (12 * l + r)) → J x (nI (o + 1))) (h3 : bp_p a b (12 * l + r) = true → ¬ x = -1 → ¬ x ≤ nI (bp_g a b s w (12 * l + r)) → J (nI (bp_g a b s w (12 * l + r))) (nI (o + 1))) : wX_bestPlace_45 post J x1 x2 x (nI o) (nI l) (nI r) c a b s w := by
  unfold wX_bestPlace_45
  exact bp_xPair hl hr (fun hp => br_f bp_10 (bp_xPlace hl hr (br_c (fun z => nm_r (nI_1 o) (h1 hp z)) (fun z => br_c (fun z2 => nm_r (nI_1 o) (h2 hp z z2)) (fun z2 => nm_r (nI_1 o) (h3 hp z z2)))))) (fun hp => br_t rfl (nm_r (nI_1 o) (h0 hp)))
theorem bp_xBest {post : Int32 → Prop} {c : Int32} {a b s w : Nat → Int32} {L i : Nat} (hL : L < 2) (hi : i < 12) (h : ∀ x, bp_min (bp_M a b L i) (bp_g a b s w) x → post x) : ∃ n, wX_bestPlace_16 post (nI L) (nI i) c a b s w n (-1) 0 := by
  refine loop_0 (fun n o x => wX_bestPlace_16 post (nI L) (nI i) c a b s w n x (nI o)) (fun o x => bp_min (fun q => ∃ p, p < o ∧ q = bp_o L i p ∧ bp_p a b q = true) (bp_g a b s w) x) 12 (-1) (bp_min_0 ?_) ?_ ?_
  · rintro q ⟨p, hp, _⟩
    omega
  · intro n x hx
    refine br_t bp_ge12 (h x (bp_min_keep hx (fun q => ?_)))
    constructor
    · rintro ⟨hq, hp, e⟩
      by_cases z : L = 0
      · rw [if_pos z] at e
        exact ⟨q % 12, by omega, by unfold bp_o; rw [if_pos z]; omega, hp⟩
      · rw [if_neg z] at e
        exact ⟨q / 12, by omega, by unfold bp_o; rw [if_neg z]; omega, hp⟩
    · rintro ⟨p, hp, e, hq⟩
      unfold bp_o at e
      by_cases z : L = 0
      · rw [if_pos z] at e
        exact ⟨by omega, hq, by rw [if_pos z]; omega⟩
      · rw [if_neg z] at e
        exact ⟨by omega, hq, by rw [if_neg z]; omega⟩
  · intro n o x ho hx nx
    have kp : bp_p a b (bp_o L i o) = false → bp_min (fun q => ∃ p, p < o + 1 ∧ q = bp_o L i p ∧ bp_p a b q = true) (bp_g a b s w) x := by
      intro hp
      refine bp_min_keep hx (fun q => ⟨?_, ?_⟩)
      · rintro ⟨p, h1, h2, h3⟩
        by_cases e : p = o
        · subst e; rw [h2, hp] at h3; cases h3
        · exact ⟨p, by omega, h2, h3⟩
      · rintro ⟨p, h1, h2, h3⟩
        exact ⟨p, by omega, h2, h3⟩
    have nw : bp_p a b (bp_o L i o) = true → ∀ q, (∃ p, p < o + 1 ∧ q = bp_o L i p ∧ bp_p a b q = true) ↔ ((∃ p, p < o ∧ q = bp_o L i p ∧ bp_p a b q = true) ∨ q = bp_o L i o) := by
      intro hp q
      constructor
      · rintro ⟨p, h1, h2, h3⟩
        by_cases e : p = o
        · subst e; exact Or.inr h2
        · exact Or.inl ⟨p, by omega, h2, h3⟩
      · rintro (⟨p, h1, h2, h3⟩ | e)
        · exact ⟨p, by omega, h2, h3⟩
        · exact ⟨o, by omega, e, by rw [e]; exact hp⟩
    have hg := bp_gl a b s w
    refine br_f (bp_lt12 ho) ?_
    by_cases z : L = 0
    · have hz : nI L = 0 := by rw [z]; exact nI_0
      have eo : bp_o L i o = 12 * i + o := if_pos z
      rw [eo] at kp nw
      exact br_t hz (br_t hz (bp_x45 hi ho (fun hp => nx _ (kp hp)) (fun hp y => nx _ (bp_min_new _ hx (nw hp) y hg)) (fun hp y y2 => nx _ (bp_min_old _ hx (nw hp) y y2 hg)) (fun hp y y2 => nx _ (bp_min_put _ hx (nw hp) y y2 hg))))
    · have hz : ¬ nI L = 0 := nI_ne0 (by omega) (by omega)
      have eo : bp_o L i o = 12 * o + i := if_neg z
      rw [eo] at kp nw
      exact br_f hz (br_f hz (bp_x45 ho hi (fun hp => nx _ (kp hp)) (fun hp y => nx _ (bp_min_new _ hx (nw hp) y hg)) (fun hp y y2 => nx _ (bp_min_old _ hx (nw hp) y y2 hg)) (fun hp y y2 => nx _ (bp_min_put _ hx (nw hp) y y2 hg))))
theorem bp_y48 {post : Int32 → Prop} {J : Int32 → Int32 → Prop} {x1 x : Int32} {c : Int32} {a b s w : Nat → Int32} {i q z : Nat} (hq : q < 144) (hi : i < 12) (hz : z < 144) (h0 : ¬ z = i → J x (nI (q + 1))) (h1 : z = i → x < 0 → J (nI (bp_g a b s w q)) (nI (q + 1))) (h2 : z = i → ¬ x < 0 → x ≤ nI (bp_g a b s w q) → J x (nI (q + 1))) (h3 : z = i → ¬ x < 0 → ¬ x ≤ nI (bp_g a b s w q) → J (nI (bp_g a b s w q)) (nI (q + 1))) : wY_bestPlace_48 post J x1 (nI i) x (nI q) (nI z) c a b s w := by
  unfold wY_bestPlace_48
  exact pk_eq z i (fun e => bp_yBef hq (br_c (fun y => nm_r (nI_1 q) (h1 e y)) (fun y => br_c (fun y2 => nm_r (nI_1 q) (h2 e y y2)) (fun y2 => nm_r (nI_1 q) (h3 e y y2))))) (fun e => nm_r (nI_1 q) (h0 e))
theorem bp_yBest {post : Int32 → Prop} {c : Int32} {a b s w : Nat → Int32} {L i : Nat} (hL : L < 2) (hi : i < 12) (hE : bp_E a (nI L) (nI i)) (h : ∀ x, bp_min (bp_M a b L i) (bp_g a b s w) x → post x) : wpY_bestPlace post (c, a, b, s, w) (nI L) (nI i) := by
  refine loop_0 (fun n o x => wY_bestPlace_5 post (nI L) (nI i) c a b s w n x (nI o)) (fun o x => bp_min (fun q => q < o ∧ bp_p a b q = true ∧ (if L = 0 then q / 12 else q % 12) = i) (bp_g a b s w) x) 144 (-1) (bp_min_0 ?_) ?_ ?_
  · rintro q ⟨hp, _⟩
    omega
  · intro n x hx
    exact br_t bp_ge144 (h x hx)
  · intro n o x ho hx nx
    have kp : ¬ (bp_p a b o = true ∧ (if L = 0 then o / 12 else o % 12) = i) → bp_min (fun q => q < o + 1 ∧ bp_p a b q = true ∧ (if L = 0 then q / 12 else q % 12) = i) (bp_g a b s w) x := by
      intro hp
      refine bp_min_keep hx (fun q => ⟨?_, ?_⟩)
      · rintro ⟨h1, h2, h3⟩
        by_cases e : q = o
        · subst e; exact absurd ⟨h2, h3⟩ hp
        · exact ⟨by omega, h2, h3⟩
      · rintro ⟨h1, h2, h3⟩
        exact ⟨by omega, h2, h3⟩
    have nw : bp_p a b o = true → (if L = 0 then o / 12 else o % 12) = i → ∀ q, (q < o + 1 ∧ bp_p a b q = true ∧ (if L = 0 then q / 12 else q % 12) = i) ↔ ((q < o ∧ bp_p a b q = true ∧ (if L = 0 then q / 12 else q % 12) = i) ∨ q = o) := by
      intro hp hm q
      constructor
      · rintro ⟨h1, h2, h3⟩
        by_cases e : q = o
        · exact Or.inr e
        · exact Or.inl ⟨by omega, h2, h3⟩
      · rintro (⟨h1, h2, h3⟩ | e)
        · exact ⟨by omega, h2, h3⟩
        · subst e; exact ⟨by omega, hp, hm⟩
    have hg := bp_gl a b s w
    have ng := bp_min_neg hg hx
    refine br_f (bp_lt144 ho) (bp_yEnt _ _ (fun _ => br_f bp_10 (bp_yPair ho (fun hp => br_f bp_10 ?_) (fun hp => br_t rfl (nm_r (nI_1 o) (nx _ (kp (fun t => by rw [t.1] at hp; cases hp))))))) (fun hn => absurd hE hn))
    by_cases z : L = 0
    · have hz : nI L = 0 := by rw [z]; exact nI_0
      rw [if_pos z] at kp nw
      refine br_t hz ⟨bp_12, ?_⟩
      rw [bp_qd (q := o) (by omega)]
      exact bp_y48 ho hi (by omega) (fun e => nx _ (kp (fun t => e t.2))) (fun e y => nx _ (bp_min_new _ hx (nw hp e) (ng.mp y) hg)) (fun e y y2 => nx _ (bp_min_old _ hx (nw hp e) (fun t => y (ng.mpr t)) y2 hg)) (fun e y y2 => nx _ (bp_min_put _ hx (nw hp e) (fun t => y (ng.mpr t)) y2 hg))
    · have hz : ¬ nI L = 0 := nI_ne0 (by omega) (by omega)
      rw [if_neg z] at kp nw
      refine br_f hz ⟨bp_12, ?_⟩
      rw [bp_qm (q := o) (by omega)]
      exact bp_y48 ho hi (by omega) (fun e => nx _ (kp (fun t => e t.2))) (fun e y => nx _ (bp_min_new _ hx (nw hp e) (ng.mp y) hg)) (fun e y y2 => nx _ (bp_min_old _ hx (nw hp e) (fun t => y (ng.mpr t)) y2 hg)) (fun e y y2 => nx _ (bp_min_put _ hx (nw hp e) (fun t => y (ng.mpr t)) y2 hg))
theorem bp_yBest0 {post : Int32 → Prop} {c : Int32} {a b s w : Nat → Int32} {x y : Int32} (hE : ¬ bp_E a x y) (h : post (-1)) : wpY_bestPlace post (c, a, b, s, w) x y :=
  ⟨1, br_f (by decide +kernel) (bp_yEnt _ _ (fun t => absurd t hE) (fun _ => br_t rfl h))⟩
