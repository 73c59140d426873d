section
theorem pk_sub {a b : Nat} (h : b ≤ a) : nI a - nI b = nI (a - b) := by
  obtain ⟨c, rfl⟩ : ∃ c, a = c + b := ⟨a - b, by omega⟩
  rw [← nI_add, Int32.add_sub_cancel, Nat.add_sub_cancel]
theorem pk_mul (a b : Nat) : nI a * nI b = nI (a * b) := (Int32.ofNat_mul a b).symm
theorem pk_div {a d : Nat} (ha : a < 2 ^ 31) (h0 : 0 < d) (hd : d < 2 ^ 31) : nI a / nI d = nI (a / d) := by
  apply Int32.toInt_inj.mp
  rw [lg_idiv_nonneg (by rw [nI_toInt ha]; omega) (by rw [nI_toInt hd]; omega), nI_toInt ha, nI_toInt hd, nI_toInt (Nat.lt_of_le_of_lt (Nat.div_le_self a d) ha)]
  first | rfl | exact (Int.natCast_ediv _ _).symm
theorem pk_rem {a d : Nat} (ha : a < 2 ^ 31) (h0 : 0 < d) (hd : d < 2 ^ 31) : nI a - nI a / nI d * nI d = nI (a % d) := by
  rw [pk_div ha h0 hd, pk_mul, pk_sub (Nat.div_mul_le_self a d)]
  exact congrArg nI (by have := Nat.div_add_mod' a d; omega)
theorem pk_ix (x : Int32) {n : Nat} (hn : n < 2 ^ 31) : x < 0 ∨ nI n ≤ x ∨ ∃ j : Nat, j < n ∧ x = nI j := by
  by_cases h : x < 0
  · exact Or.inl h
  · obtain ⟨j, hj, rfl⟩ := nI_of h
    by_cases h2 : j < n
    · exact Or.inr (Or.inr ⟨j, h2, rfl⟩)
    · exact Or.inr (Or.inl (nI_le (by omega) hj))
theorem pk_le {x y : Int32} {A B : Prop} (a b : Nat) (f : a ≤ b → A) (g : b < a → B) (hx : x = nI a := by rfl) (hy : y = nI b := by rfl) (ha : a < 2 ^ 31 := by omega) (hb : b < 2 ^ 31 := by omega) : (x ≤ y → A) ∧ (¬ x ≤ y → B) := by
  subst hx hy
  rw [nI_leI ha hb]
  exact ⟨f, fun z => g (by omega)⟩
theorem pk_lt {x y : Int32} {A B : Prop} (a b : Nat) (f : a < b → A) (g : b ≤ a → B) (hx : x = nI a := by rfl) (hy : y = nI b := by rfl) (ha : a < 2 ^ 31 := by omega) (hb : b < 2 ^ 31 := by omega) : (x < y → A) ∧ (¬ x < y → B) := by
  subst hx hy
  rw [nI_ltI ha hb]
  exact ⟨f, fun z => g (by omega)⟩
theorem pk_eq {x y : Int32} {A B : Prop} (a b : Nat) (f : a = b → A) (g : a ≠ b → B) (hx : x = nI a := by rfl) (hy : y = nI b := by rfl) (ha : a < 2 ^ 31 := by omega) (hb : b < 2 ^ 31 := by omega) : (x = y → A) ∧ (¬ x = y → B) := by
  subst hx hy
  rw [nI_eq ha hb]
  exact ⟨f, g⟩
theorem pk_in {x : Int32} (n N : Nat) (h : n < N) (hx : x = nI n := by rfl) (hN : N < 2 ^ 31 := by omega) : vp_in x N := by
  subst hx
  exact vp_in_nI h hN
theorem pk_cl {x : Int32} (n : Nat) (hx : x = nI n := by rfl) (h : n < 2 ^ 31 := by omega) : x.toNatClampNeg = n := by
  subst hx
  exact nI_clamp h
/-! the pure picture: pair q = 12 l + r of the entries l and r -/
def bp_p (a b : Nat → Int32) (q : Nat) : Bool := decide (¬ a (q / 12) = 0 ∧ ¬ a (12 + q % 12) = 0 ∧ b (q / 12) = b (12 + q % 12))
def bp_v (s w : Nat → Int32) (q : Nat) : Int32 := w 0 * s (q / 12) + w 1 * s (12 + q % 12)
def bp_b (s w : Nat → Int32) (q o : Nat) : Bool := decide (bp_v s w o < bp_v s w q ∨ (bp_v s w q = bp_v s w o ∧ q < o))
def bp_cnt (f : Nat → Bool) : Nat → Nat
  | 0 => 0
  | n + 1 => if f n = true then bp_cnt f n + 1 else bp_cnt f n
def bp_f (a b s w : Nat → Int32) (o : Nat) : Nat → Bool := fun q => bp_p a b q && bp_b s w q o
def bp_g (a b s w : Nat → Int32) (o : Nat) : Nat := bp_cnt (bp_f a b s w o) 144
def bp_r (a b s w : Nat → Int32) (x : Int32) (q : Nat) : Prop := bp_p a b q = true ∧ nI (bp_g a b s w q) = x
def bp_E (a : Nat → Int32) (x y : Int32) : Prop := ∃ L i : Nat, L < 2 ∧ i < 12 ∧ x = nI L ∧ y = nI i ∧ ¬ a (12 * L + i) = 0
theorem bp_c1 {f : Nat → Bool} {n : Nat} (h : f n = true) : bp_cnt f (n + 1) = bp_cnt f n + 1 := if_pos h
theorem bp_c0 {f : Nat → Bool} {n : Nat} (h : f n = false) : bp_cnt f (n + 1) = bp_cnt f n := if_neg (by rw [h]; decide)
theorem bp_cle (f : Nat → Bool) : ∀ n, bp_cnt f n ≤ n := by
  intro n
  induction n with
  | zero => exact Nat.le_refl 0
  | succ n ih =>
    cases h : f n with
    | true => rw [bp_c1 h]; omega
    | false => rw [bp_c0 h]; omega
theorem bp_gl (a b s w : Nat → Int32) (o : Nat) : bp_g a b s w o < 2 ^ 31 := by
  have h := bp_cle (bp_f a b s w o) 144
  unfold bp_g
  omega
theorem bp_d {l r : Nat} (hr : r < 12) : (12 * l + r) / 12 = l := by omega
theorem bp_m {l r : Nat} (hr : r < 12) : (12 * l + r) % 12 = r := by omega
theorem bp_10 : ¬ (1 : Int32) = 0 := by decide
theorem bp_12 : ¬ (12 : Int32) = 0 := by decide
theorem bp_16 : ¬ (16 : Int32) = 0 := by decide
theorem bp_i12 : (12 : Int32) = nI 12 := by decide +kernel
theorem bp_i144 : (144 : Int32) = nI 144 := by decide +kernel
theorem bp_i16 : (16 : Int32) = nI 16 := by decide +kernel
theorem bp_i2 : (2 : Int32) = nI 2 := by decide +kernel
theorem bp_lt12 {r : Nat} (h : r < 12) : ¬ (12 : Int32) ≤ nI r := by rw [bp_i12]; exact nI_ge h (by omega)
theorem bp_ge12 : (12 : Int32) ≤ nI 12 := by decide +kernel
theorem bp_lt144 {r : Nat} (h : r < 144) : ¬ (144 : Int32) ≤ nI r := by rw [bp_i144]; exact nI_ge h (by omega)
theorem bp_ge144 : (144 : Int32) ≤ nI 144 := by decide +kernel
theorem bp_s0 (l : Nat) : (0 : Int32) * 12 + nI l = nI l := by
  rw [show (0 : Int32) * 12 = nI 0 from by decide +kernel, nI_add, Nat.zero_add]
theorem bp_s1 (r : Nat) : (1 : Int32) * 12 + nI r = nI (12 + r) := by
  rw [show (1 : Int32) * 12 = nI 12 from by decide +kernel, nI_add]
theorem bp_sl (L i : Nat) : nI L * 12 + nI i = nI (12 * L + i) := by
  rw [bp_i12, pk_mul, nI_add, Nat.mul_comm]
theorem bp_sr (L i : Nat) : 12 * nI L + nI i = nI (12 * L + i) := by
  rw [bp_i12, pk_mul, nI_add]
theorem bp_sh (l r : Nat) : 16 * nI l + nI r = nI (16 * l + r) := by
  rw [bp_i16, pk_mul, nI_add]
theorem bp_qd {q : Nat} (h : q < 2 ^ 31) : nI q / 12 = nI (q / 12) := by
  rw [bp_i12]; exact pk_div h (by omega) (by omega)
theorem bp_qm {q : Nat} (h : q < 2 ^ 31) : nI q - nI q / 12 * 12 = nI (q % 12) := by
  rw [bp_i12]; exact pk_rem h (by omega) (by omega)
theorem bp_qm2 {q : Nat} (h : q < 2 ^ 31) : 12 + (nI q - nI q / 12 * 12) = nI (12 + q % 12) := by
  rw [bp_qm h, bp_i12, nI_add]
theorem bp_hd {q : Nat} (h : q < 2 ^ 31) : nI q / 16 = nI (q / 16) := by
  rw [bp_i16]; exact pk_div h (by omega) (by omega)
theorem bp_hm {q : Nat} (h : q < 2 ^ 31) : nI q - nI q / 16 * 16 = nI (q % 16) := by
  rw [bp_i16]; exact pk_rem h (by omega) (by omega)
theorem bp_nm1 {n : Nat} (h : n < 2 ^ 31) : ¬ nI n = -1 := by
  intro e
  have h1 := nI_toInt h
  rw [e, show (-1 : Int32).toInt = -1 from by decide +kernel] at h1
  omega
theorem bp_nest {σ : Type} (P : Nat → Nat → σ → Prop) (Q : Nat → Nat → Nat → Nat → σ → Prop) (I : Nat → σ → Prop) (s : σ) (h0 : I 0 s) (hx : ∀ n s, I 144 s → P (n + 1) 12 s) (ho : ∀ n l s, l < 12 → (∃ m, Q n l m 0 s) → P (n + 1) l s) (he : ∀ n l m s, l < 12 → P n (l + 1) s → Q n l (m + 1) 12 s) (hs : ∀ n l m r s, l < 12 → r < 12 → I (12 * l + r) s → (∀ s', I (12 * l + r + 1) s' → Q n l m (r + 1) s') → Q n l (m + 1) r s) : ∃ n, P n 0 s :=
  loop_0 P (fun l s => I (12 * l) s) 12 s h0 (fun n s h => hx n s h) (fun n l s hl hI next => ho n l s hl (loop_0 (fun m r s => Q n l m r s) (fun r s => I (12 * l + r) s) 12 s hI (fun m s h => he n l m s hl (next s h)) (fun m r s hr h nx => hs n l m r s hl hr h nx)))
/-! the least of g over the pairs of M; -1 where there is none -/
def bp_min (M : Nat → Prop) (g : Nat → Nat) (x : Int32) : Prop := (x = -1 ∧ ∀ q, ¬ M q) ∨ ∃ q, M q ∧ x = nI (g q) ∧ ∀ q', M q' → g q ≤ g q'
theorem bp_min_0 {M : Nat → Prop} {g : Nat → Nat} (h : ∀ q, ¬ M q) : bp_min M g (-1) := Or.inl ⟨rfl, h⟩
theorem bp_min_keep {M N : Nat → Prop} {g : Nat → Nat} {x : Int32} (h : bp_min M g x) (e : ∀ q, N q ↔ M q) : bp_min N g x := by
  rcases h with ⟨hx, h⟩ | ⟨q, hq, hx, h⟩
  · exact Or.inl ⟨hx, fun q hq => h q ((e q).mp hq)⟩
  · exact Or.inr ⟨q, (e q).mpr hq, hx, fun q' hq' => h q' ((e q').mp hq')⟩
theorem bp_min_neg {M : Nat → Prop} {g : Nat → Nat} {x : Int32} (hg : ∀ q, g q < 2 ^ 31) (h : bp_min M g x) : x < 0 ↔ x = -1 := by
  rcases h with ⟨hx, _⟩ | ⟨q, _, hx, _⟩
  · subst hx; exact ⟨fun _ => rfl, fun _ => by decide +kernel⟩
  · subst hx; exact ⟨fun z => absurd z (nI_pos (hg q)), fun z => absurd z (bp_nm1 (hg q))⟩
theorem bp_min_new {M N : Nat → Prop} {g : Nat → Nat} {x : Int32} (q0 : Nat) (h : bp_min M g x) (e : ∀ q, N q ↔ (M q ∨ q = q0)) (hx : x = -1) (hg : ∀ q, g q < 2 ^ 31) : bp_min N g (nI (g q0)) := by
  rcases h with ⟨_, h⟩ | ⟨q, _, hy, _⟩
  · refine Or.inr ⟨q0, (e q0).mpr (Or.inr rfl), rfl, fun q' hq' => ?_⟩
    rcases (e q').mp hq' with z | z
    · exact absurd z (h q')
    · rw [z]; exact Nat.le_refl _
  · exact absurd (hy.symm.trans hx) (bp_nm1 (hg q))
theorem bp_min_old {M N : Nat → Prop} {g : Nat → Nat} {x : Int32} (q0 : Nat) (h : bp_min M g x) (e : ∀ q, N q ↔ (M q ∨ q = q0)) (hx : ¬ x = -1) (hl : x ≤ nI (g q0)) (hg : ∀ q, g q < 2 ^ 31) : bp_min N g x := by
  rcases h with ⟨hy, _⟩ | ⟨q, hq, hy, h⟩
  · exact absurd hy hx
  · rw [hy, nI_leI (hg q) (hg q0)] at hl
    refine Or.inr ⟨q, (e q).mpr (Or.inl hq), hy, fun q' hq' => ?_⟩
    rcases (e q').mp hq' with z | z
    · exact h q' z
    · rw [z]; exact hl
theorem bp_min_put {M N : Nat → Prop} {g : Nat → Nat} {x : Int32} (q0 : Nat) (h : bp_min M g x) (e : ∀ q, N q ↔ (M q ∨ q = q0)) (hx : ¬ x = -1) (hl : ¬ x ≤ nI (g q0)) (hg : ∀ q, g q < 2 ^ 31) : bp_min N g (nI (g q0)) := by
  rcases h with ⟨hy, _⟩ | ⟨q, hq, hy, h⟩
  · exact absurd hy hx
  · rw [hy, nI_leI (hg q) (hg q0)] at hl
    refine Or.inr ⟨q0, (e q0).mpr (Or.inr rfl), rfl, fun q' hq' => ?_⟩
    rcases (e q').mp hq' with z | z
    · have := h q' z
      omega
    · rw [z]; exact Nat.le_refl _
theorem bp_min_one {M : Nat → Prop} {g : Nat → Nat} {x y : Int32} (h : bp_min M g x) (k : bp_min M g y) : x = y := by
  rcases h with ⟨hx, h⟩ | ⟨q, hq, hx, h⟩
  · rcases k with ⟨hy, _⟩ | ⟨q', hq', _, _⟩
    · rw [hx, hy]
    · exact absurd hq' (h q')
  · rcases k with ⟨_, k⟩ | ⟨q', hq', hy, k⟩
    · exact absurd hq (k q)
    · have h1 := h q' hq'
      have h2 := k q hq
      rw [hx, hy, Nat.le_antisymm h1 h2]
/-! the set's bits -/
noncomputable def bp_bits (P : Nat → Prop) : Nat → Int32
  | 0 => 0
  | n + 1 => @ite Int32 (P n) (Classical.propDecidable (P n)) (bp_bits P n ||| ((1 : Int32) <<< (nI n &&& 31))) (bp_bits P n)
theorem bp_bits1 {P : Nat → Prop} {n : Nat} (h : P n) : bp_bits P (n + 1) = bp_bits P n ||| ((1 : Int32) <<< (nI n &&& 31)) := if_pos h
theorem bp_bits0 {P : Nat → Prop} {n : Nat} (h : ¬ P n) : bp_bits P (n + 1) = bp_bits P n := if_neg h
theorem bp_or0 (x : Int32) : x ||| 0 = x := Int32.or_zero
end
section
/-! the class's methods, each against the pure picture, with a general post -/
theorem bp_xPair {post : Int32 → Prop} {c : Int32} {a b s w : Nat → Int32} {l r : Nat} (hl : l < 12) (hr : r < 12) (h1 : bp_p a b (12 * l + r) = true → post 1) (h0 : bp_p a b (12 * l + r) = false → post 0) : wpX_isPair post (c, a, b, s, w) (nI l) (nI r) := by
  unfold bp_p at h1 h0
  rw [bp_d hr, bp_m hr] at h1 h0
  unfold wpX_isPair wpX_slotOf
  dsimp only
  rw [bp_s0, bp_s1, nI_clamp (n := l) (by omega), nI_clamp (n := 12 + r) (by omega)]
  have il : vp_in (nI l) 24 := vp_in_nI (by omega) (by omega)
  have ir : vp_in (nI (12 + r)) 24 := vp_in_nI (by omega) (by omega)
  exact ⟨il, br_c (fun z => h0 (decide_eq_false (fun h => h.1 z))) (fun z => ⟨ir, br_c (fun z2 => h0 (decide_eq_false (fun h => h.2.1 z2))) (fun z2 => ⟨il, ir, br_c (fun z3 => h1 (decide_eq_true ⟨z, z2, z3⟩)) (fun z3 => h0 (decide_eq_false (fun h => z3 h.2.2)))⟩)⟩)⟩
theorem bp_xVal {post : Int32 → Prop} {c : Int32} {a b s w : Nat → Int32} {l r : Nat} (hl : l < 12) (hr : r < 12) (h : post (bp_v s w (12 * l + r))) : wpX_valueOf post (c, a, b, s, w) (nI l) (nI r) := by
  unfold bp_v at h
  rw [bp_d hr, bp_m hr] at h
  unfold wpX_valueOf wpX_slotOf
  dsimp only
  rw [bp_s0, bp_s1, nI_clamp (n := l) (by omega), nI_clamp (n := 12 + r) (by omega)]
  exact ⟨vp_in_nI (by omega) (by omega), vp_in_nI (by omega) (by omega), h⟩
theorem bp_xBef {post : Int32 → Prop} {c : Int32} {a b s w : Nat → Int32} {l r l2 r2 : Nat} (hl : l < 12) (hr : r < 12) (hl2 : l2 < 12) (hr2 : r2 < 12) (h1 : bp_b s w (12 * l + r) (12 * l2 + r2) = true → post 1) (h0 : bp_b s w (12 * l + r) (12 * l2 + r2) = false → post 0) : wpX_goesBefore post (c, a, b, s, w) (nI l) (nI r) (nI l2) (nI r2) := by
  unfold bp_b at h1 h0
  unfold wpX_goesBefore
  dsimp only
  refine bp_xVal hl hr (bp_xVal hl2 hr2 ?_)
  refine br_c (fun e => ?_) (fun e => ?_)
  · have hn : ¬ bp_v s w (12 * l2 + r2) < bp_v s w (12 * l + r) := by rw [e]; exact Int32.lt_irrefl
    refine pk_eq l l2 (fun z => pk_le r2 r (fun y => h0 (decide_eq_false ?_)) (fun y => h1 (decide_eq_true (Or.inr ⟨e, by omega⟩)))) (fun z => pk_le l2 l (fun y => h0 (decide_eq_false ?_)) (fun y => h1 (decide_eq_true (Or.inr ⟨e, by omega⟩))))
    · rintro (h | h)
      · exact hn h
      · omega
    · rintro (h | h)
      · exact hn h
      · omega
  · refine br_c (fun z => h0 (decide_eq_false ?_)) (fun z => h1 (decide_eq_true (Or.inl (Int32.not_le.mp z))))
    rintro (h | h)
    · exact Int32.not_lt.mpr z h
    · exact e h.1
theorem bp_xPlace {post : Int32 → Prop} {c : Int32} {a b s w : Nat → Int32} {l r : Nat} (hl : l < 12) (hr : r < 12) (h : post (nI (bp_g a b s w (12 * l + r)))) : wpX_placeOf post (c, a, b, s, w) (nI l) (nI r) := by
  refine bp_nest (fun n k x => wX_placeOf_5 post (nI l) (nI r) c a b s w n x (nI k)) (fun n k m j x => wX_placeOf_15 post (wX_placeOf_5 post (nI l) (nI r) c a b s w n) (nI l) (nI r) (nI k) c a b s w m x (nI j)) (fun q x => x = nI (bp_cnt (bp_f a b s w (12 * l + r)) q)) 0 rfl ?_ ?_ ?_ ?_
  · intro n x hx
    exact br_t bp_ge12 (by rw [hx]; exact h)
  · intro n k x hk hm
    exact br_f (bp_lt12 hk) hm
  · intro n k m x hk hw
    exact br_t bp_ge12 (nm_r (nI_1 k) hw)
  · intro n k m j x hk hj hx nx
    refine br_f (bp_lt12 hj) (bp_xPair hk hj (fun hp => br_f bp_10 (bp_xBef hk hj hl hr (fun hb => br_f bp_10 ?_) (fun hb => br_t rfl ?_))) (fun hp => br_t rfl ?_))
    · refine nm_e (nm_r (nI_1 j) (nx _ ?_))
      have e : bp_f a b s w (12 * l + r) (12 * k + j) = true := by unfold bp_f; rw [hp, hb]; rfl
      rw [bp_c1 e, hx, nI_1]
    · refine nm_r (nI_1 j) (nx _ ?_)
      have e : bp_f a b s w (12 * l + r) (12 * k + j) = false := by unfold bp_f; rw [hp, hb]; rfl
      rw [bp_c0 e, hx]
    · refine nm_r (nI_1 j) (nx _ ?_)
      have e : bp_f a b s w (12 * l + r) (12 * k + j) = false := by unfold bp_f; rw [hp]; rfl
      rw [bp_c0 e, hx]
theorem bp_xAt {post : Int32 → Prop} {c : Int32} {a b s w : Nat → Int32} (x : Int32) (h1 : ∀ q, q < 144 → bp_r a b s w x q → (∀ o, o < q → ¬ bp_r a b s w x o) → post (nI (16 * (q / 12) + q % 12))) (h0 : (∀ q, q < 144 → ¬ bp_r a b s w x q) → post (-1)) : wpX_pairAt post (c, a, b, s, w) x := by
  refine bp_nest (σ := Unit) (fun n k _ => wX_pairAt_2 post x c a b s w n (nI k)) (fun n k m j _ => wX_pairAt_10 post (wX_pairAt_2 post x c a b s w n) x (nI k) c a b s w m (nI j)) (fun q _ => ∀ o, o < q → ¬ bp_r a b s w x o) () lt_0 ?_ ?_ ?_ ?_
  · intro n _ hx
    exact br_t bp_ge12 (h0 hx)
  · intro n k _ hk hm
    exact br_f (bp_lt12 hk) hm
  · intro n k m _ hk hw
    exact br_t bp_ge12 (nm_r (nI_1 k) hw)
  · intro n k m j _ hk hj hx nx
    refine br_f (bp_lt12 hj) (bp_xPair hk hj (fun hp => br_f bp_10 (bp_xPlace hk hj (br_c (fun e => ?_) (fun e => ?_)))) (fun hp => br_t rfl ?_))
    · have h := h1 (12 * k + j) (by omega) ⟨hp, e⟩ hx
      rw [bp_d hj, bp_m hj] at h
      rw [bp_sh]
      exact h
    · exact nm_r (nI_1 j) (nx () (lt_s hx (fun h => e h.2)))
    · exact nm_r (nI_1 j) (nx () (lt_s hx (fun h => by rw [h.1] at hp; cases hp)))
theorem bp_xPairs {post : Int32 → Prop} {c : Int32} {a b s w : Nat → Int32} (h : post (nI (bp_cnt (bp_p a b) 144))) : wpX_pairs post (c, a, b, s, w) := by
  refine bp_nest (fun n k x => wX_pairs_4 post c a b s w n x (nI k)) (fun n k m j x => wX_pairs_12 post (wX_pairs_4 post c a b s w n) (nI k) c a b s w m x (nI j)) (fun q x => x = nI (bp_cnt (bp_p a b) q)) 0 rfl ?_ ?_ ?_ ?_
  · intro n x hx
    exact br_t bp_ge12 (by rw [hx]; exact h)
  · intro n k x hk hm
    exact br_f (bp_lt12 hk) hm
  · intro n k m x hk hw
    exact br_t bp_ge12 (nm_r (nI_1 k) hw)
  · intro n k m j x hk hj hx nx
    refine br_f (bp_lt12 hj) (bp_xPair hk hj (fun hp => br_f bp_10 ?_) (fun hp => br_t rfl ?_))
    · exact nm_e (nm_r (nI_1 j) (nx _ (by rw [bp_c1 hp, hx, nI_1])))
    · exact nm_r (nI_1 j) (nx _ (by rw [bp_c0 hp, hx]))
def bp_h (a b s w : Nat → Int32) (y : Int32) : Nat → Bool := fun q => bp_p a b q && decide (¬ bp_v s w q < y)
theorem bp_xLeast {post : Int32 → Prop} {c : Int32} {a b s w : Nat → Int32} (y : Int32) (h : post (nI (bp_cnt (bp_h a b s w y) 144))) : wpX_atLeast post (c, a, b, s, w) y := by
  refine bp_nest (fun n k x => wX_atLeast_4 post y c a b s w n x (nI k)) (fun n k m j x => wX_atLeast_13 post (wX_atLeast_4 post y c a b s w n) y (nI k) c a b s w m x (nI j)) (fun q x => x = nI (bp_cnt (bp_h a b s w y) q)) 0 rfl ?_ ?_ ?_ ?_
  · intro n x hx
    exact br_t bp_ge12 (by rw [hx]; exact h)
  · intro n k x hk hm
    exact br_f (bp_lt12 hk) hm
  · intro n k m x hk hw
    exact br_t bp_ge12 (nm_r (nI_1 k) hw)
  · intro n k m j x hk hj hx nx
    refine br_f (bp_lt12 hj) (bp_xPair hk hj (fun hp => br_f bp_10 (bp_xVal hk hj (br_c (fun z => ?_) (fun z => ?_)))) (fun hp => br_t rfl ?_))
    · have e : bp_h a b s w y (12 * k + j) = false := by unfold bp_h; rw [hp, decide_eq_false (fun t => t z)]; rfl
      exact nm_r (nI_1 j) (nx _ (by rw [bp_c0 e, hx]))
    · have e : bp_h a b s w y (12 * k + j) = true := by unfold bp_h; rw [hp, decide_eq_true z]; rfl
      exact nm_e (nm_r (nI_1 j) (nx _ (by rw [bp_c1 e, hx, nI_1])))
    · have e : bp_h a b s w y (12 * k + j) = false := by unfold bp_h; rw [hp]; rfl
      exact nm_r (nI_1 j) (nx _ (by rw [bp_c0 e, hx]))
theorem bp_ix {x M : Int32} {n : Nat} (hM : M = nI n) (hn : n < 2 ^ 31) (h0 : ¬ x < 0) (h : ¬ M ≤ x) : ∃ j : Nat, j < n ∧ x = nI j := by
  rcases pk_ix x hn with z | z | z
  · exact absurd z h0
  · exact absurd (hM ▸ z) h
  · exact z
theorem bp_xEnt {post : Int32 → Prop} {c : Int32} {a b s w : Nat → Int32} (x y : Int32) (h1 : bp_E a x y → post 1) (h0 : ¬ bp_E a x y → post 0) : wpX_isEntry post (c, a, b, s, w) x y := by
  unfold wpX_isEntry wpX_isList wpX_slotOf
  dsimp only
  refine br_c (fun z => br_t rfl (h0 ?_)) (fun z => br_c (fun z2 => br_t rfl (h0 ?_)) (fun z2 => br_f bp_10 (br_c (fun z3 => h0 ?_) (fun z3 => br_c (fun z4 => h0 ?_) (fun z4 => ?_)))))
  · rintro ⟨L, i, hL, hi, rfl, rfl, hu⟩
    exact nI_pos (by omega) z
  · rintro ⟨L, i, hL, hi, rfl, rfl, hu⟩
    rw [bp_i2] at z2
    exact nI_ge hL (by omega) z2
  · rintro ⟨L, i, hL, hi, rfl, rfl, hu⟩
    exact nI_pos (by omega) z3
  · rintro ⟨L, i, hL, hi, rfl, rfl, hu⟩
    exact bp_lt12 hi z4
  · obtain ⟨L, hL, rfl⟩ := bp_ix bp_i2 (by omega) z z2
    obtain ⟨i, hi, rfl⟩ := bp_ix bp_i12 (by omega) z3 z4
    rw [bp_sl, nI_clamp (n := 12 * L + i) (by omega)]
    refine ⟨vp_in_nI (by omega) (by omega), br_c (fun t => h0 ?_) (fun t => h1 ⟨L, i, hL, hi, rfl, rfl, t⟩)⟩
    rintro ⟨L2, i2, hL2, hi2, e1, e2, hu⟩
    rw [nI_eq (by omega) (by omega)] at e1 e2
    subst e1 e2
    exact hu t
theorem bp_xFree {post : Int32 → Prop} {c : Int32} {a b s w : Nat → Int32} {L : Nat} (hL : L < 2) (h1 : ∀ i, i < 12 → a (12 * L + i) = 0 → (∀ j, j < i → ¬ a (12 * L + j) = 0) → post (nI i)) (h0 : (∀ j, j < 12 → ¬ a (12 * L + j) = 0) → post (-1)) : wpX_leastFree post (c, a, b, s, w) (nI L) := by
  refine loop_0 (σ := Unit) (fun n k _ => wX_leastFree_2 post (nI L) c a b s w n (nI k)) (fun i _ => ∀ j, j < i → ¬ a (12 * L + j) = 0) 12 () lt_0 ?_ ?_
  · intro n _ hx
    exact br_t bp_ge12 (h0 hx)
  · intro n i _ hi hx nx
    refine br_f (bp_lt12 hi) (bp_xEnt _ _ (fun hE => br_f bp_10 (nm_r (nI_1 i) (nx () (lt_s hx ?_)))) (fun hE => br_t rfl (h1 i hi ?_ hx)))
    · obtain ⟨L2, i2, hL2, hi2, e1, e2, hu⟩ := hE
      rw [nI_eq (by omega) (by omega)] at e1 e2
      subst e1 e2
      exact hu
    · exact Classical.byContradiction (fun t => hE ⟨L, i, hL, hi, rfl, rfl, t⟩)
theorem bp_xBits {post : Int32 → Prop} {c : Int32} {a b s w : Nat → Int32} (y : Int32) (h : post (bp_bits (fun i => bp_E a y (nI i)) 12)) : wpX_entries post (c, a, b, s, w) y := by
  refine loop_0 (fun n k x => wX_entries_4 post y c a b s w n x (nI k)) (fun i x => x = bp_bits (fun i => bp_E a y (nI i)) i) 12 0 rfl ?_ ?_
  · intro n x hx
    exact br_t bp_ge12 (by rw [hx]; exact h)
  · intro n i x hi hx nx
    refine br_f (bp_lt12 hi) (bp_xEnt _ _ (fun hE => br_f bp_10 (nm_e (nm_r (nI_1 i) (nx _ ?_)))) (fun hE => br_t rfl (nm_r (nI_1 i) (nx _ ?_))))
    · rw [bp_bits1 (P := fun i => bp_E a y (nI i)) hE, hx]
    · rw [bp_bits0 (P := fun i => bp_E a y (nI i)) hE, hx]
end
section
/-! the reference's methods, each against the same pure picture -/
theorem bp_yPair {post : Int32 → Prop} {c : Int32} {a b s w : Nat → Int32} {q : Nat} (hq : q < 144) (h1 : bp_p a b q = true → post 1) (h0 : bp_p a b q = false → post 0) : wpY_pair post (c, a, b, s, w) (nI q) := by
  unfold bp_p at h1 h0
  unfold wpY_pair
  dsimp only
  have il : vp_in (nI (q / 12)) 24 := vp_in_nI (by omega) (by omega)
  have ir : vp_in (nI (12 + q % 12)) 24 := vp_in_nI (by omega) (by omega)
  refine ⟨bp_12, nm_r (bp_qd (by omega)) ⟨bp_12, nm_r (bp_qm2 (by omega)) ?_⟩⟩
  rw [nI_clamp (n := q / 12) (by omega), nI_clamp (n := 12 + q % 12) (by omega)]
  exact ⟨il, br_c (fun z => h0 (decide_eq_false (fun h => h.1 z))) (fun z => ⟨ir, br_c (fun z2 => h0 (decide_eq_false (fun h => h.2.1 z2))) (fun z2 => ⟨il, ir, br_c (fun z3 => h1 (decide_eq_true ⟨z, z2, z3⟩)) (fun z3 => h0 (decide_eq_false (fun h => z3 h.2.2)))⟩)⟩)⟩
theorem bp_yVal {post : Int32 → Prop} {c : Int32} {a b s w : Nat → Int32} {q : Nat} (hq : q < 144) (h : post (bp_v s w q)) : wpY_value post (c, a, b, s, w) (nI q) := by
  unfold bp_v at h
  unfold wpY_value
  dsimp only
  rw [bp_qm2 (q := q) (by omega), bp_qd (q := q) (by omega), nI_clamp (n := q / 12) (by omega), nI_clamp (n := 12 + q % 12) (by omega)]
  exact ⟨bp_12, vp_in_nI (by omega) (by omega), bp_12, vp_in_nI (by omega) (by omega), h⟩
theorem bp_yBef {post : Int32 → Prop} {c : Int32} {a b s w : Nat → Int32} {q : Nat} (hq : q < 144) (h : post (nI (bp_g a b s w q))) : wpY_before post (c, a, b, s, w) (nI q) := by
  unfold wpY_before
  dsimp only
  refine bp_yVal hq ?_
  refine loop_0 (fun n o x => wY_before_11 post (nI q) (bp_v s w q) c a b s w n x (nI o)) (fun o x => x = nI (bp_cnt (bp_f a b s w q) o)) 144 0 rfl ?_ ?_
  · intro n x hx
    exact br_t bp_ge144 (by rw [hx]; exact h)
  · intro n o x ho hx nx
    refine br_f (bp_lt144 ho) (bp_yPair ho (fun hp => br_f bp_10 (bp_yVal ho ?_)) (fun hp => br_t rfl ?_))
    · have e1 : bp_b s w o q = true → x + 1 = nI (bp_cnt (bp_f a b s w q) (o + 1)) := by
        intro hb
        have e : bp_f a b s w q o = true := by unfold bp_f; rw [hp, hb]; rfl
        rw [bp_c1 e, hx, nI_1]
      have e0 : bp_b s w o q = false → x = nI (bp_cnt (bp_f a b s w q) (o + 1)) := by
        intro hb
        have e : bp_f a b s w q o = false := by unfold bp_f; rw [hp, hb]; rfl
        rw [bp_c0 e, hx]
      unfold bp_b at e1 e0
      refine br_c (fun z => nm_e (nm_r (nI_1 o) (nx _ (e1 (decide_eq_true (Or.inl z)))))) (fun z => br_c (fun z2 => pk_le q o (fun z3 => nm_r (nI_1 o) (nx _ (e0 (decide_eq_false ?_)))) (fun z3 => nm_e (nm_r (nI_1 o) (nx _ (e1 (decide_eq_true (Or.inr ⟨z2, z3⟩))))))) (fun z2 => nm_r (nI_1 o) (nx _ (e0 (decide_eq_false ?_)))))
      · rintro (t | t)
        · exact z t
        · omega
      · rintro (t | t)
        · exact z t
        · exact z2 t.1
    · have e : bp_f a b s w q o = false := by unfold bp_f; rw [hp]; rfl
      exact nm_r (nI_1 o) (nx _ (by rw [bp_c0 e, hx]))
theorem bp_yRank {post : Int32 → Prop} {c : Int32} {a b s w : Nat → Int32} (x : Int32) (h1 : ∀ q, q < 144 → bp_r a b s w x q → (∀ o, o < q → ¬ bp_r a b s w x o) → post (nI q)) (h0 : (∀ q, q < 144 → ¬ bp_r a b s w x q) → post (-1)) : wpY_ranked post (c, a, b, s, w) x := by
  refine loop_0 (σ := Unit) (fun n q _ => wY_ranked_2 post x c a b s w n (nI q)) (fun q _ => ∀ o, o < q → ¬ bp_r a b s w x o) 144 () lt_0 ?_ ?_
  · intro n _ hx
    exact br_t bp_ge144 (h0 hx)
  · intro n q _ hq hx nx
    refine br_f (bp_lt144 hq) (bp_yPair hq (fun hp => br_f bp_10 (bp_yBef hq (br_c (fun e => ?_) (fun e => ?_)))) (fun hp => br_t rfl ?_))
    · exact h1 q hq ⟨hp, e⟩ hx
    · exact nm_r (nI_1 q) (nx () (lt_s hx (fun h => e h.2)))
    · exact nm_r (nI_1 q) (nx () (lt_s hx (fun h => by rw [h.1] at hp; cases hp)))
theorem bp_yPairs {post : Int32 → Prop} {c : Int32} {a b s w : Nat → Int32} (h : post (nI (bp_cnt (bp_p a b) 144))) : wpY_pairs post (c, a, b, s, w) := by
  refine loop_0 (fun n o x => wY_pairs_4 post c a b s w n x (nI o)) (fun o x => x = nI (bp_cnt (bp_p a b) o)) 144 0 rfl ?_ ?_
  · intro n x hx
    exact br_t bp_ge144 (by rw [hx]; exact h)
  · intro n o x ho hx nx
    refine br_f (bp_lt144 ho) (bp_yPair ho (fun hp => br_f bp_10 ?_) (fun hp => br_t rfl ?_))
    · exact nm_e (nm_r (nI_1 o) (nx _ (by rw [bp_c1 hp, hx, nI_1])))
    · exact nm_r (nI_1 o) (nx _ (by rw [bp_c0 hp, hx]))
theorem bp_yLeast {post : Int32 → Prop} {c : Int32} {a b s w : Nat → Int32} (y : Int32) (h : post (nI (bp_cnt (bp_h a b s w y) 144))) : wpY_atLeast post (c, a, b, s, w) y := by
  refine loop_0 (fun n o x => wY_atLeast_4 post y c a b s w n x (nI o)) (fun o x => x = nI (bp_cnt (bp_h a b s w y) o)) 144 0 rfl ?_ ?_
  · intro n x hx
    exact br_t bp_ge144 (by rw [hx]; exact h)
  · intro n o x ho hx nx
    refine br_f (bp_lt144 ho) (bp_yPair ho (fun hp => br_f bp_10 (bp_yVal ho (br_c (fun z => ?_) (fun z => ?_)))) (fun hp => br_t rfl ?_))
    · have e : bp_h a b s w y o = false := by unfold bp_h; rw [hp, decide_eq_false (fun t => t z)]; rfl
      exact nm_r (nI_1 o) (nx _ (by rw [bp_c0 e, hx]))
    · have e : bp_h a b s w y o = true := by unfold bp_h; rw [hp, decide_eq_true z]; rfl
      exact nm_e (nm_r (nI_1 o) (nx _ (by rw [bp_c1 e, hx, nI_1])))
    · have e : bp_h a b s w y o = false := by unfold bp_h; rw [hp]; rfl
      exact nm_r (nI_1 o) (nx _ (by rw [bp_c0 e, hx]))
theorem bp_L01 {L : Nat} (h : L < 2) : nI L = 0 ∨ (¬ nI L = 0 ∧ nI L = 1) := by
  rcases (by omega : L = 0 ∨ L = 1) with rfl | rfl
  · exact Or.inl nI_0
  · exact Or.inr (by decide +kernel)
theorem bp_01L {x : Int32} (h : x = 0 ∨ x = 1) : ∃ L : Nat, L < 2 ∧ x = nI L := by
  rcases h with rfl | rfl
  · exact ⟨0, by omega, nI_0.symm⟩
  · exact ⟨1, by omega, by decide +kernel⟩
/-- the reference's 'list == 0 || list == 1' in one -/
theorem bp_yList {x : Int32} {A B : Prop} (h1 : ∀ L : Nat, L < 2 → x = nI L → A) (h0 : (∀ L : Nat, L < 2 → ¬ x = nI L) → B) : (x = 0 → A) ∧ (¬ x = 0 → ((x = 1 → A) ∧ (¬ x = 1 → B))) := by
  refine br_c (fun z => ?_) (fun z => br_c (fun z2 => ?_) (fun z2 => ?_))
  · obtain ⟨L, hL, e⟩ := bp_01L (Or.inl z)
    exact h1 L hL e
  · obtain ⟨L, hL, e⟩ := bp_01L (Or.inr z2)
    exact h1 L hL e
  · refine h0 (fun L hL e => ?_)
    subst e
    rcases bp_L01 hL with t | t
    · exact z t
    · exact z2 t.2
theorem bp_yEnt {post : Int32 → Prop} {c : Int32} {a b s w : Nat → Int32} (x y : Int32) (h1 : bp_E a x y → post 1) (h0 : ¬ bp_E a x y → post 0) : wpY_entry post (c, a, b, s, w) x y := by
  unfold wpY_entry
  dsimp only
  refine bp_yList (fun L hL e => ?_) (fun z => h0 ?_)
  · subst e
    refine br_c (fun z3 => h0 ?_) (fun z3 => br_c (fun z4 => h0 ?_) (fun z4 => ?_))
    · rintro ⟨L, i, hL, hi, e, rfl, hu⟩
      exact nI_pos (by omega) z3
    · rintro ⟨L, i, hL, hi, e, rfl, hu⟩
      exact bp_lt12 hi z4
    · obtain ⟨i, hi, rfl⟩ := bp_ix bp_i12 (by omega) z3 z4
      rw [bp_sr, nI_clamp (n := 12 * L + i) (by omega)]
      refine ⟨vp_in_nI (by omega) (by omega), br_c (fun t => h0 ?_) (fun t => h1 ⟨L, i, hL, hi, rfl, rfl, t⟩)⟩
      rintro ⟨L2, i2, hL2, hi2, e1, e2, hu⟩
      rw [nI_eq (by omega) (by omega)] at e1 e2
      subst e1 e2
      exact hu t
  · rintro ⟨L, i, hL, hi, e, _, hu⟩
    exact z L hL e
theorem bp_yBits {post : Int32 → Prop} {c : Int32} {a b s w : Nat → Int32} (y : Int32) (h : post (bp_bits (fun i => bp_E a y (nI i)) 12)) : wpY_entries post (c, a, b, s, w) y := by
  refine loop_0 (fun n k x => wY_entries_4 post y c a b s w n x (nI k)) (fun i x => x = bp_bits (fun i => bp_E a y (nI i)) i) 12 0 rfl ?_ ?_
  · intro n x hx
    exact br_t bp_ge12 (by rw [hx]; exact h)
  · intro n i x hi hx nx
    refine br_f (bp_lt12 hi) (bp_yEnt _ _ (fun hE => br_f bp_10 (nm_e (nm_r (nI_1 i) (nx _ ?_)))) (fun hE => br_t rfl (nm_r (bp_or0 x) (nm_r (nI_1 i) (nx _ ?_)))))
    · rw [bp_bits1 (P := fun i => bp_E a y (nI i)) hE, hx]
    · rw [bp_bits0 (P := fun i => bp_E a y (nI i)) hE, hx]
theorem bp_yShow {post : Int32 → Prop} {v : SY} {q : Nat} (hq : q < 144) (h : post (nI (16 * (q / 12) + q % 12))) : wpY_shown post v (nI q) := by
  obtain ⟨c, a, b, s, w⟩ := v
  unfold wpY_shown
  dsimp only
  refine br_t (nI_pos' (by omega)) ⟨bp_12, bp_12, ?_⟩
  rw [bp_qm (q := q) (by omega), bp_qd (q := q) (by omega), bp_sh]
  exact h
theorem bp_yShow0 {post : Int32 → Prop} {v : SY} (h : post (-1)) : wpY_shown post v (-1) := by
  obtain ⟨c, a, b, s, w⟩ := v
  exact br_f (by decide +kernel) h
end
section
/-! bestPlace: both sides find the least place over the same pairs -/
def bp_M (a b : Nat → Int32) (L i : Nat) (q : Nat) : Prop := q < 144 ∧ bp_p a b q = true ∧ (if L = 0 then q / 12 else q % 12) = i
/-- the pair of entry i of list L with entry o of the other list -/
def bp_o (L i o : Nat) : Nat := if L = 0 then 12 * i + o else 12 * o + i
theorem bp_x45 {post : Int32 → Prop} {J : Int32 → Int32 → Prop} {x1 x2 x : Int32} {c : Int32} {a b s w : Nat → Int32} {o l r : Nat} (hl : l < 12) (hr : r < 12) (h0 : bp_p a b (12 * l + r) = false → J x (nI (o + 1))) (h1 : bp_p a b (12 * l + r) = true → x = -1 → J (nI (bp_g a b s w (12 * l + r))) (nI (o + 1))) (h2 : bp_p a b (12 * l + r) = true → ¬ x = -1 → x ≤ nI (bp_g a b s w (12 * l + r)) → J x (nI (o + 1))) (h3 : bp_p a b (12 * l + r) = true → ¬ x = -1 → ¬ x ≤ nI (bp_g a b s w (12 * l + r)) → J (nI (bp_g a b s w (12 * l + r))) (nI (o + 1))) : wX_bestPlace_45 post J x1 x2 x (nI o) (nI l) (nI r) c a b s w := by
  unfold wX_bestPlace_45
  exact bp_xPair hl hr (fun hp => br_f bp_10 (bp_xPlace hl hr (br_c (fun z => nm_r (nI_1 o) (h1 hp z)) (fun z => br_c (fun z2 => nm_r (nI_1 o) (h2 hp z z2)) (fun z2 => nm_r (nI_1 o) (h3 hp z z2)))))) (fun hp => br_t rfl (nm_r (nI_1 o) (h0 hp)))
theorem bp_xBest {post : Int32 → Prop} {c : Int32} {a b s w : Nat → Int32} {L i : Nat} (hL : L < 2) (hi : i < 12) (h : ∀ x, bp_min (bp_M a b L i) (bp_g a b s w) x → post x) : ∃ n, wX_bestPlace_16 post (nI L) (nI i) c a b s w n (-1) 0 := by
  refine loop_0 (fun n o x => wX_bestPlace_16 post (nI L) (nI i) c a b s w n x (nI o)) (fun o x => bp_min (fun q => ∃ p, p < o ∧ q = bp_o L i p ∧ bp_p a b q = true) (bp_g a b s w) x) 12 (-1) (bp_min_0 ?_) ?_ ?_
  · rintro q ⟨p, hp, _⟩
    omega
  · intro n x hx
    refine br_t bp_ge12 (h x (bp_min_keep hx (fun q => ?_)))
    constructor
    · rintro ⟨hq, hp, e⟩
      by_cases z : L = 0
      · rw [if_pos z] at e
        exact ⟨q % 12, by omega, by unfold bp_o; rw [if_pos z]; omega, hp⟩
      · rw [if_neg z] at e
        exact ⟨q / 12, by omega, by unfold bp_o; rw [if_neg z]; omega, hp⟩
    · rintro ⟨p, hp, e, hq⟩
      unfold bp_o at e
      by_cases z : L = 0
      · rw [if_pos z] at e
        exact ⟨by omega, hq, by rw [if_pos z]; omega⟩
      · rw [if_neg z] at e
        exact ⟨by omega, hq, by rw [if_neg z]; omega⟩
  · intro n o x ho hx nx
    have kp : bp_p a b (bp_o L i o) = false → bp_min (fun q => ∃ p, p < o + 1 ∧ q = bp_o L i p ∧ bp_p a b q = true) (bp_g a b s w) x := by
      intro hp
      refine bp_min_keep hx (fun q => ⟨?_, ?_⟩)
      · rintro ⟨p, h1, h2, h3⟩
        by_cases e : p = o
        · subst e; rw [h2, hp] at h3; cases h3
        · exact ⟨p, by omega, h2, h3⟩
      · rintro ⟨p, h1, h2, h3⟩
        exact ⟨p, by omega, h2, h3⟩
    have nw : bp_p a b (bp_o L i o) = true → ∀ q, (∃ p, p < o + 1 ∧ q = bp_o L i p ∧ bp_p a b q = true) ↔ ((∃ p, p < o ∧ q = bp_o L i p ∧ bp_p a b q = true) ∨ q = bp_o L i o) := by
      intro hp q
      constructor
      · rintro ⟨p, h1, h2, h3⟩
        by_cases e : p = o
        · subst e; exact Or.inr h2
        · exact Or.inl ⟨p, by omega, h2, h3⟩
      · rintro (⟨p, h1, h2, h3⟩ | e)
        · exact ⟨p, by omega, h2, h3⟩
        · exact ⟨o, by omega, e, by rw [e]; exact hp⟩
    have hg := bp_gl a b s w
    refine br_f (bp_lt12 ho) ?_
    by_cases z : L = 0
    · have hz : nI L = 0 := by rw [z]; exact nI_0
      have eo : bp_o L i o = 12 * i + o := if_pos z
      rw [eo] at kp nw
      exact br_t hz (br_t hz (bp_x45 hi ho (fun hp => nx _ (kp hp)) (fun hp y => nx _ (bp_min_new _ hx (nw hp) y hg)) (fun hp y y2 => nx _ (bp_min_old _ hx (nw hp) y y2 hg)) (fun hp y y2 => nx _ (bp_min_put _ hx (nw hp) y y2 hg))))
    · have hz : ¬ nI L = 0 := nI_ne0 (by omega) (by omega)
      have eo : bp_o L i o = 12 * o + i := if_neg z
      rw [eo] at kp nw
      exact br_f hz (br_f hz (bp_x45 ho hi (fun hp => nx _ (kp hp)) (fun hp y => nx _ (bp_min_new _ hx (nw hp) y hg)) (fun hp y y2 => nx _ (bp_min_old _ hx (nw hp) y y2 hg)) (fun hp y y2 => nx _ (bp_min_put _ hx (nw hp) y y2 hg))))
theorem bp_y48 {post : Int32 → Prop} {J : Int32 → Int32 → Prop} {x1 x : Int32} {c : Int32} {a b s w : Nat → Int32} {i q z : Nat} (hq : q < 144) (hi : i < 12) (hz : z < 144) (h0 : ¬ z = i → J x (nI (q + 1))) (h1 : z = i → x < 0 → J (nI (bp_g a b s w q)) (nI (q + 1))) (h2 : z = i → ¬ x < 0 → x ≤ nI (bp_g a b s w q) → J x (nI (q + 1))) (h3 : z = i → ¬ x < 0 → ¬ x ≤ nI (bp_g a b s w q) → J (nI (bp_g a b s w q)) (nI (q + 1))) : wY_bestPlace_48 post J x1 (nI i) x (nI q) (nI z) c a b s w := by
  unfold wY_bestPlace_48
  exact pk_eq z i (fun e => bp_yBef hq (br_c (fun y => nm_r (nI_1 q) (h1 e y)) (fun y => br_c (fun y2 => nm_r (nI_1 q) (h2 e y y2)) (fun y2 => nm_r (nI_1 q) (h3 e y y2))))) (fun e => nm_r (nI_1 q) (h0 e))
theorem bp_yBest {post : Int32 → Prop} {c : Int32} {a b s w : Nat → Int32} {L i : Nat} (hL : L < 2) (hi : i < 12) (hE : bp_E a (nI L) (nI i)) (h : ∀ x, bp_min (bp_M a b L i) (bp_g a b s w) x → post x) : wpY_bestPlace post (c, a, b, s, w) (nI L) (nI i) := by
  refine loop_0 (fun n o x => wY_bestPlace_5 post (nI L) (nI i) c a b s w n x (nI o)) (fun o x => bp_min (fun q => q < o ∧ bp_p a b q = true ∧ (if L = 0 then q / 12 else q % 12) = i) (bp_g a b s w) x) 144 (-1) (bp_min_0 ?_) ?_ ?_
  · rintro q ⟨hp, _⟩
    omega
  · intro n x hx
    exact br_t bp_ge144 (h x hx)
  · intro n o x ho hx nx
    have kp : ¬ (bp_p a b o = true ∧ (if L = 0 then o / 12 else o % 12) = i) → bp_min (fun q => q < o + 1 ∧ bp_p a b q = true ∧ (if L = 0 then q / 12 else q % 12) = i) (bp_g a b s w) x := by
      intro hp
      refine bp_min_keep hx (fun q => ⟨?_, ?_⟩)
      · rintro ⟨h1, h2, h3⟩
        by_cases e : q = o
        · subst e; exact absurd ⟨h2, h3⟩ hp
        · exact ⟨by omega, h2, h3⟩
      · rintro ⟨h1, h2, h3⟩
        exact ⟨by omega, h2, h3⟩
    have nw : bp_p a b o = true → (if L = 0 then o / 12 else o % 12) = i → ∀ q, (q < o + 1 ∧ bp_p a b q = true ∧ (if L = 0 then q / 12 else q % 12) = i) ↔ ((q < o ∧ bp_p a b q = true ∧ (if L = 0 then q / 12 else q % 12) = i) ∨ q = o) := by
      intro hp hm q
      constructor
      · rintro ⟨h1, h2, h3⟩
        by_cases e : q = o
        · exact Or.inr e
        · exact Or.inl ⟨by omega, h2, h3⟩
      · rintro (⟨h1, h2, h3⟩ | e)
        · exact ⟨by omega, h2, h3⟩
        · subst e; exact ⟨by omega, hp, hm⟩
    have hg := bp_gl a b s w
    have ng := bp_min_neg hg hx
    refine br_f (bp_lt144 ho) (bp_yEnt _ _ (fun _ => br_f bp_10 (bp_yPair ho (fun hp => br_f bp_10 ?_) (fun hp => br_t rfl (nm_r (nI_1 o) (nx _ (kp (fun t => by rw [t.1] at hp; cases hp))))))) (fun hn => absurd hE hn))
    by_cases z : L = 0
    · have hz : nI L = 0 := by rw [z]; exact nI_0
      rw [if_pos z] at kp nw
      refine br_t hz ⟨bp_12, ?_⟩
      rw [bp_qd (q := o) (by omega)]
      exact bp_y48 ho hi (by omega) (fun e => nx _ (kp (fun t => e t.2))) (fun e y => nx _ (bp_min_new _ hx (nw hp e) (ng.mp y) hg)) (fun e y y2 => nx _ (bp_min_old _ hx (nw hp e) (fun t => y (ng.mpr t)) y2 hg)) (fun e y y2 => nx _ (bp_min_put _ hx (nw hp e) (fun t => y (ng.mpr t)) y2 hg))
    · have hz : ¬ nI L = 0 := nI_ne0 (by omega) (by omega)
      rw [if_neg z] at kp nw
      refine br_f hz ⟨bp_12, ?_⟩
      rw [bp_qm (q := o) (by omega)]
      exact bp_y48 ho hi (by omega) (fun e => nx _ (kp (fun t => e t.2))) (fun e y => nx _ (bp_min_new _ hx (nw hp e) (ng.mp y) hg)) (fun e y y2 => nx _ (bp_min_old _ hx (nw hp e) (fun t => y (ng.mpr t)) y2 hg)) (fun e y y2 => nx _ (bp_min_put _ hx (nw hp e) (fun t => y (ng.mpr t)) y2 hg))
theorem bp_yBest0 {post : Int32 → Prop} {c : Int32} {a b s w : Nat → Int32} {x y : Int32} (hE : ¬ bp_E a x y) (h : post (-1)) : wpY_bestPlace post (c, a, b, s, w) x y :=
  ⟨1, br_f (by decide +kernel) (bp_yEnt _ _ (fun t => absurd t hE) (fun _ => br_t rfl h))⟩
end
section
/-! what is owed: both sides keep the same arrays and the same cursor -/
def i_Rel (_ : Nat) (u : SX) (v : SY) : Prop := u = v
theorem i_up {k : Nat} {u : SX} {v : SY} (h : i_Rel k u v) : i_Rel (k + 4) u v := h
theorem i_vc0 : wpX_init (fun u => wpY_init (fun v => i_Rel 0 u v)) := by
  unfold wpX_init wpY_init
  intro x ex y ey z ez t et
  subst ex ey ez et
  exact rfl
theorem bp_xList {post : Int32 → Prop} (x : Int32) (h1 : ∀ L : Nat, L < 2 → x = nI L → post 1) (h0 : (∀ L : Nat, L < 2 → ¬ x = nI L) → post 0) : wpX_isList post x := by
  unfold wpX_isList
  refine br_c (fun z => h0 ?_) (fun z => br_c (fun z2 => h0 ?_) (fun z2 => ?_))
  · intro L hL e
    subst e
    exact nI_pos (by omega) z
  · intro L hL e
    subst e
    rw [bp_i2] at z2
    exact nI_ge hL (by omega) z2
  · obtain ⟨L, hL, e⟩ := bp_ix bp_i2 (by omega) z z2
    exact h1 L hL e
theorem bp_87 (x : Int32) : 8 ≤ x ↔ 7 < x := by
  rw [Int32.le_iff_toInt_le, Int32.lt_iff_toInt_lt, show (8 : Int32).toInt = 8 from by decide +kernel, show (7 : Int32).toInt = 7 from by decide +kernel]
  omega
theorem bp_yFree {post : Int32 → SY → Prop} {c : Int32} {a b s w : Nat → Int32} {L : Nat} {x y : Int32} (hL : L < 2) (h1 : ∀ i, i < 12 → a (12 * L + i) = 0 → (∀ j, j < i → ¬ a (12 * L + j) = 0) → post (nI i) (0, upd a (12 * L + i) (vp_nar .boolean 1), upd b (12 * L + i) x, upd s (12 * L + i) y, w)) (h0 : (∀ j, j < 12 → ¬ a (12 * L + j) = 0) → post (-2) (c, a, b, s, w)) : ∃ n, wY_enter_35 post (nI L) x y c a b s w n 0 := by
  refine loop_0 (σ := Unit) (fun n k _ => wY_enter_35 post (nI L) x y c a b s w n (nI k)) (fun i _ => ∀ j, j < i → ¬ a (12 * L + j) = 0) 12 () lt_0 ?_ ?_
  · intro n _ hx
    exact br_t bp_ge12 (h0 hx)
  · intro n i _ hi hx nx
    refine br_f (bp_lt12 hi) ?_
    have hin : vp_in (nI (12 * L + i)) 24 := vp_in_nI (by omega) (by omega)
    rw [bp_sr, nI_clamp (n := 12 * L + i) (by omega)]
    refine ⟨hin, br_c (fun z => ⟨hin, nm_e ⟨hin, nm_e ⟨hin, nm_e (h1 i hi z hx)⟩⟩⟩) (fun z => nm_r (nI_1 i) (nx () (lt_s hx z)))⟩
theorem i_vc_enter {k : Nat} {u : SX} {v : SY} (I : i_Rel k u v) (hk : k + 4 ≤ 2048) (v1 : Int32) (v2 : Int32) (v3 : Int32) : wpX_enter (fun r u' => wpY_enter (fun r' v' => r' = r ∧ i_Rel (k + 4) u' v') v v1 v2 v3) u v1 v2 v3 := by
  cases I
  obtain ⟨c, a, b, s, w⟩ := u
  unfold wpX_enter wpY_enter
  dsimp only
  refine bp_xList v1 (fun L hL e => br_f bp_10 ?_) (fun z => br_t rfl (bp_yList (fun L hL e => absurd e (z L hL)) (fun _ => ⟨rfl, rfl⟩)))
  subst e
  unfold wpX_isKey
  refine br_c (fun z => br_t rfl (bp_yList (fun _ _ _ => br_t z ⟨rfl, rfl⟩) (fun t => absurd rfl (t L hL)))) (fun z => br_c (fun z2 => br_t rfl (bp_yList (fun _ _ _ => br_f z (br_t ((bp_87 v2).mp z2) ⟨rfl, rfl⟩)) (fun t => absurd rfl (t L hL)))) (fun z2 => br_f bp_10 ?_))
  have z2' : ¬ 7 < v2 := fun t => z2 ((bp_87 v2).mpr t)
  unfold wpX_isScore
  refine br_c (fun y => br_t rfl (bp_yList (fun _ _ _ => br_f z (br_f z2' (br_t y ⟨rfl, rfl⟩))) (fun t => absurd rfl (t L hL)))) (fun y => br_c (fun y2 => br_t rfl (bp_yList (fun _ _ _ => br_f z (br_f z2' (br_f y (br_f (Int32.not_le.mpr y2) ⟨rfl, rfl⟩)))) (fun t => absurd rfl (t L hL)))) (fun y2 => br_f bp_10 ?_))
  have y2' : v3 ≤ 1000 := Int32.not_lt.mp y2
  refine bp_xFree hL (fun i hi hz hf => br_f (bp_nm1 (by omega)) ?_) (fun hf => br_t rfl ?_)
  · unfold wpX_slotOf
    rw [bp_sl]
    dsimp only
    rw [nI_clamp (n := 12 * L + i) (by omega)]
    have hin : vp_in (nI (12 * L + i)) 24 := vp_in_nI (by omega) (by omega)
    refine ⟨hin, nm_e ⟨hin, nm_e ⟨hin, nm_e ?_⟩⟩⟩
    refine bp_yList (fun _ _ _ => br_f z (br_f z2' (br_f y (br_t y2' (bp_yFree hL (fun j hj hz2 hf2 => ?_) (fun hf2 => absurd hz (hf2 i hi))))))) (fun t => absurd rfl (t L hL))
    have e : j = i := by
      rcases Nat.lt_trichotomy j i with t | t | t
      · exact absurd hz2 (hf j t)
      · exact t
      · exact absurd hz (hf2 i t)
    subst e
    exact ⟨rfl, rfl⟩
  · exact bp_yList (fun _ _ _ => br_f z (br_f z2' (br_f y (br_t y2' (bp_yFree hL (fun j hj hz2 hf2 => absurd hz2 (hf j hj)) (fun hf2 => ⟨rfl, rfl⟩)))))) (fun t => absurd rfl (t L hL))
theorem i_vc_remove {k : Nat} {u : SX} {v : SY} (I : i_Rel k u v) (hk : k + 4 ≤ 2048) (v1 : Int32) (v2 : Int32) : wpX_remove (fun r u' => wpY_remove (fun r' v' => r' = r ∧ i_Rel (k + 4) u' v') v v1 v2) u v1 v2 := by
  cases I
  obtain ⟨c, a, b, s, w⟩ := u
  unfold wpX_remove wpY_remove
  dsimp only
  refine bp_xEnt _ _ (fun hE => br_f bp_10 ?_) (fun hE => br_t rfl (bp_yEnt _ _ (fun t => absurd t hE) (fun _ => br_t rfl ⟨rfl, rfl⟩)))
  have hE' := hE
  obtain ⟨L, i, hL, hi, rfl, rfl, hu⟩ := hE'
  have hin : vp_in (nI (12 * L + i)) 24 := vp_in_nI (by omega) (by omega)
  unfold wpX_slotOf
  rw [bp_sl, bp_sr]
  exact ⟨hin, nm_e (bp_yEnt _ _ (fun _ => br_f bp_10 ⟨hin, nm_e ⟨rfl, rfl⟩⟩) (fun t => absurd hE t))⟩
theorem i_vc_rescore {k : Nat} {u : SX} {v : SY} (I : i_Rel k u v) (hk : k + 4 ≤ 2048) (v1 : Int32) (v2 : Int32) (v3 : Int32) : wpX_rescore (fun r u' => wpY_rescore (fun r' v' => r' = r ∧ i_Rel (k + 4) u' v') v v1 v2 v3) u v1 v2 v3 := by
  cases I
  obtain ⟨c, a, b, s, w⟩ := u
  unfold wpX_rescore wpY_rescore
  dsimp only
  refine bp_xEnt _ _ (fun hE => br_f bp_10 ?_) (fun hE => br_t rfl (bp_yEnt _ _ (fun t => absurd t hE) (fun _ => br_t rfl ⟨rfl, rfl⟩)))
  have hE' := hE
  obtain ⟨L, i, hL, hi, rfl, rfl, hu⟩ := hE'
  have hin : vp_in (nI (12 * L + i)) 24 := vp_in_nI (by omega) (by omega)
  unfold wpX_isScore
  refine br_c (fun y => br_t rfl (bp_yEnt _ _ (fun _ => br_f bp_10 (br_t y ⟨rfl, rfl⟩)) (fun t => absurd hE t))) (fun y => br_c (fun y2 => br_t rfl (bp_yEnt _ _ (fun _ => br_f bp_10 (br_f y (br_f (Int32.not_le.mpr y2) ⟨rfl, rfl⟩))) (fun t => absurd hE t))) (fun y2 => br_f bp_10 ?_))
  unfold wpX_slotOf
  rw [bp_sl, bp_sr]
  exact ⟨hin, nm_e (bp_yEnt _ _ (fun _ => br_f bp_10 (br_f y (br_t (Int32.not_lt.mp y2) ⟨hin, nm_e ⟨rfl, rfl⟩⟩))) (fun t => absurd hE t))⟩
theorem i_vc_weigh {k : Nat} {u : SX} {v : SY} (I : i_Rel k u v) (hk : k + 4 ≤ 2048) (v1 : Int32) (v2 : Int32) : wpX_weigh (fun r u' => wpY_weigh (fun r' v' => r' = r ∧ i_Rel (k + 4) u' v') v v1 v2) u v1 v2 := by
  cases I
  obtain ⟨c, a, b, s, w⟩ := u
  unfold wpX_weigh wpY_weigh
  dsimp only
  refine bp_xList v1 (fun L hL e => br_f bp_10 ?_) (fun z => br_t rfl (bp_yList (fun L hL e => absurd e (z L hL)) (fun _ => ⟨rfl, rfl⟩)))
  subst e
  have hin : vp_in (nI L) 2 := vp_in_nI hL (by omega)
  exact br_c (fun z => bp_yList (fun _ _ _ => br_t z ⟨rfl, rfl⟩) (fun t => absurd rfl (t L hL))) (fun z => br_c (fun z2 => ⟨hin, nm_e (bp_yList (fun _ _ _ => br_f z (br_t z2 ⟨hin, nm_e ⟨rfl, rfl⟩⟩)) (fun t => absurd rfl (t L hL)))⟩) (fun z2 => bp_yList (fun _ _ _ => br_f z (br_f z2 ⟨rfl, rfl⟩)) (fun t => absurd rfl (t L hL))))
theorem i_vc_entries {k : Nat} {u : SX} {v : SY} (I : i_Rel k u v) (hk : k + 4 ≤ 2048) (v1 : Int32) : wpX_entries (fun r => wpY_entries (fun r' => r' = r ∧ i_Rel (k + 4) u v) v v1) u v1 := by
  cases I
  obtain ⟨c, a, b, s, w⟩ := u
  exact bp_xBits _ (bp_yBits _ ⟨rfl, rfl⟩)
theorem i_vc_score {k : Nat} {u : SX} {v : SY} (I : i_Rel k u v) (hk : k + 4 ≤ 2048) (v1 : Int32) (v2 : Int32) : wpX_score (fun r => wpY_score (fun r' => r' = r ∧ i_Rel (k + 4) u v) v v1 v2) u v1 v2 := by
  cases I
  obtain ⟨c, a, b, s, w⟩ := u
  unfold wpX_score wpY_score
  dsimp only
  refine bp_xEnt _ _ (fun hE => br_f bp_10 ?_) (fun hE => br_t rfl (bp_yEnt _ _ (fun t => absurd t hE) (fun _ => br_t rfl ⟨rfl, rfl⟩)))
  have hE' := hE
  obtain ⟨L, i, hL, hi, rfl, rfl, hu⟩ := hE'
  have hin : vp_in (nI (12 * L + i)) 24 := vp_in_nI (by omega) (by omega)
  unfold wpX_slotOf
  rw [bp_sl, bp_sr]
  exact ⟨hin, bp_yEnt _ _ (fun _ => br_f bp_10 ⟨hin, rfl, rfl⟩) (fun t => absurd hE t)⟩
theorem bp_same {a b s w : Nat → Int32} {x : Int32} {p q : Nat} (hp : bp_r a b s w x p) (hq : bp_r a b s w x q) (lp : ∀ o, o < p → ¬ bp_r a b s w x o) (lq : ∀ o, o < q → ¬ bp_r a b s w x o) : p = q := by
  rcases Nat.lt_trichotomy p q with t | t | t
  · exact absurd hp (lq p t)
  · exact t
  · exact absurd hq (lp q t)
theorem i_vc_next {k : Nat} {u : SX} {v : SY} (I : i_Rel k u v) (hk : k + 4 ≤ 2048) : wpX_next (fun r u' => wpY_next (fun r' v' => r' = r ∧ i_Rel (k + 4) u' v') v) u := by
  cases I
  obtain ⟨c, a, b, s, w⟩ := u
  unfold wpX_next wpY_next
  dsimp only
  refine bp_xAt c (fun q hq hr hl => br_f (bp_nm1 (by omega)) (nm_e (bp_yRank c (fun p hp hr2 hl2 => ?_) (fun hn => absurd hr (hn q hq))))) (fun hn => br_t rfl (bp_yRank c (fun p hp hr2 hl2 => absurd hr2 (hn p hp)) (fun _ => br_f (by decide +kernel) (bp_yShow0 ⟨rfl, rfl⟩))))
  cases bp_same hr2 hr hl2 hl
  exact br_t (nI_pos' (by omega)) (bp_yShow hq ⟨rfl, rfl⟩)
theorem i_vc_passed {k : Nat} {u : SX} {v : SY} (I : i_Rel k u v) (hk : k + 4 ≤ 2048) : wpX_passed (fun r => wpY_passed (fun r' => r' = r ∧ i_Rel (k + 4) u v) v) u := by
  cases I
  exact ⟨rfl, rfl⟩
theorem i_vc_lastValue {k : Nat} {u : SX} {v : SY} (I : i_Rel k u v) (hk : k + 4 ≤ 2048) : wpX_lastValue (fun r => wpY_lastValue (fun r' => r' = r ∧ i_Rel (k + 4) u v) v) u := by
  cases I
  obtain ⟨c, a, b, s, w⟩ := u
  unfold wpX_lastValue wpY_lastValue
  dsimp only
  refine bp_xAt (c - 1) (fun q hq hr hl => br_f (bp_nm1 (by omega)) ⟨bp_16, bp_16, ?_⟩) (fun hn => br_t rfl (bp_yRank (c - 1) (fun p hp hr2 hl2 => absurd hr2 (hn p hp)) (fun _ => br_f (by decide +kernel) ⟨rfl, rfl⟩)))
  rw [bp_hm (q := 16 * (q / 12) + q % 12) (by omega), bp_hd (q := 16 * (q / 12) + q % 12) (by omega)]
  rw [show (16 * (q / 12) + q % 12) / 16 = q / 12 from by omega, show (16 * (q / 12) + q % 12) % 16 = q % 12 from by omega]
  refine bp_xVal (by omega) (by omega) (bp_yRank (c - 1) (fun p hp hr2 hl2 => ?_) (fun hn => absurd hr (hn q hq)))
  cases bp_same hr2 hr hl2 hl
  refine br_t (nI_pos' (by omega)) (bp_yVal hq ⟨?_, rfl⟩)
  rw [Nat.div_add_mod]
theorem i_vc_rewind {k : Nat} {u : SX} {v : SY} (I : i_Rel k u v) (hk : k + 4 ≤ 2048) : wpX_rewind (fun u' => wpY_rewind (fun v' => i_Rel (k + 4) u' v') v) u := by
  cases I
  exact rfl
theorem i_vc_pairAt {k : Nat} {u : SX} {v : SY} (I : i_Rel k u v) (hk : k + 4 ≤ 2048) (v1 : Int32) : wpX_pairAt (fun r => wpY_pairAt (fun r' => r' = r ∧ i_Rel (k + 4) u v) v v1) u v1 := by
  cases I
  obtain ⟨c, a, b, s, w⟩ := u
  unfold wpY_pairAt
  dsimp only
  refine bp_xAt v1 (fun q hq hr hl => bp_yRank v1 (fun p hp hr2 hl2 => ?_) (fun hn => absurd hr (hn q hq))) (fun hn => bp_yRank v1 (fun p hp hr2 hl2 => absurd hr2 (hn p hp)) (fun _ => bp_yShow0 ⟨rfl, rfl⟩))
  cases bp_same hr2 hr hl2 hl
  exact bp_yShow hq ⟨rfl, rfl⟩
theorem i_vc_pairs {k : Nat} {u : SX} {v : SY} (I : i_Rel k u v) (hk : k + 4 ≤ 2048) : wpX_pairs (fun r => wpY_pairs (fun r' => r' = r ∧ i_Rel (k + 4) u v) v) u := by
  cases I
  obtain ⟨c, a, b, s, w⟩ := u
  exact bp_xPairs (bp_yPairs ⟨rfl, rfl⟩)
theorem i_vc_atLeast {k : Nat} {u : SX} {v : SY} (I : i_Rel k u v) (hk : k + 4 ≤ 2048) (v1 : Int32) : wpX_atLeast (fun r => wpY_atLeast (fun r' => r' = r ∧ i_Rel (k + 4) u v) v v1) u v1 := by
  cases I
  obtain ⟨c, a, b, s, w⟩ := u
  exact bp_xLeast _ (bp_yLeast _ ⟨rfl, rfl⟩)
theorem i_vc_bestPlace {k : Nat} {u : SX} {v : SY} (I : i_Rel k u v) (hk : k + 4 ≤ 2048) (v1 : Int32) (v2 : Int32) : wpX_bestPlace (fun r => wpY_bestPlace (fun r' => r' = r ∧ i_Rel (k + 4) u v) v v1 v2) u v1 v2 := by
  cases I
  obtain ⟨c, a, b, s, w⟩ := u
  unfold wpX_bestPlace
  dsimp only
  refine bp_xEnt _ _ (fun hE => br_f bp_10 ?_) (fun hE => br_t rfl (bp_yBest0 hE ⟨rfl, rfl⟩))
  have hE' := hE
  obtain ⟨L, i, hL, hi, rfl, rfl, hu⟩ := hE'
  exact bp_xBest hL hi (fun x hx => bp_yBest hL hi hE (fun y hy => ⟨bp_min_one hy hx, rfl⟩))
end
