theorem pk_sub {a b : Nat} (h : b ≤ a) : nI a - nI b = nI (a - b) := by
  obtain ⟨c, rfl⟩ : ∃ c, a = c + b := ⟨a - b, by omega⟩
  rw [← nI_add, Int32.add_sub_cancel, Nat.add_sub_cancel]
theorem pk_mul (a b : Nat) : nI a * nI b = nI (a * b) := (Int32.ofNat_mul a b).symm
theorem pk_div {a d : Nat} (ha : a < 2 ^ 31) (h0 : 0 < d) (hd : d < 2 ^ 31) : nI a / nI d = nI (a / d) := by
  apply Int32.toInt_inj.mp
  rw [lg_idiv_nonneg (by rw [nI_toInt ha]; omega) (by rw [nI_toInt hd]; omega), nI_toInt ha, nI_toInt hd, nI_toInt (Nat.lt_of_le_of_lt (Nat.div_le_self a d) ha)]
  first | rfl | exact (Int.natCast_ediv _ _).symm
theorem pk_rem {a d : Nat} (ha : a < 2 ^ 31) (h0 : 0 < d) (hd : d < 2 ^ 31) : nI a - nI a / nI d * nI d = nI (a % d) := by
  rw [pk_div ha h0 hd, pk_mul, pk_sub (Nat.div_mul_le_self a d)]
  exact congrArg nI (by have := Nat.div_add_mod' a d; omega)
theorem pk_ix (x : Int32) {n : Nat} (hn : n < 2 ^ 31) : x < 0 ∨ nI n ≤ x ∨ ∃ j : Nat, j < n ∧ x = nI j := by
  by_cases h : x < 0
  · exact Or.inl h
  · obtain ⟨j, hj, rfl⟩ := nI_of h
    by_cases h2 : j < n
    · exact Or.inr (Or.inr ⟨j, h2, rfl⟩)
    · exact Or.inr (Or.inl (nI_le (by omega) hj))
theorem pk_le {x y : Int32} {A B : Prop} (a b : Nat) (f : a ≤ b → A) (g : b < a → B) (hx : x = nI a := by rfl) (hy : y = nI b := by rfl) (ha : a < 2 ^ 31 := by omega) (hb : b < 2 ^ 31 := by omega) : (x ≤ y → A) ∧ (¬ x ≤ y → B) := by
  subst hx hy
  rw [nI_leI ha hb]
  exact ⟨f, fun z => g (by omega)⟩
theorem pk_lt {x y : Int32} {A B : Prop} (a b : Nat) (f : a < b → A) (g : b ≤ a → B) (hx : x = nI a := by rfl) (hy : y = nI b := by rfl) (ha : a < 2 ^ 31 := by omega) (hb : b < 2 ^ 31 := by omega) : (x < y → A) ∧ (¬ x < y → B) := by
  subst hx hy
  rw [nI_ltI ha hb]
  exact ⟨f, fun z => g (by omega)⟩
theorem pk_eq {x y : Int32} {A B : Prop} (a b : Nat) (f : a = b → A) (g : a ≠ b → B) (hx : x = nI a := by rfl) (hy : y = nI b := by rfl) (ha : a < 2 ^ 31 := by omega) (hb : b < 2 ^ 31 := by omega) : (x = y → A) ∧ (¬ x = y → B) := by
  subst hx hy
  rw [nI_eq ha hb]
  exact ⟨f, g⟩
theorem pk_in {x : Int32} (n N : Nat) (h : n < N) (hx : x = nI n := by rfl) (hN : N < 2 ^ 31 := by omega) : vp_in x N := by
  subst hx
  exact vp_in_nI h hN
theorem pk_cl {x : Int32} (n : Nat) (hx : x = nI n := by rfl) (h : n < 2 ^ 31 := by omega) : x.toNatClampNeg = n := by
  subst hx
  exact nI_clamp h
/-! the pure picture: pair q = 12 l + r of the entries l and r -/
def bp_p (a b : Nat → Int32) (q : Nat) : Bool := decide (¬ a (q / 12) = 0 ∧ ¬ a (12 + q % 12) = 0 ∧ b (q / 12) = b (12 + q % 12))
def bp_v (s w : Nat → Int32) (q : Nat) : Int32 := w 0 * s (q / 12) + w 1 * s (12 + q % 12)
def bp_b (s w : Nat → Int32) (q o : Nat) : Bool := decide (bp_v s w o < bp_v s w q ∨ (bp_v s w q = bp_v s w o ∧ q < o))
def bp_cnt (f : Nat → Bool) : Nat → Nat
  | 0 => 0
  | n + 1 => if f n = true then bp_cnt f n + 1 else bp_cnt f n
def bp_f (a b s w : Nat → Int32) (o : Nat) : Nat → Bool := fun q => bp_p a b q && bp_b s w q o
def bp_g (a b s w : Nat → Int32) (o : Nat) : Nat := bp_cnt (bp_f a b s w o) 144
def bp_r (a b s w : Nat → Int32) (x : Int32) (q : Nat) : Prop := bp_p a b q = true ∧ nI (bp_g a b s w q) = x
def bp_E (a : Nat → Int32) (x y : Int32) : Prop := ∃ L i : Nat, L < 2 ∧ i < 12 ∧ x = nI L ∧ y = nI i ∧ ¬ a (12 * L + i) = 0
theorem bp_c1 {f : Nat → Bool} {n : Nat} (h : f n = true) : bp_cnt f (n + 1) = bp_cnt f n + 1 := if_pos h
theorem bp_c0 {f : Nat → Bool} {n : Nat} (h : f n = false) : bp_cnt f (n + 1) = bp_cnt f n := if_neg (by rw [h]; decide)
theorem bp_cle (f : Nat → Bool) : ∀ n, bp_cnt f n ≤ n := by
  intro n
  induction n with
  | zero => exact Nat.le_refl 0
  | succ n ih =>
    cases h : f n with
    | true => rw [bp_c1 h]; omega
    | false => rw [bp_c0 h]; omega
theorem bp_gl (a b s w : Nat → Int32) (o : Nat) : bp_g a b s w o < 2 ^ 31 := by
  have h := bp_cle (bp_f a b s w o) 144
  unfold bp_g
  omega
theorem bp_d {l r : Nat} (hr : r < 12) : (12 * l + r) / 12 = l := by omega
theorem bp_m {l r : Nat} (hr : r < 12) : (12 * l + r) % 12 = r := by omega
theorem bp_10 : ¬ (1 : Int32) = 0 := by decide
theorem bp_12 : ¬ (12 : Int32) = 0 := by decide
theorem bp_16 : ¬ (16 : Int32) = 0 := by decide
theorem bp_i12 : (12 : Int32) = nI 12 := by decide +kernel
theorem bp_i144 : (144 : Int32) = nI 144 := by decide +kernel
theorem bp_i16 : (16 : Int32) = nI 16 := by decide +kernel
theorem bp_i2 : (2 : Int32) = nI 2 := by decide +kernel
theorem bp_lt12 {r : Nat} (h : r < 12) : ¬ (12 : Int32) ≤ nI r := by rw [bp_i12]; exact nI_ge h (by omega)
theorem bp_ge12 : (12 : Int32) ≤ nI 12 := by decide +kernel
theorem bp_lt144 {r : Nat} (h : r < 144) : ¬ (144 : Int32) ≤ nI r := by rw [bp_i144]; exact nI_ge h (by omega)
theorem bp_ge144 : (144 : Int32) ≤ nI 144 := by decide +kernel
theorem bp_s0 (l : Nat) : (0 : Int32) * 12 + nI l = nI l := by
  rw [show (0 : Int32) * 12 = nI 0 from by decide +kernel, nI_add, Nat.zero_add]
theorem bp_s1 (r : Nat) : (1 : Int32) * 12 + nI r = nI (12 + r) := by
  rw [show (1 : Int32) * 12 = nI 12 from by decide +kernel, nI_add]
theorem bp_sl (L i : Nat) : nI L * 12 + nI i = nI (12 * L + i) := by
  rw [bp_i12, pk_mul, nI_add, Nat.mul_comm]
theorem bp_sr (L i : Nat) : 12 * nI L + nI i = nI (12 * L + i) := by
  rw [bp_i12, pk_mul, nI_add]
theorem bp_sh (l r : Nat) : 16 * nI l + nI r = nI (16 * l + r) := by
  rw [bp_i16, pk_mul, nI_add]
theorem bp_qd {q : Nat} (h : q < 2 ^ 31) : nI q / 12 = nI (q / 12) := by
  rw [bp_i12]; exact pk_div h (by omega) (by omega)
theorem bp_qm {q : Nat} (h : q < 2 ^ 31) : nI q - nI q / 12 * 12 = nI (q % 12) := by
  rw [bp_i12]; exact pk_rem h (by omega) (by omega)
theorem bp_qm2 {q : Nat} (h : q < 2 ^ 31) : 12 + (nI q - nI q / 12 * 12) = nI (12 + q % 12) := by
  rw [bp_qm h, bp_i12, nI_add]
theorem bp_hd {q : Nat} (h : q < 2 ^ 31) : nI q / 16 = nI (q / 16) := by
  rw [bp_i16]; exact pk_div h (by omega) (by omega)
theorem bp_hm {q : Nat} (h : q < 2 ^ 31) : nI q - nI q / 16 * 16 = nI (q % 16) := by
  rw [bp_i16]; exact pk_rem h (by omega) (by omega)
theorem bp_nm1 {n : Nat} (h : n < 2 ^ 31) : ¬ nI n = -1 := by
  intro e
  have h1 := nI_toInt h
  rw [e, show (-1 : Int32).toInt = -1 from by decide +kernel] at h1
  omega
theorem bp_nest {σ : Type} (P : Nat → Nat → σ → Prop) (Q : Nat → Nat → Nat → Nat → σ → Prop) (I : Nat → σ → Prop) (s : σ) (h0 : I 0 s) (hx : ∀ n s, I 144 s → P (n + 1) 12 s) (ho : ∀ n l s, l < 12 → (∃ m, Q n l m 0 s) → P (n + 1) l s) (he : ∀ n l m s, l < 12 → P n (l + 1) s → Q n l (m + 1) 12 s) (hs : ∀ n l m r s, l < 12 → r < 12 → I (12 * l + r) s → (∀ s', I (12 * l + r + 1) s' → Q n l m (r + 1) s') → Q n l (m + 1) r s) : ∃ n, P n 0 s :=
  loop_0 P (fun l s => I (12 * l) s) 12 s h0 (fun n s h => hx n s h) (fun n l s hl hI next => ho n l s hl (loop_0 (fun m r s => Q n l m r s) (fun r s => I (12 * l + r) s) 12 s hI (fun m s h => he n l m s hl (next s h)) (fun m r s hr h nx => hs n l m r s hl hr h nx)))
/-! the least of g over the pairs of M; -1 where there is none -/
def bp_min (M : Nat → Prop) (g : Nat → Nat) (x : Int32) : Prop := (x = -1 ∧ ∀ q, ¬ M q) ∨ ∃ q, M q ∧ x = nI (g q) ∧ ∀ q', M q' → g q ≤ g q'
theorem bp_min_0 {M : Nat → Prop} {g : Nat → Nat} (h : ∀ q, ¬ M q) : bp_min M g (-1) := Or.inl ⟨rfl, h⟩
theorem bp_min_keep {M N : Nat → Prop} {g : Nat → Nat} {x : Int32} (h : bp_min M g x) (e : ∀ q, N q ↔ M q) : bp_min N g x := by
  rcases h with ⟨hx, h⟩ | ⟨q, hq, hx, h⟩
  · exact Or.inl ⟨hx, fun q hq => h q ((e q).mp hq)⟩
  · exact Or.inr ⟨q, (e q).mpr hq, hx, fun q' hq' => h q' ((e q').mp hq')⟩
theorem bp_min_neg {M : Nat → Prop} {g : Nat → Nat} {x : Int32} (hg : ∀ q, g q < 2 ^ 31) (h : bp_min M g x) : x < 0 ↔ x = -1 := by
  rcases h with ⟨hx, _⟩ | ⟨q, _, hx, _⟩
  · subst hx; exact ⟨fun _ => rfl, fun _ => by decide +kernel⟩
  · subst hx; exact ⟨fun z => absurd z (nI_pos (hg q)), fun z => absurd z (bp_nm1 (hg q))⟩
theorem bp_min_new {M N : Nat → Prop} {g : Nat → Nat} {x : Int32} (q0 : Nat) (h : bp_min M g x) (e : ∀ q, N q ↔ (M q ∨ q = q0)) (hx : x = -1) (hg : ∀ q, g q < 2 ^ 31) : bp_min N g (nI (g q0)) := by
  rcases h with ⟨_, h⟩ | ⟨q, _, hy, _⟩
  · refine Or.inr ⟨q0, (e q0).mpr (Or.inr rfl), rfl, fun q' hq' => ?_⟩
    rcases (e q').mp hq' with z | z
    · exact absurd z (h q')
    · rw [z]; exact Nat.le_refl _
  · exact absurd (hy.symm.trans hx) (bp_nm1 (hg q))
theorem bp_min_old {M N : Nat → Prop} {g : Nat → Nat} {x : Int32} (q0 : Nat) (h : bp_min M g x) (e : ∀ q, N q ↔ (M q ∨ q = q0)) (hx : ¬ x = -1) (hl : x ≤ nI (g q0)) (hg : ∀ q, g q < 2 ^ 31) : bp_min N g x := by
  rcases h with ⟨hy, _⟩ | ⟨q, hq, hy, h⟩
  · exact absurd hy hx
  · rw [hy, nI_leI (hg q) (hg q0)] at hl
    refine Or.inr ⟨q, (e q).mpr (Or.inl hq), hy, fun q' hq' => ?_⟩
    rcases (e q').mp hq' with z | z
    · exact h q' z
    · rw [z]; exact hl
theorem bp_min_put {M N : Nat → Prop} {g : Nat → Nat} {x : Int32} (q0 : Nat) (h : bp_min M g x) (e : ∀ q, N q ↔ (M q ∨ q = q0)) (hx : ¬ x = -1) (hl : ¬ x ≤ nI (g q0)) (hg : ∀ q, g q < 2 ^ 31) : bp_min N g (nI (g q0)) := by
  rcases h with ⟨hy, _⟩ | ⟨q, hq, hy, h⟩
  · exact absurd hy hx
  · rw [hy, nI_leI (hg q) (hg q0)] at hl
    refine Or.inr ⟨q0, (e q0).mpr (Or.inr rfl), rfl, fun q' hq' => ?_⟩
    rcases (e q').mp hq' with z | z
    · have := h q' z
      omega
    · rw [z]; exact Nat.le_refl _
theorem bp_min_one {M : Nat → Prop} {g : Nat → Nat} {x y : Int32} (h : bp_min M g x) (k : bp_min M g y) : x = y := by
  rcases h with ⟨hx, h⟩ | ⟨q, hq, hx, h⟩
  · rcases k with ⟨hy, _⟩ | ⟨q', hq', _, _⟩
    · rw [hx, hy]
    · exact absurd hq' (h q')
  · rcases k with ⟨_, k⟩ | ⟨q', hq', hy, k⟩
    · exact absurd hq (k q)
    · have h1 := h q' hq'
      have h2 := k q hq
      rw [hx, hy, Nat.le_antisymm h1 h2]
/-! the set's bits -/
noncomputable def bp_bits (P : Nat → Prop) : Nat → Int32
  | 0 => 0
  | n + 1 => @ite Int32 (P n) (Classical.propDecidable (P n)) (bp_bits P n ||| ((1 : Int32) <<< (nI n &&& 31))) (bp_bits P n)
theorem bp_bits1 {P : Nat → Prop} {n : Nat} (h : P n) : bp_bits P (n + 1) = bp_bits P n ||| ((1 : Int32) <<< (nI n &&& 31)) := if_pos h
theorem bp_bits0 {P : Nat → Prop} {n : Nat} (h : ¬ P n) : bp_bits P (n + 1) = bp_bits P n := if_neg h
theorem bp_or0 (x : Int32) : x ||| 0 = x := Int32.or_zero
