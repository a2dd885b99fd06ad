/-! the picture: sets of bits, uses, fillings -/
def td_bs (P : Nat → Bool) : Nat → Nat
  | 0 => 0
  | i + 1 => if P i = true then td_bs P i ||| 2 ^ i else td_bs P i
theorem td_bs_b (P : Nat → Bool) : ∀ n i, (td_bs P n).testBit i = true ↔ i < n ∧ P i = true := by
  intro n
  induction n with
  | zero =>
    intro i
    simp [td_bs]
  | succ n ih =>
    intro i
    by_cases h : P n = true
    · have e : td_bs P (n + 1) = td_bs P n ||| 2 ^ n := if_pos h
      rw [e, Nat.testBit_or, Bool.or_eq_true, ih i, Nat.testBit_two_pow, decide_eq_true_eq]
      constructor
      · intro z
        rcases z with ⟨a, b⟩ | z
        · exact ⟨by omega, b⟩
        · subst z
          exact ⟨by omega, h⟩
      · intro z
        by_cases q : i < n
        · exact Or.inl ⟨q, z.2⟩
        · exact Or.inr (by omega)
    · have e : td_bs P (n + 1) = td_bs P n := if_neg h
      rw [e, ih i]
      constructor
      · intro z
        exact ⟨by omega, z.2⟩
      · intro z
        by_cases q : i < n
        · exact ⟨q, z.2⟩
        · have e2 : i = n := by omega
          subst e2
          exact absurd z.2 h
theorem td_bs_lt (P : Nat → Bool) (n : Nat) : td_bs P n < 2 ^ n := by
  apply Nat.lt_pow_two_of_testBit
  intro i hi
  by_cases h : (td_bs P n).testBit i = true
  · have := (td_bs_b P n i).mp h
    omega
  · exact Bool.eq_false_iff.mpr h
/-- how often the first i places of a choice have v -/
def td_cn (c : Nat) : Nat → Nat → Nat
  | 0, _ => 0
  | i + 1, v => td_cn c i v + if td_dg c i = v then 1 else 0
theorem td_cn_s (c i v : Nat) : td_cn c (i + 1) v = td_cn c i v + if td_dg c i = v then 1 else 0 := rfl
theorem td_cn_le (c i v : Nat) : td_cn c i v ≤ i := by
  induction i with
  | zero => exact Nat.le_refl 0
  | succ i ih =>
    rw [td_cn_s]
    by_cases h : td_dg c i = v
    · rw [if_pos h]; omega
    · rw [if_neg h]; omega
theorem td_cn_m1 (c i v : Nat) : td_cn c i v ≤ td_cn c (i + 1) v := by
  rw [td_cn_s]
  exact Nat.le_add_right _ _
theorem td_cn_mono (c v : Nat) : ∀ d i, td_cn c i v ≤ td_cn c (i + d) v := by
  intro d i
  induction d with
  | zero => exact Nat.le_refl _
  | succ d ih => exact Nat.le_trans ih (td_cn_m1 c (i + d) v)
theorem td_cn_eq {c c' p : Nat} (h : ∀ j, j < p → td_dg c j = td_dg c' j) (v : Nat) : td_cn c p v = td_cn c' p v := by
  induction p with
  | zero => rfl
  | succ p ih =>
    rw [td_cn_s, td_cn_s, ih (fun j hj => h j (by omega)), h p (by omega)]
/-- the first i places of a choice are a part filling (7: left out) -/
def td_ok (D C : Nat → Nat) (c : Nat) : Nat → Bool
  | 0 => true
  | i + 1 => td_ok D C c i && (td_dg c i == 7 || ((D i).testBit (td_dg c i) && decide (td_cn c (i + 1) (td_dg c i) ≤ C (td_dg c i))))
theorem td_ok_s {D C : Nat → Nat} {c i : Nat} : td_ok D C c (i + 1) = true ↔ td_ok D C c i = true ∧ (td_dg c i = 7 ∨ ((D i).testBit (td_dg c i) = true ∧ td_cn c (i + 1) (td_dg c i) ≤ C (td_dg c i))) := by
  show (td_ok D C c i && (td_dg c i == 7 || ((D i).testBit (td_dg c i) && decide (td_cn c (i + 1) (td_dg c i) ≤ C (td_dg c i))))) = true ↔ _
  rw [Bool.and_eq_true, Bool.or_eq_true, Bool.and_eq_true, beq_iff_eq, decide_eq_true_eq]
theorem td_ok_iff {D C : Nat → Nat} {c : Nat} : ∀ n, td_ok D C c n = true ↔ ∀ i, i < n → (td_dg c i = 7 ∨ ((D i).testBit (td_dg c i) = true ∧ td_cn c (i + 1) (td_dg c i) ≤ C (td_dg c i))) := by
  intro n
  induction n with
  | zero => exact ⟨fun _ i hi => absurd hi (Nat.not_lt_zero i), fun _ => rfl⟩
  | succ n ih =>
    rw [td_ok_s, ih]
    constructor
    · intro z i hi
      by_cases q : i < n
      · exact z.1 i q
      · have e : i = n := by omega
        subst e
        exact z.2
    · intro z
      exact ⟨fun i hi => z i (by omega), z n (by omega)⟩
theorem td_ok_cn {D C : Nat → Nat} {c : Nat} : ∀ n, td_ok D C c n = true → ∀ v, v ≠ 7 → td_cn c n v ≤ C v := by
  intro n
  induction n with
  | zero => intro _ v _; exact Nat.zero_le _
  | succ n ih =>
    intro h v hv
    have h2 := td_ok_s.mp h
    by_cases q : td_dg c n = v
    · rcases h2.2 with z | z
      · exact absurd (q.symm.trans z) hv
      · rw [q] at z
        exact z.2
    · rw [td_cn_s, if_neg q]
      exact ih h2.1 v hv
theorem td_ok_of {D C : Nat → Nat} {c : Nat} (h : ∀ i, i < 5 → td_dg c i = 7 ∨ (D i).testBit (td_dg c i) = true) (hc : ∀ v, v < 7 → td_cn c 5 v ≤ C v) : td_ok D C c 5 = true := by
  rw [td_ok_iff]
  intro i hi
  rcases h i hi with z | z
  · exact Or.inl z
  · by_cases q : td_dg c i = 7
    · exact Or.inl q
    · refine Or.inr ⟨z, Nat.le_trans ?_ (hc _ (by have := td_dg_lt c i; omega))⟩
      have := td_cn_mono c (td_dg c i) (5 - (i + 1)) (i + 1)
      rw [show i + 1 + (5 - (i + 1)) = 5 from by omega] at this
      exact this
/-- the places that a choice leaves out -/
def td_lo (c : Nat) (n : Nat) : Nat := td_bs (fun i => td_dg c i == 7) n
theorem td_lo_b (c n i : Nat) : (td_lo c n).testBit i = true ↔ i < n ∧ td_dg c i = 7 := by
  unfold td_lo
  rw [td_bs_b, beq_iff_eq]
theorem td_lo_lt (c : Nat) : td_lo c 5 < 32 := td_bs_lt _ 5
theorem td_lo_0 {c : Nat} : td_lo c 5 = 0 ↔ ∀ i, i < 5 → td_dg c i ≠ 7 := by
  constructor
  · intro h i hi z
    have := (td_lo_b c 5 i).mpr ⟨hi, z⟩
    rw [h, Nat.zero_testBit] at this
    exact absurd this (by decide)
  · intro h
    apply Nat.eq_of_testBit_eq
    intro i
    rw [Nat.zero_testBit]
    apply Bool.eq_false_iff.mpr
    intro z
    have := (td_lo_b c 5 i).mp z
    exact h i this.1 this.2
/-- a filling: a part filling that leaves nothing out -/
def td_fl (D C : Nat → Nat) (c : Nat) : Bool := td_ok D C c 5 && (td_lo c 5 == 0)
theorem td_fl_iff {D C : Nat → Nat} {c : Nat} : td_fl D C c = true ↔ td_ok D C c 5 = true ∧ ∀ i, i < 5 → td_dg c i ≠ 7 := by
  unfold td_fl
  rw [Bool.and_eq_true, beq_iff_eq, td_lo_0]
theorem td_fl_iff2 {D C : Nat → Nat} {c : Nat} : td_fl D C c = true ↔ ∀ i, i < 5 → td_dg c i ≠ 7 ∧ (D i).testBit (td_dg c i) = true ∧ td_cn c (i + 1) (td_dg c i) ≤ C (td_dg c i) := by
  rw [td_fl_iff, td_ok_iff]
  constructor
  · intro z i hi
    refine ⟨z.2 i hi, ?_⟩
    rcases z.1 i hi with q | q
    · exact absurd q (z.2 i hi)
    · exact q
  · intro z
    exact ⟨fun i hi => Or.inr (z i hi).2, fun i hi => (z i hi).1⟩
/-! folds over the choices below n -/
def td_ct (f : Nat → Bool) : Nat → Nat
  | 0 => 0
  | n + 1 => td_ct f n + if f n = true then 1 else 0
def td_or (f : Nat → Bool) (g : Nat → Nat) : Nat → Nat
  | 0 => 0
  | n + 1 => if f n = true then td_or f g n ||| g n else td_or f g n
def td_al (f : Nat → Bool) (g : Nat → Nat) : Nat → Nat
  | 0 => 127
  | n + 1 => if f n = true then td_al f g n &&& g n else td_al f g n
theorem td_ct_t {f : Nat → Bool} {n : Nat} (h : f n = true) : td_ct f (n + 1) = td_ct f n + 1 := by
  show td_ct f n + (if f n = true then 1 else 0) = _
  rw [if_pos h]
theorem td_ct_f {f : Nat → Bool} {n : Nat} (h : f n = false) : td_ct f (n + 1) = td_ct f n := by
  show td_ct f n + (if f n = true then 1 else 0) = _
  rw [if_neg (by rw [h]; decide), Nat.add_zero]
theorem td_or_t {f : Nat → Bool} {g : Nat → Nat} {n : Nat} (h : f n = true) : td_or f g (n + 1) = td_or f g n ||| g n := if_pos h
theorem td_or_f {f : Nat → Bool} {g : Nat → Nat} {n : Nat} (h : f n = false) : td_or f g (n + 1) = td_or f g n := if_neg (by rw [h]; decide)
theorem td_al_t {f : Nat → Bool} {g : Nat → Nat} {n : Nat} (h : f n = true) : td_al f g (n + 1) = td_al f g n &&& g n := if_pos h
theorem td_al_f {f : Nat → Bool} {g : Nat → Nat} {n : Nat} (h : f n = false) : td_al f g (n + 1) = td_al f g n := if_neg (by rw [h]; decide)
theorem td_ct_le (f : Nat → Bool) (n : Nat) : td_ct f n ≤ n := by
  induction n with
  | zero => exact Nat.le_refl 0
  | succ n ih =>
    cases h : f n
    · rw [td_ct_f h]; omega
    · rw [td_ct_t h]; omega
theorem td_ct_0 {f : Nat → Bool} {n : Nat} : td_ct f n = 0 ↔ ∀ c, c < n → f c = false := by
  induction n with
  | zero => exact ⟨fun _ c hc => absurd hc (Nat.not_lt_zero c), fun _ => rfl⟩
  | succ n ih =>
    cases h : f n
    · rw [td_ct_f h, ih]
      constructor
      · intro z c hc
        by_cases q : c < n
        · exact z c q
        · have e : c = n := by omega
          rw [e]; exact h
      · intro z c hc
        exact z c (by omega)
    · rw [td_ct_t h]
      constructor
      · intro z; omega
      · intro z
        have := z n (by omega)
        rw [h] at this
        exact absurd this (by decide)
theorem td_or_b {f : Nat → Bool} {g : Nat → Nat} {n : Nat} (i : Nat) : (td_or f g n).testBit i = true ↔ ∃ c, c < n ∧ f c = true ∧ (g c).testBit i = true := by
  induction n with
  | zero =>
    constructor
    · intro z
      rw [show td_or f g 0 = 0 from rfl, Nat.zero_testBit] at z
      exact absurd z (by decide)
    · intro ⟨c, hc, _⟩
      exact absurd hc (Nat.not_lt_zero c)
  | succ n ih =>
    cases h : f n
    · rw [td_or_f h, ih]
      constructor
      · intro ⟨c, hc, z⟩
        exact ⟨c, by omega, z⟩
      · intro ⟨c, hc, z⟩
        by_cases q : c < n
        · exact ⟨c, q, z⟩
        · have e : c = n := by omega
          rw [e, h] at z
          exact absurd z.1 (by decide)
    · rw [td_or_t h, Nat.testBit_or, Bool.or_eq_true, ih]
      constructor
      · intro z
        rcases z with ⟨c, hc, z⟩ | z
        · exact ⟨c, by omega, z⟩
        · exact ⟨n, by omega, h, z⟩
      · intro ⟨c, hc, z⟩
        by_cases q : c < n
        · exact Or.inl ⟨c, q, z⟩
        · have e : c = n := by omega
          rw [e] at z
          exact Or.inr z.2
theorem td_or_lt {f : Nat → Bool} {g : Nat → Nat} {k : Nat} (n : Nat) (h : ∀ c, c < n → f c = true → g c < 2 ^ k) : td_or f g n < 2 ^ k := by
  induction n with
  | zero => exact Nat.two_pow_pos k
  | succ n ih =>
    have h1 := ih (fun c hc => h c (by omega))
    cases q : f n
    · rw [td_or_f q]; exact h1
    · rw [td_or_t q]; exact Nat.or_lt_two_pow h1 (h n (by omega) q)
theorem td_al_lt {f : Nat → Bool} {g : Nat → Nat} (n : Nat) : td_al f g n < 128 := by
  induction n with
  | zero => exact (by decide : 127 < 128)
  | succ n ih =>
    cases q : f n
    · rw [td_al_f q]; exact ih
    · rw [td_al_t q]; exact Nat.lt_of_le_of_lt Nat.and_le_left ih
theorem td_or_cg {f f' : Nat → Bool} {g : Nat → Nat} (n : Nat) (h : ∀ c, c < n → f c = f' c) : td_or f g n = td_or f' g n := by
  induction n with
  | zero => rfl
  | succ n ih =>
    have h1 := ih (fun c hc => h c (by omega))
    have h2 := h n (by omega)
    show (if f n = true then td_or f g n ||| g n else td_or f g n) = (if f' n = true then td_or f' g n ||| g n else td_or f' g n)
    rw [h1, h2]
/-! what the reference's search has gathered when all choices below N are through -/
def td_ac (f : Nat → Bool) (g1 g2 : Nat → Nat) (N : Nat) (fi al ev : Int32) (fs su : Nat → Int32) : Prop :=
  fi = nI (td_ct f N) ∧ al = nI (td_al f g1 N) ∧ ev = nI (td_or f g2 N) ∧ (∀ i, i < 5 → su i = nI (td_or f (fun c => 2 ^ td_dg c i) N)) ∧ (∀ c, c < N → f c = true → (∀ b, b < c → f b = false) → ∀ i, i < 5 → fs i = nI (td_dg c i))
theorem td_ac_1 {f : Nat → Bool} {g1 g2 : Nat → Nat} {N : Nat} {fi al ev : Int32} {fs su : Nat → Int32} (h : td_ac f g1 g2 N fi al ev fs su) (hf : f N = false) : td_ac f g1 g2 (N + 1) fi al ev fs su := by
  obtain ⟨h1, h2, h3, h4, h5⟩ := h
  refine ⟨by rw [td_ct_f hf]; exact h1, by rw [td_al_f hf]; exact h2, by rw [td_or_f hf]; exact h3, fun i hi => by rw [td_or_f hf]; exact h4 i hi, fun c hc hfc hl => ?_⟩
  by_cases q : c < N
  · exact h5 c q hfc hl
  · have e : c = N := by omega
    rw [e, hf] at hfc
    exact absurd hfc (by decide)
theorem td_ac_d {f : Nat → Bool} {g1 g2 : Nat → Nat} {fi al ev : Int32} {fs su : Nat → Int32} : ∀ d N, td_ac f g1 g2 N fi al ev fs su → (∀ c, N ≤ c → c < N + d → f c = false) → td_ac f g1 g2 (N + d) fi al ev fs su := by
  intro d
  induction d with
  | zero => intro N h _; exact h
  | succ d ih =>
    intro N h hf
    exact td_ac_1 (ih N h (fun c h1 h2 => hf c h1 (by omega))) (hf (N + d) (by omega) (by omega))
theorem td_ac_to {f : Nat → Bool} {g1 g2 : Nat → Nat} {N M : Nat} {fi al ev : Int32} {fs su : Nat → Int32} (h : td_ac f g1 g2 N fi al ev fs su) (hM : N ≤ M) (hf : ∀ c, N ≤ c → c < M → f c = false) : td_ac f g1 g2 M fi al ev fs su := by
  have := td_ac_d (M - N) N h (fun c h1 h2 => hf c h1 (by omega))
  rw [show N + (M - N) = M from by omega] at this
  exact this
theorem td_ac_t {f : Nat → Bool} {g1 g2 : Nat → Nat} {N : Nat} {fi al ev : Int32} {fs su fs' su' : Nat → Int32} (h : td_ac f g1 g2 N fi al ev fs su) (hN : N < 32768) (hf : f N = true) (hs : ∀ i, i < 5 → su' i = su i ||| nI (2 ^ td_dg N i)) (hs' : ∀ i, i < 5 → fs' i = if fi = 0 then nI (td_dg N i) else fs i) : td_ac f g1 g2 (N + 1) (fi + 1) (al &&& nI (g1 N)) (ev ||| nI (g2 N)) fs' su' := by
  obtain ⟨h1, h2, h3, h4, h5⟩ := h
  have hb := td_ct_le f N
  refine ⟨by rw [td_ct_t hf, h1, nI_1], by rw [td_al_t hf, h2, nx_and], by rw [td_or_t hf, h3, td_nor], fun i hi => by rw [td_or_t hf, hs i hi, h4 i hi, td_nor], fun c hc hfc hl i hi => ?_⟩
  rw [hs' i hi]
  by_cases q : c < N
  · have hz : ¬ fi = 0 := by
      rw [h1]
      intro z
      rw [← nI_0, nI_eq (by omega) (by omega), td_ct_0] at z
      have := z c q
      rw [hfc] at this
      exact absurd this (by decide)
    rw [if_neg hz]
    exact h5 c q hfc hl i hi
  · have e : c = N := by omega
    subst e
    have hz : fi = 0 := by
      rw [h1, td_ct_0.mpr hl, nI_0]
    rw [if_pos hz]
