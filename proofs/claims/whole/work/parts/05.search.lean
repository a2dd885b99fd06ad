/-! the search: steps of the number N of choices that are through -/
def td_q : Nat → Nat
  | 0 => 4096
  | 1 => 512
  | 2 => 64
  | 3 => 8
  | _ => 1
theorem td_q0 : td_q 0 = 4096 := rfl
theorem td_q1 : td_q 1 = 512 := rfl
theorem td_q2 : td_q 2 = 64 := rfl
theorem td_q3 : td_q 3 = 8 := rfl
theorem td_q4 : td_q 4 = 1 := rfl
theorem td_j0 {P : Nat → Prop} : ∀ j, j < 0 → P j := fun j hj => absurd hj (Nat.not_lt_zero j)
theorem td_j1 {P : Nat → Prop} (h0 : P 0) : ∀ j, j < 1 → P j := lt_s td_j0 h0
theorem td_j2 {P : Nat → Prop} (h0 : P 0) (h1 : P 1) : ∀ j, j < 2 → P j := lt_s (td_j1 h0) h1
theorem td_j3 {P : Nat → Prop} (h0 : P 0) (h1 : P 1) (h2 : P 2) : ∀ j, j < 3 → P j := lt_s (td_j2 h0 h1) h2
theorem td_j4 {P : Nat → Prop} (h0 : P 0) (h1 : P 1) (h2 : P 2) (h3 : P 3) : ∀ j, j < 4 → P j := lt_s (td_j3 h0 h1 h2) h3
theorem td_L1 : ∀ p, p < 5 → ∀ N v M : Nat, N < 32768 → N % td_q p = 0 → td_dg N p ≤ v → v ≤ 7 → M = N + (v - td_dg N p) * td_q p → M < 32768 ∧ M % td_q p = 0 ∧ td_dg M p = v ∧ (∀ j, j < p → td_dg M j = td_dg N j) ∧ N ≤ M ∧ ∀ c, N ≤ c → c < M → (∀ j, j < p → td_dg c j = td_dg N j) ∧ td_dg N p ≤ td_dg c p ∧ td_dg c p < v := by
  refine td_5 ?_ ?_ ?_ ?_ ?_
  · intro N v M hN hq hd hv hM
    rw [td_q0] at hq hM
    rw [td_dg0] at hd hM
    rw [td_q0, td_dg0]
    refine ⟨by omega, by omega, by omega, td_j0, by omega, fun c h1 h2 => ⟨td_j0, ?_, ?_⟩⟩
    · rw [td_dg0, td_dg0]; omega
    · rw [td_dg0]; omega
  · intro N v M hN hq hd hv hM
    rw [td_q1] at hq hM
    rw [td_dg1] at hd hM
    rw [td_q1, td_dg1]
    refine ⟨by omega, by omega, by omega, td_j1 (by rw [td_dg0, td_dg0]; omega), by omega, fun c h1 h2 => ⟨td_j1 (by rw [td_dg0, td_dg0]; omega), ?_, ?_⟩⟩
    · rw [td_dg1, td_dg1]; omega
    · rw [td_dg1]; omega
  · intro N v M hN hq hd hv hM
    rw [td_q2] at hq hM
    rw [td_dg2] at hd hM
    rw [td_q2, td_dg2]
    refine ⟨by omega, by omega, by omega, td_j2 (by rw [td_dg0, td_dg0]; omega) (by rw [td_dg1, td_dg1]; omega), by omega, fun c h1 h2 => ⟨td_j2 (by rw [td_dg0, td_dg0]; omega) (by rw [td_dg1, td_dg1]; omega), ?_, ?_⟩⟩
    · rw [td_dg2, td_dg2]; omega
    · rw [td_dg2]; omega
  · intro N v M hN hq hd hv hM
    rw [td_q3] at hq hM
    rw [td_dg3] at hd hM
    rw [td_q3, td_dg3]
    refine ⟨by omega, by omega, by omega, td_j3 (by rw [td_dg0, td_dg0]; omega) (by rw [td_dg1, td_dg1]; omega) (by rw [td_dg2, td_dg2]; omega), by omega, fun c h1 h2 => ⟨td_j3 (by rw [td_dg0, td_dg0]; omega) (by rw [td_dg1, td_dg1]; omega) (by rw [td_dg2, td_dg2]; omega), ?_, ?_⟩⟩
    · rw [td_dg3, td_dg3]; omega
    · rw [td_dg3]; omega
  · intro N v M hN hq hd hv hM
    rw [td_q4] at hq hM
    rw [td_dg4] at hd hM
    rw [td_q4, td_dg4]
    refine ⟨by omega, by omega, by omega, td_j4 (by rw [td_dg0, td_dg0]; omega) (by rw [td_dg1, td_dg1]; omega) (by rw [td_dg2, td_dg2]; omega) (by rw [td_dg3, td_dg3]; omega), by omega, fun c h1 h2 => ⟨td_j4 (by rw [td_dg0, td_dg0]; omega) (by rw [td_dg1, td_dg1]; omega) (by rw [td_dg2, td_dg2]; omega) (by rw [td_dg3, td_dg3]; omega), ?_, ?_⟩⟩
    · rw [td_dg4, td_dg4]; omega
    · rw [td_dg4]; omega
theorem td_L2 : ∀ p, p < 4 → ∀ M : Nat, M % td_q p = 0 → M % td_q (p + 1) = 0 ∧ td_dg M (p + 1) = 0 := by
  refine td_j4 ?_ ?_ ?_ ?_
  · intro M hq
    rw [td_q0] at hq
    exact ⟨by show M % td_q 1 = 0; rw [td_q1]; omega, by show td_dg M 1 = 0; rw [td_dg1]; omega⟩
  · intro M hq
    rw [td_q1] at hq
    exact ⟨by show M % td_q 2 = 0; rw [td_q2]; omega, by show td_dg M 2 = 0; rw [td_dg2]; omega⟩
  · intro M hq
    rw [td_q2] at hq
    exact ⟨by show M % td_q 3 = 0; rw [td_q3]; omega, by show td_dg M 3 = 0; rw [td_dg3]; omega⟩
  · intro M hq
    rw [td_q3] at hq
    exact ⟨by show M % td_q 4 = 0; rw [td_q4]; omega, by show td_dg M 4 = 0; rw [td_dg4]; omega⟩
theorem td_L3 : ∀ r, r < 4 → ∀ M M' : Nat, M < 32768 → M % td_q (r + 1) = 0 → td_dg M (r + 1) = 7 → td_dg M r < 7 → M' = M + td_q (r + 1) → M' < 32768 ∧ M' % td_q r = 0 ∧ td_dg M' r = td_dg M r + 1 ∧ (∀ j, j < r → td_dg M' j = td_dg M j) ∧ M ≤ M' ∧ ∀ c, M ≤ c → c < M' → (∀ j, j < r + 1 → td_dg c j = td_dg M j) ∧ td_dg c (r + 1) = 7 := by
  refine td_j4 ?_ ?_ ?_ ?_
  · intro M M' hN hq hd hr hM
    have hq : M % td_q 1 = 0 := hq
    have hd : td_dg M 1 = 7 := hd
    have hM : M' = M + td_q 1 := hM
    rw [td_q1] at hq hM
    rw [td_dg1] at hd
    rw [td_dg0] at hr
    rw [td_q0, td_dg0, td_dg0]
    refine ⟨by omega, by omega, by omega, td_j0, by omega, fun c h1 h2 => ⟨td_j1 (by rw [td_dg0, td_dg0]; omega), ?_⟩⟩
    show td_dg c 1 = 7
    rw [td_dg1]
    omega
  · intro M M' hN hq hd hr hM
    have hq : M % td_q 2 = 0 := hq
    have hd : td_dg M 2 = 7 := hd
    have hM : M' = M + td_q 2 := hM
    rw [td_q2] at hq hM
    rw [td_dg2] at hd
    rw [td_dg1] at hr
    rw [td_q1, td_dg1, td_dg1]
    refine ⟨by omega, by omega, by omega, td_j1 (by rw [td_dg0, td_dg0]; omega), by omega, fun c h1 h2 => ⟨td_j2 (by rw [td_dg0, td_dg0]; omega) (by rw [td_dg1, td_dg1]; omega), ?_⟩⟩
    show td_dg c 2 = 7
    rw [td_dg2]
    omega
  · intro M M' hN hq hd hr hM
    have hq : M % td_q 3 = 0 := hq
    have hd : td_dg M 3 = 7 := hd
    have hM : M' = M + td_q 3 := hM
    rw [td_q3] at hq hM
    rw [td_dg3] at hd
    rw [td_dg2] at hr
    rw [td_q2, td_dg2, td_dg2]
    refine ⟨by omega, by omega, by omega, td_j2 (by rw [td_dg0, td_dg0]; omega) (by rw [td_dg1, td_dg1]; omega), by omega, fun c h1 h2 => ⟨td_j3 (by rw [td_dg0, td_dg0]; omega) (by rw [td_dg1, td_dg1]; omega) (by rw [td_dg2, td_dg2]; omega), ?_⟩⟩
    show td_dg c 3 = 7
    rw [td_dg3]
    omega
  · intro M M' hN hq hd hr hM
    have hq : M % td_q 4 = 0 := hq
    have hd : td_dg M 4 = 7 := hd
    have hM : M' = M + td_q 4 := hM
    rw [td_q4] at hq hM
    rw [td_dg4] at hd
    rw [td_dg3] at hr
    rw [td_q3, td_dg3, td_dg3]
    refine ⟨by omega, by omega, by omega, td_j3 (by rw [td_dg0, td_dg0]; omega) (by rw [td_dg1, td_dg1]; omega) (by rw [td_dg2, td_dg2]; omega), by omega, fun c h1 h2 => ⟨td_j4 (by rw [td_dg0, td_dg0]; omega) (by rw [td_dg1, td_dg1]; omega) (by rw [td_dg2, td_dg2]; omega) (by rw [td_dg3, td_dg3]; omega), ?_⟩⟩
    show td_dg c 4 = 7
    rw [td_dg4]
    omega
theorem td_L30 {M : Nat} (hN : M < 32768) (hq : M % td_q 0 = 0) (hd : td_dg M 0 = 7) : M + td_q 0 = 32768 ∧ ∀ c, M ≤ c → c < M + td_q 0 → td_dg c 0 = 7 := by
  rw [td_q0] at hq
  rw [td_dg0] at hd
  rw [td_q0]
  refine ⟨by omega, fun c h1 h2 => ?_⟩
  rw [td_dg0]
  omega
theorem td_L4 {M : Nat} (hN : M < 32768) (hd : td_dg M 4 < 7) : M + 1 < 32768 ∧ td_dg (M + 1) 4 = td_dg M 4 + 1 ∧ ∀ j, j < 4 → td_dg (M + 1) j = td_dg M j := by
  rw [td_dg4] at hd
  rw [td_dg4, td_dg4]
  exact ⟨by omega, by omega, td_j4 (by rw [td_dg0, td_dg0]; omega) (by rw [td_dg1, td_dg1]; omega) (by rw [td_dg2, td_dg2]; omega) (by rw [td_dg3, td_dg3]; omega)⟩
theorem td_nf {D C : Nat → Nat} {c N p : Nat} (hp : p < 5) (h : ∀ j, j < p → td_dg c j = td_dg N j) (hx : ¬ (td_dg c p < 7 ∧ (D p).testBit (td_dg c p) = true ∧ td_cn N p (td_dg c p) < C (td_dg c p))) : td_fl D C c = false := by
  apply Bool.eq_false_iff.mpr
  intro z
  have y := td_fl_iff2.mp z p hp
  apply hx
  have l := td_dg_lt c p
  have e := y.2.2
  rw [td_cn_s, if_pos rfl, td_cn_eq h] at e
  exact ⟨by omega, y.2.1, by omega⟩
/-- the first p places of N are filled as they may be -/
def td_gp (D C : Nat → Nat) (N p : Nat) : Prop := ∀ j, j < p → td_dg N j ≠ 7 ∧ (D j).testBit (td_dg N j) = true ∧ td_cn N (j + 1) (td_dg N j) ≤ C (td_dg N j)
theorem td_gp_cg {D C : Nat → Nat} {N M p : Nat} (h : ∀ j, j < p → td_dg M j = td_dg N j) (g : td_gp D C N p) : td_gp D C M p := by
  intro j hj
  have e : td_cn M (j + 1) (td_dg N j) = td_cn N (j + 1) (td_dg N j) := td_cn_eq (fun i hi => h i (by omega)) _
  rw [h j hj, e]
  exact g j hj
theorem td_gp_s {D C : Nat → Nat} {M p : Nat} (g : td_gp D C M p) (h1 : td_dg M p < 7) (h2 : (D p).testBit (td_dg M p) = true) (h3 : td_cn M p (td_dg M p) < C (td_dg M p)) : td_gp D C M (p + 1) := by
  refine lt_s g ⟨by omega, h2, ?_⟩
  rw [td_cn_s, if_pos rfl]
  omega
theorem td_gp_d {D C : Nat → Nat} {M p : Nat} (g : td_gp D C M (p + 1)) : td_gp D C M p := fun j hj => g j (by omega)
theorem td_gp_5 {D C : Nat → Nat} {M : Nat} (g : td_gp D C M 5) : td_fl D C M = true := td_fl_iff2.mpr g
/-! supports, pruning, unused -/
def td_su (D C : Nat → Nat) (i : Nat) : Nat := td_or (td_fl D C) (fun c => 2 ^ td_dg c i) 32768
theorem td_su_b {D C : Nat → Nat} {i v : Nat} : (td_su D C i).testBit v = true ↔ ∃ c, c < 32768 ∧ td_fl D C c = true ∧ td_dg c i = v := by
  unfold td_su
  rw [td_or_b]
  constructor
  · intro ⟨c, a, b, e⟩
    rw [Nat.testBit_two_pow, decide_eq_true_eq] at e
    exact ⟨c, a, b, e⟩
  · intro ⟨c, a, b, e⟩
    refine ⟨c, a, b, ?_⟩
    rw [Nat.testBit_two_pow, decide_eq_true_eq]
    exact e
theorem td_fl_7 {D C : Nat → Nat} {c i : Nat} (h : td_fl D C c = true) (hi : i < 5) : td_dg c i < 7 := by
  have a := (td_fl_iff2.mp h i hi).1
  have b := td_dg_lt c i
  omega
theorem td_p7 {v : Nat} (h : v < 7) : 2 ^ v < 2 ^ 7 := Nat.pow_lt_pow_right (by decide) h
theorem td_sup_lt {D C : Nat → Nat} {i : Nat} (hi : i < 5) (n : Nat) : td_or (td_fl D C) (fun c => 2 ^ td_dg c i) n < 128 := td_or_lt (k := 7) n (fun _ _ h => td_p7 (td_fl_7 h hi))
theorem td_su_lt {D C : Nat → Nat} {i : Nat} (hi : i < 5) : td_su D C i < 128 := td_sup_lt hi 32768
theorem td_su_sub {D C : Nat → Nat} {i v : Nat} (hi : i < 5) (h : (td_su D C i).testBit v = true) : (D i).testBit v = true := by
  obtain ⟨c, _, b, e⟩ := td_su_b.mp h
  rw [← e]
  exact (td_fl_iff2.mp b i hi).2.1
theorem td_fl_cg {D D' C : Nat → Nat} (h1 : ∀ c, c < 32768 → td_fl D C c = true → ∀ i, i < 5 → (D' i).testBit (td_dg c i) = true) (h2 : ∀ i, i < 5 → ∀ v, (D' i).testBit v = true → (D i).testBit v = true) : ∀ c, c < 32768 → td_fl D' C c = td_fl D C c := by
  intro c hc
  apply Bool.eq_iff_iff.mpr
  constructor
  · intro z
    rw [td_fl_iff2] at z ⊢
    exact fun i hi => ⟨(z i hi).1, h2 i hi _ (z i hi).2.1, (z i hi).2.2⟩
  · intro z
    have y := h1 c hc z
    rw [td_fl_iff2] at z ⊢
    exact fun i hi => ⟨(z i hi).1, y i hi, (z i hi).2.2⟩
def td_Dk (D C : Nat → Nat) (k : Nat) : Nat → Nat := fun j => if j < k then td_su D C j else D j
theorem td_Dk_fl {D C : Nat → Nat} (k : Nat) : ∀ c, c < 32768 → td_fl (td_Dk D C k) C c = td_fl D C c := by
  refine td_fl_cg ?_ ?_
  · intro c hc h i hi
    show ((if i < k then td_su D C i else D i) : Nat).testBit (td_dg c i) = true
    by_cases q : i < k
    · rw [if_pos q]
      exact td_su_b.mpr ⟨c, hc, h, rfl⟩
    · rw [if_neg q]
      exact (td_fl_iff2.mp h i hi).2.1
  · intro i hi v h
    have h : ((if i < k then td_su D C i else D i) : Nat).testBit v = true := h
    by_cases q : i < k
    · rw [if_pos q] at h
      exact td_su_sub hi h
    · rw [if_neg q] at h
      exact h
theorem td_Dk_su {D C : Nat → Nat} (k i : Nat) : td_su (td_Dk D C k) C i = td_su D C i := td_or_cg 32768 (td_Dk_fl k)
theorem td_sz_cl {d s : Nat} (h : ∀ i, s.testBit i = true → d.testBit i = true) (n : Nat) (hn : n ≤ 7) : td_sz (d &&& (s ^^^ 127)) n + td_sz s n = td_sz d n := by
  induction n with
  | zero => rfl
  | succ n ih =>
    have h1 := ih (by omega)
    rw [td_sz_s, td_sz_s, td_sz_s, Nat.testBit_and, Nat.testBit_xor, td_127, decide_eq_true (show n < 7 from by omega)]
    cases q : s.testBit n
    · cases u : d.testBit n
      · simp <;> omega
      · simp <;> omega
    · rw [h n q]
      simp <;> omega
def td_us (D C : Nat → Nat) : Nat → Nat
  | 0 => 0
  | i + 1 => td_us D C i ||| td_su D C i
theorem td_us_b {D C : Nat → Nat} {v : Nat} (n : Nat) : (td_us D C n).testBit v = true ↔ ∃ i, i < n ∧ (td_su D C i).testBit v = true := by
  induction n with
  | zero =>
    constructor
    · intro z
      rw [show td_us D C 0 = 0 from rfl, Nat.zero_testBit] at z
      exact absurd z (by decide)
    · intro ⟨i, hi, _⟩
      exact absurd hi (Nat.not_lt_zero i)
  | succ n ih =>
    show (td_us D C n ||| td_su D C n).testBit v = true ↔ _
    rw [Nat.testBit_or, Bool.or_eq_true, ih]
    constructor
    · intro z
      rcases z with ⟨i, hi, z⟩ | z
      · exact ⟨i, by omega, z⟩
      · exact ⟨n, by omega, z⟩
    · intro ⟨i, hi, z⟩
      by_cases q : i < n
      · exact Or.inl ⟨i, q, z⟩
      · have e : i = n := by omega
        rw [e] at z
        exact Or.inr z
theorem td_cn_pos {c v : Nat} (n : Nat) : 0 < td_cn c n v ↔ ∃ i, i < n ∧ td_dg c i = v := by
  induction n with
  | zero =>
    constructor
    · intro z; exact absurd z (Nat.lt_irrefl 0)
    · intro ⟨i, hi, _⟩; exact absurd hi (Nat.not_lt_zero i)
  | succ n ih =>
    rw [td_cn_s]
    by_cases q : td_dg c n = v
    · rw [if_pos q]
      exact ⟨fun _ => ⟨n, by omega, q⟩, fun _ => by omega⟩
    · rw [if_neg q, Nat.add_zero, ih]
      constructor
      · intro ⟨i, hi, z⟩; exact ⟨i, by omega, z⟩
      · intro ⟨i, hi, z⟩
        by_cases u : i < n
        · exact ⟨i, u, z⟩
        · have e : i = n := by omega
          rw [e] at z
          exact absurd z q
def td_so (c n : Nat) : Nat := td_bs (fun v => decide (0 < td_cn c 5 v)) n
def td_fu (C : Nat → Nat) (c n : Nat) : Nat := td_bs (fun v => decide (0 < C v ∧ td_cn c 5 v = C v)) n
theorem td_ever {D C : Nat → Nat} : td_or (td_fl D C) (fun c => td_so c 7) 32768 = td_us D C 5 := by
  apply Nat.eq_of_testBit_eq
  intro v
  apply Bool.eq_iff_iff.mpr
  rw [td_or_b, td_us_b]
  constructor
  · intro ⟨c, a, b, e⟩
    have e : (td_bs (fun v => decide (0 < td_cn c 5 v)) 7).testBit v = true := e
    rw [td_bs_b, decide_eq_true_eq, td_cn_pos] at e
    obtain ⟨_, i, hi, z⟩ := e
    exact ⟨i, hi, td_su_b.mpr ⟨c, a, b, z⟩⟩
  · intro ⟨i, hi, z⟩
    obtain ⟨c, a, b, e⟩ := td_su_b.mp z
    refine ⟨c, a, b, ?_⟩
    show (td_bs (fun v => decide (0 < td_cn c 5 v)) 7).testBit v = true
    rw [td_bs_b, decide_eq_true_eq, td_cn_pos]
    exact ⟨by rw [← e]; exact td_fl_7 b hi, i, hi, e⟩
theorem td_us_lt {D C : Nat → Nat} (n : Nat) (hn : n ≤ 5) : td_us D C n < 128 := by
  induction n with
  | zero => exact (by decide : 0 < 128)
  | succ n ih => exact Nat.or_lt_two_pow (n := 7) (ih (by omega)) (td_su_lt (by omega))
/-! three bits for each value count its uses -/
def td_pk (f : Nat → Nat) : Nat := f 0 + 8 * f 1 + 64 * f 2 + 512 * f 3 + 4096 * f 4 + 32768 * f 5 + 262144 * f 6
theorem td_pk_lt {f : Nat → Nat} (h : ∀ v, f v ≤ 5) : td_pk f < 2097152 := by
  have h0 := h 0
  have h1 := h 1
  have h2 := h 2
  have h3 := h 3
  have h4 := h 4
  have h5 := h 5
  have h6 := h 6
  unfold td_pk
  omega
theorem td_pk_get {f : Nat → Nat} (h : ∀ v, f v ≤ 5) : ∀ v, v < 7 → td_pk f / 2 ^ (3 * v) % 8 = f v := by
  have h0 := h 0
  have h1 := h 1
  have h2 := h 2
  have h3 := h 3
  have h4 := h 4
  have h5 := h 5
  have h6 := h 6
  unfold td_pk
  refine td_7 ?_ ?_ ?_ ?_ ?_ ?_ ?_
  · show (f 0 + 8 * f 1 + 64 * f 2 + 512 * f 3 + 4096 * f 4 + 32768 * f 5 + 262144 * f 6) / 1 % 8 = f 0; omega
  · show (f 0 + 8 * f 1 + 64 * f 2 + 512 * f 3 + 4096 * f 4 + 32768 * f 5 + 262144 * f 6) / 8 % 8 = f 1; omega
  · show (f 0 + 8 * f 1 + 64 * f 2 + 512 * f 3 + 4096 * f 4 + 32768 * f 5 + 262144 * f 6) / 64 % 8 = f 2; omega
  · show (f 0 + 8 * f 1 + 64 * f 2 + 512 * f 3 + 4096 * f 4 + 32768 * f 5 + 262144 * f 6) / 512 % 8 = f 3; omega
  · show (f 0 + 8 * f 1 + 64 * f 2 + 512 * f 3 + 4096 * f 4 + 32768 * f 5 + 262144 * f 6) / 4096 % 8 = f 4; omega
  · show (f 0 + 8 * f 1 + 64 * f 2 + 512 * f 3 + 4096 * f 4 + 32768 * f 5 + 262144 * f 6) / 32768 % 8 = f 5; omega
  · show (f 0 + 8 * f 1 + 64 * f 2 + 512 * f 3 + 4096 * f 4 + 32768 * f 5 + 262144 * f 6) / 262144 % 8 = f 6; omega
theorem td_pk_add {c i : Nat} (h : td_dg c i < 7) : td_pk (td_cn c i) + 2 ^ (3 * td_dg c i) = td_pk (td_cn c (i + 1)) := by
  unfold td_pk
  rw [td_cn_s, td_cn_s, td_cn_s, td_cn_s, td_cn_s, td_cn_s, td_cn_s]
  revert h
  generalize td_dg c i = v
  revert v
  refine td_7 ?_ ?_ ?_ ?_ ?_ ?_ ?_
  · simp <;> omega
  · simp <;> omega
  · simp <;> omega
  · simp <;> omega
  · simp <;> omega
  · simp <;> omega
  · simp <;> omega
theorem td_pk_s7 {c i : Nat} (h : td_dg c i = 7) : td_pk (td_cn c (i + 1)) = td_pk (td_cn c i) := by
  unfold td_pk
  rw [td_cn_s, td_cn_s, td_cn_s, td_cn_s, td_cn_s, td_cn_s, td_cn_s, h]
  simp
