/-! sizes, rooms; Hall's theorem with capacities over at most five places -/
def td_sz (s : Nat) : Nat → Nat
  | 0 => 0
  | k + 1 => td_sz s k + s / 2 ^ k % 2
theorem td_sz_s (s k : Nat) : td_sz s (k + 1) = td_sz s k + if s.testBit k = true then 1 else 0 := by
  rw [← td_tb]
  rfl
theorem td_sz_le (s k : Nat) : td_sz s k ≤ k := by
  induction k with
  | zero => exact Nat.le_refl 0
  | succ k ih =>
    show td_sz s k + s / 2 ^ k % 2 ≤ _
    have : s / 2 ^ k % 2 < 2 := Nat.mod_lt _ (by decide)
    omega
theorem td_hb {s k n : Nat} (h : s < 2 ^ n) (hk : n ≤ k) : s.testBit k = false := Nat.testBit_lt_two_pow (Nat.lt_of_lt_of_le h (Nat.pow_le_pow_right (by decide) hk))
theorem td_sz8 {s : Nat} (h : s < 128) : td_sz s 8 = td_sz s 7 := by
  have e := td_sz_s s 7
  rw [td_hb (k := 7) (n := 7) h (by omega), if_neg (by decide)] at e
  exact e
theorem td_sz5 {s : Nat} (h : s < 32) : td_sz s 7 = td_sz s 5 := by
  have e := td_sz_s s 6
  have e2 := td_sz_s s 5
  rw [td_hb (k := 6) (n := 5) h (by omega), if_neg (by decide)] at e
  rw [td_hb (k := 5) (n := 5) h (by omega), if_neg (by decide)] at e2
  exact e.trans e2
theorem td_t1 : ∀ S, S < 32 → ∀ T, T < 32 → S &&& T = S → td_sz (T ^^^ S) 7 + td_sz S 7 = td_sz T 7 := by decide +kernel
theorem td_t2 : ∀ S, S < 32 → ∀ T, T < 32 → S &&& T = 0 → td_sz (S ||| T) 7 = td_sz S 7 + td_sz T 7 := by decide +kernel
theorem td_t3 : ∀ S, S < 32 → S ≠ 0 → 0 < td_sz S 7 := by decide +kernel
theorem td_t4 : ∀ i, i < 5 → td_sz (2 ^ i) 7 = 1 ∧ 2 ^ i < 32 := by decide +kernel
theorem td_t5 : ∀ T, T < 32 → T ≠ 0 → T.testBit 0 = true ∨ T.testBit 1 = true ∨ T.testBit 2 = true ∨ T.testBit 3 = true ∨ T.testBit 4 = true := by decide +kernel
theorem td_t6 : ∀ S, S < 32 → ∀ T, T < 32 → S &&& T = S → td_sz S 7 ≤ td_sz T 7 := by decide +kernel
theorem td_t7 : ∀ T, T < 32 → ∀ i, i < 5 → T.testBit i = true → 2 ^ i &&& T = 2 ^ i := by decide +kernel
theorem td_sub {S T : Nat} (h : S &&& T = S) {i : Nat} (hi : S.testBit i = true) : T.testBit i = true := by
  rw [← h, Nat.testBit_and, Bool.and_eq_true] at hi
  exact hi.2
theorem td_sub_tr {S T U : Nat} (h : S &&& T = S) (h2 : T &&& U = T) : S &&& U = S := by
  rw [← h, Nat.and_assoc, h2]
theorem td_x0 {S T : Nat} (h : T ^^^ S = 0) : S = T := by
  apply Nat.eq_of_testBit_eq
  intro i
  have a : (T ^^^ S).testBit i = false := by rw [h, Nat.zero_testBit]
  rw [Nat.testBit_xor] at a
  revert a
  cases T.testBit i <;> cases S.testBit i <;> decide
theorem td_dj {S S' T : Nat} (h : S &&& T = S) (h2 : S' &&& (T ^^^ S) = S') : S &&& S' = 0 := by
  apply Nat.eq_of_testBit_eq
  intro i
  rw [Nat.zero_testBit, Nat.testBit_and]
  cases hS : S.testBit i
  · rfl
  · cases hS' : S'.testBit i
    · rfl
    · have a := td_sub h hS
      have b := td_sub h2 hS'
      rw [Nat.testBit_xor, hS, a] at b
      exact absurd b (by decide)
theorem td_un2 {S S' T : Nat} (h : S &&& T = S) (h2 : S' &&& (T ^^^ S) = S') : (S ||| S') &&& T = S ||| S' := by
  apply Nat.eq_of_testBit_eq
  intro i
  rw [Nat.testBit_and, Nat.testBit_or]
  cases hS : S.testBit i
  · cases hS' : S'.testBit i
    · rfl
    · have b := td_sub h2 hS'
      rw [Nat.testBit_xor, hS] at b
      rw [show T.testBit i = true from by revert b; cases T.testBit i <;> decide]
      rfl
  · rw [td_sub h hS]
    rfl
/-- value v is in the domain of one of the first n places of S -/
def td_ub (E : Nat → Nat → Bool) (S v : Nat) : Nat → Bool
  | 0 => false
  | i + 1 => td_ub E S v i || (S.testBit i && E i v)
theorem td_ub_iff {E : Nat → Nat → Bool} {S v : Nat} (n : Nat) : td_ub E S v n = true ↔ ∃ i, i < n ∧ S.testBit i = true ∧ E i v = true := by
  induction n with
  | zero =>
    constructor
    · intro z; exact absurd (show false = true from z) (by decide)
    · intro ⟨i, hi, _⟩; exact absurd hi (Nat.not_lt_zero i)
  | succ n ih =>
    show (td_ub E S v n || (S.testBit n && E n v)) = true ↔ _
    rw [Bool.or_eq_true, ih, Bool.and_eq_true]
    constructor
    · intro z
      rcases z with ⟨i, hi, z⟩ | z
      · exact ⟨i, by omega, z⟩
      · exact ⟨n, by omega, z⟩
    · intro ⟨i, hi, z⟩
      by_cases q : i < n
      · exact Or.inl ⟨i, q, z⟩
      · have e : i = n := by omega
        rw [e] at z
        exact Or.inr z
theorem td_ub_or {E : Nat → Nat → Bool} {S S' v : Nat} (n : Nat) : td_ub E (S ||| S') v n = (td_ub E S v n || td_ub E S' v n) := by
  induction n with
  | zero => rfl
  | succ n ih =>
    show (td_ub E (S ||| S') v n || ((S ||| S').testBit n && E n v)) = ((td_ub E S v n || (S.testBit n && E n v)) || (td_ub E S' v n || (S'.testBit n && E n v)))
    rw [ih, Nat.testBit_or]
    cases td_ub E S v n <;> cases td_ub E S' v n <;> cases S.testBit n <;> cases S'.testBit n <;> cases E n v <;> rfl
def td_rm (E : Nat → Nat → Bool) (C : Nat → Nat) (S : Nat) : Nat → Nat
  | 0 => 0
  | v + 1 => td_rm E C S v + if td_ub E S v 5 = true then C v else 0
theorem td_rm_s (E : Nat → Nat → Bool) (C : Nat → Nat) (S v : Nat) : td_rm E C S (v + 1) = td_rm E C S v + if td_ub E S v 5 = true then C v else 0 := rfl
theorem td_rm_un {E : Nat → Nat → Bool} {C : Nat → Nat} {S S' : Nat} (n : Nat) : td_rm E C (S ||| S') n = td_rm E C S n + td_rm E (fun v => if td_ub E S v 5 = true then 0 else C v) S' n := by
  induction n with
  | zero => rfl
  | succ n ih =>
    rw [td_rm_s, td_rm_s, td_rm_s, ih, td_ub_or]
    try dsimp only
    cases td_ub E S n 5 <;> cases td_ub E S' n 5 <;> simp <;> omega
theorem td_rm_pos {E : Nat → Nat → Bool} {C : Nat → Nat} {S : Nat} (n : Nat) (h : 0 < td_rm E C S n) : ∃ v, v < n ∧ td_ub E S v 5 = true ∧ 0 < C v := by
  induction n with
  | zero => exact absurd h (Nat.lt_irrefl 0)
  | succ n ih =>
    rw [td_rm_s] at h
    by_cases q : 0 < td_rm E C S n
    · obtain ⟨v, hv, z⟩ := ih q
      exact ⟨v, by omega, z⟩
    · by_cases u : td_ub E S n 5 = true
      · rw [if_pos u] at h
        exact ⟨n, by omega, u, by omega⟩
      · rw [if_neg u] at h
        omega
theorem td_rm_dec {E : Nat → Nat → Bool} {C : Nat → Nat} {S v : Nat} (n : Nat) : td_rm E C S n ≤ td_rm E (fun u => if u = v then C u - 1 else C u) S n + if v < n then 1 else 0 := by
  induction n with
  | zero => exact Nat.zero_le _
  | succ n ih =>
    rw [td_rm_s, td_rm_s]
    by_cases q : n = v
    · subst q
      rw [if_neg (Nat.lt_irrefl n)] at ih
      by_cases u : td_ub E S n 5 = true
      · simp [u] <;> omega
      · simp [u] <;> omega
    · rw [if_neg q]
      have e : (if v < n + 1 then 1 else 0) = (if v < n then 1 else 0) := by
        by_cases z : v < n
        · rw [if_pos z, if_pos (by omega)]
        · rw [if_neg z, if_neg (by omega)]
      rw [e]
      omega
/-- how many of the first n places of T have v by g -/
def td_nu (g : Nat → Nat) (T v : Nat) : Nat → Nat
  | 0 => 0
  | i + 1 => td_nu g T v i + if T.testBit i = true ∧ g i = v then 1 else 0
theorem td_nu_s (g : Nat → Nat) (T v i : Nat) : td_nu g T v (i + 1) = td_nu g T v i + if T.testBit i = true ∧ g i = v then 1 else 0 := rfl
theorem td_nu_0 {g : Nat → Nat} {T v : Nat} (n : Nat) (h : ∀ i, i < n → T.testBit i = true → g i ≠ v) : td_nu g T v n = 0 := by
  induction n with
  | zero => rfl
  | succ n ih =>
    rw [td_nu_s, ih (fun i hi => h i (by omega)), if_neg (fun z => h n (by omega) z.1 z.2)]
theorem td_nu_sp {g1 g2 : Nat → Nat} {S T v : Nat} (hS : S &&& T = S) (n : Nat) : td_nu (fun i => if S.testBit i = true then g1 i else g2 i) T v n = td_nu g1 S v n + td_nu g2 (T ^^^ S) v n := by
  induction n with
  | zero => rfl
  | succ n ih =>
    rw [td_nu_s, td_nu_s, td_nu_s, ih, Nat.testBit_xor]
    by_cases q : S.testBit n = true
    · have q2 := td_sub hS q
      rw [q, q2]
      simp <;> omega
    · have q3 : S.testBit n = false := Bool.eq_false_iff.mpr q
      rw [q3]
      simp <;> omega
theorem td_nu_ad {g : Nat → Nat} {T v w i : Nat} (hi : T.testBit i = true) (n : Nat) : td_nu (fun j => if j = i then w else g j) T v n ≤ td_nu g (T ^^^ 2 ^ i) v n + if i < n ∧ w = v then 1 else 0 := by
  induction n with
  | zero => exact Nat.zero_le _
  | succ n ih =>
    rw [td_nu_s, td_nu_s, Nat.testBit_xor, Nat.testBit_two_pow]
    by_cases q : n = i
    · subst q
      rw [if_neg (fun z => Nat.lt_irrefl n z.1)] at ih
      by_cases u : w = v
      · subst u
        simp [hi] <;> omega
      · simp [hi, u] <;> omega
    · rw [if_neg q, decide_eq_false (fun z => q z.symm), Bool.xor_false]
      have e : (if i < n + 1 ∧ w = v then 1 else 0) = (if i < n ∧ w = v then 1 else 0) := by
        by_cases z : i < n ∧ w = v
        · rw [if_pos z, if_pos ⟨by omega, z.2⟩]
        · rw [if_neg z, if_neg (fun y => z ⟨by omega, y.2⟩)]
      rw [e]
      omega
theorem td_hall (E : Nat → Nat → Bool) : ∀ n T, td_sz T 7 = n → T < 32 → ∀ C : Nat → Nat, (∀ S, S < 32 → S &&& T = S → td_sz S 7 ≤ td_rm E C S 8) → ∃ g : Nat → Nat, (∀ i, i < 5 → T.testBit i = true → g i < 8 ∧ E i (g i) = true) ∧ ∀ v, td_nu g T v 5 ≤ C v := by
  intro n
  induction n using Nat.strongRecOn with
  | _ n ih =>
    intro T hn hT C hC
    by_cases hT0 : T = 0
    · refine ⟨fun _ => 0, fun i _ hi => ?_, fun v => ?_⟩
      · rw [hT0, Nat.zero_testBit] at hi
        exact absurd hi (by decide)
      · rw [td_nu_0 5 (fun i _ hi => by rw [hT0, Nat.zero_testBit] at hi; exact absurd hi (by decide))]
        exact Nat.zero_le _
    · by_cases hB : ∃ S, S < 32 ∧ S &&& T = S ∧ S ≠ 0 ∧ S ≠ T ∧ td_sz S 7 = td_rm E C S 8
      · obtain ⟨S, hS, hST, hS0, hSn, hSt⟩ := hB
        have hX : T ^^^ S < 32 := Nat.xor_lt_two_pow (n := 5) hT hS
        have k1 := td_t1 S hS T hT hST
        have k2 := td_t3 S hS hS0
        have k3 : 0 < td_sz (T ^^^ S) 7 := td_t3 _ hX (fun z => hSn (td_x0 z))
        obtain ⟨g1, a1, b1⟩ := ih (td_sz S 7) (by omega) S rfl hS C (fun S' h1 h2 => hC S' h1 (td_sub_tr h2 hST))
        obtain ⟨g2, a2, b2⟩ := ih (td_sz (T ^^^ S) 7) (by omega) (T ^^^ S) rfl hX (fun v => if td_ub E S v 5 = true then 0 else C v) (fun S' h1 h2 => by
          have c1 := hC (S ||| S') (Nat.or_lt_two_pow (n := 5) hS h1) (td_un2 hST h2)
          rw [td_t2 S hS S' h1 (td_dj hST h2), td_rm_un] at c1
          omega)
        refine ⟨fun i => if S.testBit i = true then g1 i else g2 i, fun i hi hTi => ?_, fun v => ?_⟩
        · show (if S.testBit i = true then g1 i else g2 i) < 8 ∧ E i (if S.testBit i = true then g1 i else g2 i) = true
          by_cases q : S.testBit i = true
          · rw [if_pos q]
            exact a1 i hi q
          · rw [if_neg q]
            refine a2 i hi ?_
            rw [Nat.testBit_xor, hTi, Bool.eq_false_iff.mpr q]
            rfl
        · rw [td_nu_sp hST]
          by_cases q : td_ub E S v 5 = true
          · have t2 : td_nu g2 (T ^^^ S) v 5 ≤ if td_ub E S v 5 = true then 0 else C v := b2 v
            rw [if_pos q] at t2
            have t1 := b1 v
            omega
          · have t2 : td_nu g2 (T ^^^ S) v 5 ≤ if td_ub E S v 5 = true then 0 else C v := b2 v
            rw [if_neg q] at t2
            rw [td_nu_0 (g := g1) (T := S) (v := v) 5 (fun i hi hSi z => q ((td_ub_iff 5).mpr ⟨i, hi, hSi, by rw [← z]; exact (a1 i hi hSi).2⟩))]
            omega
      · have hi : ∃ i, i < 5 ∧ T.testBit i = true := by
          rcases td_t5 T hT hT0 with z | z | z | z | z
          · exact ⟨0, by omega, z⟩
          · exact ⟨1, by omega, z⟩
          · exact ⟨2, by omega, z⟩
          · exact ⟨3, by omega, z⟩
          · exact ⟨4, by omega, z⟩
        obtain ⟨i, hi, hTi⟩ := hi
        have k4 := td_t4 i hi
        have k7 := td_t7 T hT i hi hTi
        have c1 := hC (2 ^ i) k4.2 k7
        rw [k4.1] at c1
        obtain ⟨v, hv, hu, hCv⟩ := td_rm_pos 8 (show 0 < td_rm E C (2 ^ i) 8 from c1)
        have hE : E i v = true := by
          obtain ⟨j, _, hj, hEj⟩ := (td_ub_iff 5).mp hu
          rw [Nat.testBit_two_pow, decide_eq_true_eq] at hj
          rw [hj]
          exact hEj
        have hX : T ^^^ 2 ^ i < 32 := Nat.xor_lt_two_pow (n := 5) hT k4.2
        have k1 := td_t1 (2 ^ i) k4.2 T hT k7
        obtain ⟨g, a, b⟩ := ih (td_sz (T ^^^ 2 ^ i) 7) (by omega) (T ^^^ 2 ^ i) rfl hX (fun u => if u = v then C u - 1 else C u) (fun S h1 h2 => by
          by_cases hS0 : S = 0
          · rw [hS0]
            exact Nat.zero_le _
          · have hST : S &&& T = S := by
              have := td_un2 k7 h2
              exact td_sub_tr (show S &&& (2 ^ i ||| S) = S from by
                apply Nat.eq_of_testBit_eq
                intro j
                rw [Nat.testBit_and, Nat.testBit_or]
                cases S.testBit j <;> cases (2 ^ i).testBit j <;> rfl) this
            have d1 := hC S h1 hST
            have d2 : td_sz S 7 ≠ td_rm E C S 8 := by
              intro z
              refine hB ⟨S, h1, hST, hS0, ?_, z⟩
              intro y
              rw [y] at h2
              have := td_sub h2 hTi
              rw [Nat.testBit_xor, hTi, Nat.testBit_two_pow_self] at this
              exact absurd this (by decide)
            have d3 := td_rm_dec (E := E) (C := C) (S := S) (v := v) 8
            rw [if_pos hv] at d3
            omega)
        refine ⟨fun j => if j = i then v else g j, fun j hj hTj => ?_, fun u => ?_⟩
        · show (if j = i then v else g j) < 8 ∧ E j (if j = i then v else g j) = true
          by_cases q : j = i
          · rw [if_pos q, q]
            exact ⟨hv, hE⟩
          · rw [if_neg q]
            refine a j hj ?_
            rw [Nat.testBit_xor, hTj, Nat.testBit_two_pow_of_ne (fun z => q z.symm)]
            rfl
        · have d1 := td_nu_ad (g := g) (v := u) (w := v) hTi 5
          have d2 : td_nu g (T ^^^ 2 ^ i) u 5 ≤ if u = v then C u - 1 else C u := b u
          by_cases q : u = v
          · rw [if_pos q] at d2
            rw [if_pos ⟨hi, q.symm⟩] at d1
            rw [q] at d1 d2
            rw [q]
            omega
          · rw [if_neg q] at d2
            rw [if_neg (fun z => q z.2.symm)] at d1
            omega
